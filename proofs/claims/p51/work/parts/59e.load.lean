/-! Part 59e: LineOffice: loadOffice -/
section OWK
variable {G : kz_G} {d mc ms : Nat} {Qr : Option Value → kz_M → Prop} {Qx : String → kz_M → Prop} {M : kz_M} {O : ow_O} {hn : Nat} {h : Nat → ow_O} {sv : ow_O} {isS : Bool} {er : Nat} {ea : Int32} {n : Nat} {b : Nat → Nat} {l : List Nat}
theorem ow_CI.set {M1 : kz_M} (I : ow_CI M O hn h sv isS er ea n b l) (g : ow_Sm ow_in8 M M1) (e : M1.2 = M.2) (hs : ∃ en er' ea' O' t', ow_ST M1 en er' ea' O' t') : ow_CI M1 O hn h sv isS er ea n b l := by
  obtain ⟨i1, i2, i3, i4, i5, i6, i7, ⟨k, P, i8⟩, i9⟩ := I
  have K : ow_Kp M M1 := g.kp fun k hk => by show k < 99; have := hk.2; omega
  have o : ∀ k, ¬ ow_in8 k → M1.1 k = M.1 k := g
  exact ⟨(o 0 (fun z => by have := z.1; omega)).trans i1, i2.mv (o 1 (fun z => by have := z.1; omega)) (o 2 (fun z => by have := z.1; omega)), i3.mv (o 3 (fun z => by have := z.1; omega)) (o 4 (fun z => by have := z.1; omega)), i4.mv K fun k h1 h2 => o k (fun z => by have := z.1; omega), i5.mv K fun k h1 h2 => o k (fun z => by have := z.1; omega), i6.mv K fun k hk => o k (fun z => by have := z.1; have := hk.2; omega), hs, ⟨k, P, i8.mv K (o 97 (fun z => by have := z.2; omega)) (o 98 (fun z => by have := z.2; omega))⟩, by omega⟩
theorem c_loadOffice (hG : kz_stat G) (I : ow_CI M O hn h sv isS er ea n b l) (q0 : ∀ c o, sp_read n b = .inl (c, o) → ∀ M1, ow_Cf M M1 → ow_CI M1 O hn h sv isS c (nI o) 0 b l → Qr (some (.int (-1))) M1) (q1 : ∀ p O' t', sp_read n b = .inr (p, O', t') → ow_Ok1 O' → ∀ M1 h', ow_Cf M M1 → ow_CI M1 O' 0 h' sv false 0 (-1) 0 b l → Qr (some (.int (nI (o_nw O')))) M1) : kz_C G (d + 9) 0 0 mX11_loadOffice [.ref 0] M Qr Qx := by
  obtain ⟨en, er', ea', O', t', ⟨⟨tk, st, w, v, s1⟩, s2, s3⟩⟩ := I.2.2.2.2.2.2.1
  refine rX11_loadOffice_0 ⟨_, _, I.1, rfl, _, _, I.1, rfl, ⟨_, s1⟩, c_rread hG I.2.1 s1 s2 s3 fun M5 r hr => ?_⟩
  obtain ⟨p1, p2, p3⟩ := hr
  have C5 : ow_Cf M M5 := p1.cf p2 fun k hk => by have := hk.2; omega
  cases hrd : sp_read n b with
  | inl e =>
    rw [hrd] at p3
    obtain ⟨p4, en2, O2, t2, p5⟩ := p3
    have J := I.set p1 p2 ⟨_, _, _, _, _, p5⟩
    have J1 := J.in0
    obtain ⟨⟨tk2, st2, w2, v2, x1⟩, -, -⟩ := p5
    have J2 := J1.fld (isS' := isS) (er' := e.1) (ea' := ea)
    have J3 := J2.fld (isS' := isS) (er' := e.1) (ea' := nI e.2)
    have C6 : ow_Cf M5 (kz_up M5 1 (.inl (1, [.ref 2, .int (nI 0)]))) := (show ow_Sm (· = 1) M5 _ from fun k hk => kz_up_ne hk).cf rfl fun k hk => by subst hk; omega
    have C7 : ∀ (M : kz_M) (e : kz_E), ow_Cf M (kz_up M 0 e) := fun M e => (show ow_Sm (· = 0) M _ from fun k hk => kz_up_ne hk).cf rfl fun k hk => by subst hk; omega
    have y1 : (kz_up M5 1 (.inl (1, [.ref 2, .int (nI 0)]))).1 87 = _ := (kz_up_ne (by omega)).trans x1
    refine ⟨0, p4, _, _, J.1, rfl, _, J.2.1.1, ow_l rfl, _, _, J1.1, rfl, _, _, y1, rfl, _, J1.1, ow_l rfl, _, _, J2.1, rfl, _, _, (kz_up_ne (by omega)).trans y1, rfl, _, J2.1, ow_l rfl, fun z => absurd rfl z, fun _ => ?_⟩
    exact q0 e.1 e.2 hrd _ (C5.trans (C6.trans ((C7 _ _).trans (C7 _ _)))) J3
  | inr z =>
    rw [hrd] at p3
    obtain ⟨p4, p5, p6⟩ := p3
    have J := I.set p1 p2 ⟨_, _, _, _, _, p5⟩
    have J1 := J.in0
    obtain ⟨⟨tk2, st2, w2, v2, x1⟩, x2, x3⟩ := p5
    have J2 := J1.fld (isS' := isS) (er' := 0) (ea' := ea)
    have J3 := J2.fld (isS' := isS) (er' := 0) (ea' := -1)
    have S1 : ow_Sm (· = 1) M5 (kz_up M5 1 (.inl (1, [.ref 2, .int (nI 0)]))) := fun k hk => kz_up_ne hk
    have S0 : ∀ (M : kz_M) (e : kz_E), ow_Sm (· = 0) M (kz_up M 0 e) := fun M e k hk => kz_up_ne hk
    have C6 := S1.cf rfl fun k hk => by subst hk; omega
    have C7 : ∀ (M : kz_M) (e : kz_E), ow_Cf M (kz_up M 0 e) := fun M e => (S0 M e).cf rfl fun k hk => by subst hk; omega
    have y1 : (kz_up M5 1 (.inl (1, [.ref 2, .int (nI 0)]))).1 87 = _ := (kz_up_ne (by omega)).trans x1
    have o1 := ((x2.sm S1 fun k hk => ⟨by subst hk; decide, by omega⟩).sm (S0 _ (.inl (10, [.ref 1, .ref 3, .ref 5, .ref 13, .ref 21, .ref 87, .ref 97, .int (ow_b isS), .int (nI 0), .int ea]))) fun k hk => ⟨by subst hk; decide, by omega⟩).sm (S0 _ (.inl (10, [.ref 1, .ref 3, .ref 5, .ref 13, .ref 21, .ref 87, .ref 97, .int (ow_b isS), .int (nI 0), .int (-1)]))) fun k hk => ⟨by subst hk; decide, by omega⟩
    refine ⟨1, p4, _, _, J.1, rfl, _, J.2.1.1, ow_l rfl, _, _, J1.1, rfl, _, _, y1, rfl, _, J1.1, ow_l rfl, _, _, J2.1, rfl, _, _, (kz_up_ne (by omega)).trans y1, rfl, _, J2.1, ow_l rfl, fun _ => ?_, fun z => absurd z (by decide)⟩
    refine ⟨_, _, J3.1, rfl, _, _, J3.1, rfl, _, _, (kz_up_ne (by omega)).trans ((kz_up_ne (by omega)).trans y1), rfl, J3.off.ob, c_takeOver J3.off o1 p6 (by omega) (by decide) fun M7 g1 g2 g3 => ⟨rfl, ?_⟩⟩
    have J4 := J3.now g1 g2 g3
    obtain ⟨r, hr⟩ := J4.hs.ob
    refine ⟨_, _, J4.1, rfl, ⟨_, hr⟩, c_hforget J4.hs fun M8 h' k1 k2 k3 => ⟨rfl, ?_⟩⟩
    have k1' : ow_Sm ow_inH M7 M8 := k1.mono fun k hk => by subst hk; exact ⟨by omega, by omega⟩
    have J5 := J4.hist k1' k2 k3
    have J6 := J5.fld (isS' := false) (er' := 0) (ea' := -1)
    exact ⟨_, J5.1, ow_l rfl, _, _, J6.1, rfl, _, _, J6.off.1, rfl, q1 z.1 z.2.1 z.2.2 hrd p6 _ h' (C5.trans (C6.trans ((C7 _ _).trans ((C7 _ _).trans ((ow_in5_cf g1 g2).trans ((ow_inH_cf k1' k2).trans (C7 _ _))))))) J6⟩
end OWK
