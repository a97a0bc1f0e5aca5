/-! Part 59d: LineOffice: appendInput -/
def sp_ap (n : Nat) (b : Nat → Nat) (x1 x2 x3 x4 x5 : Int32) : Nat → Nat := ow_ap (n + 4 + 4 + 4 + 4) (ow_ap (n + 4 + 4 + 4) (ow_ap (n + 4 + 4) (ow_ap (n + 4) (ow_ap n b x1) x2) x3) x4) x5
section OWK
variable {G : kz_G} {d mc ms : Nat} {Qr : Option Value → kz_M → Prop} {Qx : String → kz_M → Prop} {M : kz_M} {O : ow_O} {hn : Nat} {h : Nat → ow_O} {sv : ow_O} {isS : Bool} {er : Nat} {ea : Int32} {n : Nat} {b : Nat → Nat} {l : List Nat}
theorem ow_CI.inp {M1 : kz_M} {n' : Nat} {b' : Nat → Nat} (I : ow_CI M O hn h sv isS er ea n b l) (g : ow_Sm (fun k => k = 1 ∨ k = 2) M M1) (e : M1.2 = M.2) (hI : ow_RI M1 n' b') : ow_CI M1 O hn h sv isS er ea n' b' l := by
  obtain ⟨k, P, hp⟩ := I.2.2.2.2.2.2.2.1
  exact I.mv (g.mono fun k hk => hk.elim Or.inl fun z => Or.inr (Or.inl z)) hI ⟨k, P, hp.mv (g.kp fun k hk => by show k < 99; omega) (g 97 (by omega)) (g 98 (by omega))⟩ e
theorem ow_in2_cf {M1 : kz_M} (g : ow_Sm (fun k => k = 1 ∨ k = 2) M M1) (e : M1.2 = M.2) : ow_Cf M M1 := g.cf e fun k hk => by omega
theorem c_appendInput {x1 x2 x3 x4 x5 : Int32} (I : ow_CI M O hn h sv isS er ea n b l) (q0 : 600 < n + 20 → Qr (some (.int (-1))) M) (q1 : n + 20 ≤ 600 → ∀ M1, ow_Cf M M1 → ow_CI M1 O hn h sv isS er ea (n + 20) (sp_ap n b x1 x2 x3 x4 x5) l → Qr (some (.int (nI (n + 20)))) M1) : kz_C G (d + 2) 0 0 mX11_appendInput [.ref 0, .int x1, .int x2, .int x3, .int x4, .int x5] M Qr Qx := by
  refine rX11_appendInput_0 ⟨_, _, I.1, rfl, I.2.1.ob, c_room I.2.1 ⟨_, rfl, ow_ifn (fun hz => ?_) (fun hz => q0 (by simp at hz; omega))⟩⟩
  have hz : n + 20 ≤ 600 := by simpa using hz
  refine ⟨_, _, I.1, rfl, I.2.1.ob, c_appendFour I.2.1 (by omega) fun M1 s1 t1 r1 => ⟨rfl, ?_⟩⟩
  have I1 := I.inp s1 t1 r1
  refine ⟨_, _, I1.1, rfl, r1.ob, c_appendFour r1 (by omega) fun M2 s2 t2 r2 => ⟨rfl, ?_⟩⟩
  have I2 := I1.inp s2 t2 r2
  refine ⟨_, _, I2.1, rfl, r2.ob, c_appendFour r2 (by omega) fun M3 s3 t3 r3 => ⟨rfl, ?_⟩⟩
  have I3 := I2.inp s3 t3 r3
  refine ⟨_, _, I3.1, rfl, r3.ob, c_appendFour r3 (by omega) fun M4 s4 t4 r4 => ⟨rfl, ?_⟩⟩
  have I4 := I3.inp s4 t4 r4
  refine ⟨_, _, I4.1, rfl, r4.ob, c_appendFour r4 (by omega) fun M5 s5 t5 r5 => ⟨rfl, ?_⟩⟩
  have I5 := I4.inp s5 t5 r5
  exact ⟨_, _, I5.1, rfl, _, _, I5.2.1.1, rfl, q1 hz M5 ((ow_in2_cf s1 t1).trans ((ow_in2_cf s2 t2).trans ((ow_in2_cf s3 t3).trans ((ow_in2_cf s4 t4).trans (ow_in2_cf s5 t5))))) I5⟩
end OWK
