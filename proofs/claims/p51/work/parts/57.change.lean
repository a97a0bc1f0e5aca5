/-! Part 57: LineOffice: changes: pass, endow, truncateInput, saveState -/
section OWK
variable {G : kz_G} {d mc ms : Nat} {Qr : Option Value → kz_M → Prop} {Qx : String → kz_M → Prop} {M : kz_M} {O : ow_O} {hn : Nat} {h : Nat → ow_O} {sv : ow_O} {isS : Bool} {er : Nat} {ea : Int32} {n : Nat} {b : Nat → Nat} {l : List Nat}
theorem ow_RP.mv {M1 : kz_M} {p pl k : Nat} {P : ow_P} (H : ow_RP M p pl k P) (g : ow_Kp M M1) (e1 : M1.1 p = M.1 p) (e2 : M1.1 pl = M.1 pl) : ow_RP M1 p pl k P := by
  obtain ⟨p1, p2, f, p3, p4⟩ := H
  refine ⟨e1.trans p1, p2, f, e2.trans p3, fun i hi => ?_⟩
  obtain ⟨⟨b', hb, hL⟩, h2⟩ := p4 i hi
  exact ⟨⟨b', hb, hL.keep g⟩, h2⟩
theorem ow_CI.hist {M1 : kz_M} {hn' : Nat} {h' : Nat → ow_O} (I : ow_CI M O hn h sv isS er ea n b l) (g : ow_Sm ow_inH M M1) (e : M1.2 = M.2) (hh : ow_RHl M1 h' hn') : ow_CI M1 O hn' h' sv isS er ea n b l := by
  obtain ⟨i1, i2, i3, i4, i5, i6, ⟨en, er', ea', O', t', i7⟩, ⟨k, P, i8⟩, i9⟩ := I
  have K : ow_Kp M M1 := g.kp fun k hk => by show k < 99; have := hk.2; omega
  have o : ∀ k, ¬ ow_inH k → M1.1 k = M.1 k := g
  exact ⟨(o 0 (fun z => by have := z.1; omega)).trans i1, i2.mv (o 1 (fun z => by have := z.1; omega)) (o 2 (fun z => by have := z.1; omega)), i3.mv (o 3 (fun z => by have := z.1; omega)) (o 4 (fun z => by have := z.1; omega)), i4.mv K fun k h1 h2 => o k (fun z => by have := z.1; omega), i5.mv K fun k h1 h2 => o k (fun z => by have := z.1; omega), hh, ⟨en, er', ea', O', t', i7.mv K fun k hk => o k (fun z => by have := z.2; have := hk.1; omega)⟩, ⟨k, P, i8.mv K (o 97 (fun z => by have := z.2; omega)) (o 98 (fun z => by have := z.2; omega))⟩, by omega⟩
theorem ow_CI.now {M1 : kz_M} {O1 : ow_O} (I : ow_CI M O hn h sv isS er ea n b l) (g : ow_Sm (ow_in 5) M M1) (e : M1.2 = M.2) (hh : ow_RO M1 5 O1) : ow_CI M1 O1 hn h sv isS er ea n b l := by
  obtain ⟨i1, i2, i3, i4, i5, i6, ⟨en, er', ea', O', t', i7⟩, ⟨k, P, i8⟩, i9⟩ := I
  have K : ow_Kp M M1 := g.kp fun k hk => by show k < 99; have := hk.2; omega
  have o : ∀ k, ¬ ow_in 5 k → M1.1 k = M.1 k := g
  exact ⟨(o 0 (fun z => by have := z.1; omega)).trans i1, i2.mv (o 1 (fun z => by have := z.1; omega)) (o 2 (fun z => by have := z.1; omega)), i3.mv (o 3 (fun z => by have := z.1; omega)) (o 4 (fun z => by have := z.1; omega)), hh, i5.mv K fun k h1 h2 => o k (fun z => by have := z.2; omega), i6.mv K fun k hk => o k (fun z => by have := z.2; have := hk.1; omega), ⟨en, er', ea', O', t', i7.mv K fun k hk => o k (fun z => by have := z.2; have := hk.1; omega)⟩, ⟨k, P, i8.mv K (o 97 (fun z => by have := z.2; omega)) (o 98 (fun z => by have := z.2; omega))⟩, by omega⟩
theorem ow_inH_cf {M1 : kz_M} (g : ow_Sm ow_inH M M1) (e : M1.2 = M.2) : ow_Cf M M1 := g.cf e fun k hk => by have := hk.2; omega
theorem ow_in5_cf {M1 : kz_M} (g : ow_Sm (ow_in 5) M M1) (e : M1.2 = M.2) : ow_Cf M M1 := g.cf e fun k hk => by have := hk.2; omega
def o_pass (O : ow_O) (m : Nat) : ow_O := (o_dy O + m, o_mo O, o_nw O, o_wk O, o_ru O, o_nm O, o_ba O, o_pd O, o_ws O, o_ne O, o_le O)
theorem c_pass {x : Int32} (hG : kz_stat G) (I : ow_CI M O hn h sv isS er ea n b l) (hO : ow_Ok1 O) (hmc : 1 ≤ mc) (hms : 6 ≤ ms) (q0 : (∀ m, 1 ≤ m → m ≤ 99 → x ≠ nI m) → ow_thr Qx M ow_IA) (q1 : ∀ m, 1 ≤ m → m ≤ 99 → x = nI m → 9999 < o_dy O + m → ow_thr Qx M ow_IS) (q2 : ∀ m, 1 ≤ m → m ≤ 99 → x = nI m → o_dy O + m ≤ 9999 → ∀ M1, ow_Cf M M1 → ow_CI M1 (o_pass O m) (o_keep hn h O).1 (o_keep hn h O).2 sv isS er ea n b l → Qr (some (.int (nI (o_dy O + m)))) M1) : kz_C G (d + 7) mc ms mX11_pass [.ref 0, .int x] M Qr Qx := by
  have hdy := hO.1.1
  rcases pk_ix x (n := 100) (by omega) with hx | hx | ⟨m, hm, rfl⟩
  · have : x < 1 := by
      rw [Int32.lt_iff_toInt_lt] at hx ⊢
      have e0 : (0 : Int32).toInt = 0 := by decide
      have e1 : (1 : Int32).toInt = 1 := by decide
      omega
    exact rX11_pass_0 hG (ow_y this ⟨by omega, by omega, q0 fun m h1 h2 e => nI_pos (n := m) (by omega) (e ▸ hx)⟩)
  · have hq : ∀ m, 1 ≤ m → m ≤ 99 → x ≠ nI m := fun m h1 h2 e => by
      rw [e] at hx
      exact nI_ge (b := 100) (a := m) (by omega) (by omega) hx
    refine rX11_pass_0 hG ⟨fun _ => ⟨by omega, by omega, q0 hq⟩, fun _ => ow_n (fun z => ?_) ⟨by omega, by omega, q0 hq⟩⟩
    rw [Int32.le_iff_toInt_le] at hx z
    have e0 : (nI 100).toInt = 100 := by decide
    have e1 : (99 : Int32).toInt = 99 := by decide
    omega
  · refine rX11_pass_0 hG (pk_lt m 1 (fun hz => ⟨by omega, by omega, q0 fun m' h1 h2 e => ?_⟩) (fun hz => ow_y (nI_le (b := 99) (by omega) (by omega)) ⟨_, _, I.1, rfl, _, _, I.off.1, rfl, pk_le (o_dy O + m) 9999 (fun hle => ⟨_, _, I.1, rfl, _, _, I.1, rfl, ?_⟩) (fun hgt => ⟨by omega, by omega, q1 m hz (by omega) rfl hgt⟩) (nI_add _ _) rfl⟩) rfl rfl)
    · have := (nI_eq (by omega) (by omega)).mp e
      omega
    · obtain ⟨r, hr⟩ := I.hs.ob
      refine ⟨⟨_, hr⟩, c_hkeep I.hs I.off hO fun M1 g1 g2 g3 => ⟨rfl, ?_⟩⟩
      have J := I.hist g1 g2 g3
      refine ⟨_, _, J.1, rfl, _, _, J.off.1, rfl, _, J.off.1, ow_l rfl, ?_⟩
      rw [nI_add]
      obtain ⟨fr, fn, fb, fp, fh, fl, R, P, Ph⟩ := J.off.op
      have S : ow_Sm (ow_in 5) M1 (kz_up M1 5 (.inl (8, ow_hd 5 (o_pass O m)))) := (ow_Sm.rfl' _ M1).up ⟨by omega, by omega⟩
      have J2 := J.now S rfl (R.u0.cl (O := o_pass O m) P (Ph.keep (S.kpS (by decide))))
      exact ⟨_, _, J2.1, rfl, _, _, J2.off.1, rfl, q2 m hz (by omega) rfl hle _ ((ow_inH_cf g1 g2).trans (ow_in5_cf S rfl)) J2⟩
def o_endow (O : ow_O) (m : Nat) : ow_O := o_money O (if o_mo O + m < 99999 then o_mo O + m else 99999)
end OWK
