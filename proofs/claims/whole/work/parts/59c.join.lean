/-! Part 59c: LineOffice: addWriter -/
section OWK
variable {G : kz_G} {d mc ms : Nat} {Qr : Option Value → kz_M → Prop} {Qx : String → kz_M → Prop} {M : kz_M} {O : ow_O} {hn : Nat} {h : Nat → ow_O} {sv : ow_O} {isS : Bool} {er : Nat} {ea : Int32} {n : Nat} {b : Nat → Nat} {l : List Nat}
theorem c_addWriter (hG : kz_stat G) (I : ow_CI M O hn h sv isS er ea n b l) (hO : ow_Ok1 O) (q0 : (sp_name (ow_ww n b) && !sp_taken O (ow_ww n b)) = false → ∀ M1, ow_Cf M M1 → ow_CI M1 O hn h sv isS er ea 0 b l → Qr (some (.int (-2))) M1) (q1 : sp_name (ow_ww n b) = true → sp_taken O (ow_ww n b) = false → 6 ≤ o_nw O → ∀ M1, ow_Cf M M1 → ow_CI M1 O hn h sv isS er ea 0 b l → Qr (some (.int (-3))) M1) (q2 : sp_name (ow_ww n b) = true → sp_taken O (ow_ww n b) = false → o_nw O < 6 → ∀ M1, ow_Cf M M1 → ow_CI M1 (o_enrol O (ow_ww n b)) (o_keep hn h O).1 (o_keep hn h O).2 sv isS er ea 0 b l → Qr (some (.int (nI (o_nw O)))) M1) : kz_C G (d + 7) 0 0 mX11_addWriter [.ref 0] M Qr Qx := by
  have hw := ow_ww_lt (n := n) (b := b)
  have J := I.in0
  have S : ow_Sm (· = 1) M (kz_up M 1 (.inl (1, [.ref 2, .int (nI 0)]))) := fun k hk => kz_up_ne hk
  have C1 := S.cf rfl fun k hk => by subst hk; omega
  obtain ⟨r, hr⟩ := J.hs.ob
  refine rX11_addWriter_0 ⟨_, _, I.1, rfl, I.2.1.ob, c_wholeWord I.2.1 ⟨_, rfl, _, _, I.1, rfl, _, I.2.1.1, ow_l rfl, c_isName hG hw ⟨_, rfl, ow_if0 (fun hnm => q0 (by rw [hnm]; rfl) _ C1 J) (fun hnm => ⟨_, _, J.1, rfl, J.off.ob, c_hasWriter J.off hO hw ⟨_, rfl, ow_if0 (fun htn => ?_) (fun htn => q0 (by rw [show sp_taken O (ow_ww n b) = true from htn]; simp) _ C1 J)⟩⟩)⟩⟩⟩
  have htn' : sp_taken O (ow_ww n b) = false := htn
  refine ⟨_, _, J.1, rfl, _, _, J.off.1, rfl, pk_lt (o_nw O) 6 (fun hlt => ⟨_, _, J.1, rfl, _, _, J.1, rfl, ⟨_, hr⟩, c_hkeep J.hs J.off hO fun M1 g1 g2 g3 => ⟨rfl, ?_⟩⟩) (fun hge => q1 hnm htn' hge _ C1 J) rfl rfl (by have := hO.1.2.2.1; omega) (by omega)⟩
  have J1 := J.hist g1 g2 g3
  refine ⟨_, _, J1.1, rfl, J1.off.ob, c_enrol J1.off hlt (by decide) fun M2 k1 k2 k3 => ⟨rfl, ?_⟩⟩
  have J2 := J1.now k1 k2 k3
  refine ⟨_, _, J2.1, rfl, _, _, J2.off.1, rfl, ?_⟩
  rw [show nI (o_nw (o_enrol O (ow_ww n b))) - 1 = nI (o_nw O) from nI_pred _]
  exact q2 hnm htn' hlt M2 (C1.trans ((ow_inH_cf g1 g2).trans (ow_in5_cf k1 k2))) J2
end OWK
