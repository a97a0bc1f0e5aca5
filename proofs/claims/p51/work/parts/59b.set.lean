/-! Part 59b: LineOffice: set -/
theorem sp_val_ix {x y : Int32} (h : sp_val x y = true) : ∃ j, j < 10 ∧ x = nI j := by
  unfold sp_val at h
  obtain ⟨i, hi, he⟩ := ow_ex_iff.mp h
  simp only [Bool.and_eq_true, decide_eq_true_eq] at he
  exact ⟨i, hi, he.1⟩
section OWK
variable {G : kz_G} {d mc ms : Nat} {Qr : Option Value → kz_M → Prop} {Qx : String → kz_M → Prop} {M : kz_M} {O : ow_O} {hn : Nat} {h : Nat → ow_O} {sv : ow_O} {isS : Bool} {er : Nat} {ea : Int32} {n : Nat} {b : Nat → Nat} {l : List Nat}
theorem c_set {x y : Int32} (hG : kz_stat G) (I : ow_CI M O hn h sv isS er ea n b l) (hO : ow_Ok1 O) (hmc : 1 ≤ mc) (hms : 6 ≤ ms) (q0 : sp_val x y = false → ow_thr Qx M ow_IA) (q1 : ∀ j m, j < 10 → x = nI j → y = nI m → ow_lo j ≤ m → m ≤ ow_hi j → sp_val x y = true → ∀ M1, ow_Cf M M1 → ow_CI M1 (o_rule O j m) (o_keep hn h O).1 (o_keep hn h O).2 sv isS er ea n b l → Qr (some (.int (nI (o_ru O j)))) M1) : kz_C G (d + 8) mc ms mX11_set [.ref 0, .int x, .int y] M Qr Qx := by
  obtain ⟨r, hr⟩ := I.hs.ob
  refine rX11_set_0 ⟨I.ob, 1, 6, by omega, by omega, c_checkValue hG (by omega) (by omega) q0 fun hv => ⟨rfl, ?_⟩⟩
  obtain ⟨j, hj, rfl⟩ := sp_val_ix hv
  obtain ⟨m, rfl, h1, h2⟩ := sp_val_me hj hv
  refine ⟨_, _, I.1, rfl, _, _, I.1, rfl, ⟨_, hr⟩, c_hkeep I.hs I.off hO fun M1 g1 g2 g3 => ⟨rfl, ?_⟩⟩
  have J := I.hist g1 g2 g3
  obtain ⟨fr, fn, fb, fp, fh, fl, R, P, Ph⟩ := J.off.op
  have S : ow_Sm (ow_in 5) M1 (kz_up M1 (5 + 1) (.inr (.int, 10, .inl (upd fr j (nI m))))) := (ow_Sm.rfl' _ M1).up ⟨by omega, by omega⟩
  refine ⟨_, _, J.1, rfl, J.off.ob, c_rule J.off hj ⟨_, rfl, _, _, J.1, rfl, _, _, J.off.1, rfl, c_put R.2.2.1 hj (by omega) ⟨rfl, ?_⟩⟩⟩
  have o3 : ow_RO (kz_up M1 (5 + 1) (.inr (.int, 10, .inl (upd fr j (nI m))))) 5 (o_rule O j m) := R.u1.cl (O := o_rule O j m) ⟨fun i hi => by
    show upd fr j (nI m) i = nI (if i = j then m else o_ru O i)
    unfold upd
    split
    · rfl
    · exact P.1 i hi, P.2⟩ (Ph.keep (S.kpS (by decide)))
  exact q1 j m hj rfl rfl h1 h2 hv _ ((ow_inH_cf g1 g2).trans (ow_in5_cf S rfl)) (J.now S rfl o3)
end OWK
