/-! Part 59i: LineOffice: appeal -/
/-- every work's writer is one of the office -/
def ow_Ow (O : ow_O) : Prop := ∀ i, i < o_wk O → (o_ws O i).1 < o_nw O
def sp_gr (O : ow_O) (w : ow_W) (l : ow_L) : Bool := decide (o_ru O 5 ≤ ow_df w.2.2.1.2.2.1 l.1 l.2.1)
def o_lose (O : ow_O) (j k : Nat) : ow_O := o_book (o_repl O j (ow_wst (o_ws O j) k 3)) (o_ws O j).1 3 (-(nI (o_ru O 6)))
def o_gain (O : ow_O) (j k : Nat) : ow_O := o_book (o_repl O j (ow_wst (o_ws O j) k 2)) (o_ws O j).1 2 (((o_ws O j).2.2.2.2 k).2.2.2.1 + nI (o_ru O 3))
theorem ow_Wok.wst {w : ow_W} (h : ow_Wok w) {k st : Nat} (hk : k < w.2.2.2.1) (hst : st ≤ 3) : ow_Wok (ow_wst w k st) := by
  refine ⟨h.1, h.2.1, h.2.2.1, h.2.2.2.1, fun i hi => ?_⟩
  show ow_Lok w.2.2.1 (if i = k then _ else _)
  split
  · obtain ⟨h1, h2, h3, h4⟩ := h.2.2.2.2 k hk
    exact ⟨h1, h2, h3, hst⟩
  · exact h.2.2.2.2 i hi
theorem ow_Ok1.repl {O : ow_O} {w : ow_W} {j : Nat} (hO : ow_Ok1 O) (hw : ow_Wok w) : ow_Ok1 (o_repl O j w) := by
  refine ⟨hO.1, hO.2.1, hO.2.2.1, fun i hi => ?_⟩
  show ow_Wok (if i = j then w else o_ws O i)
  split
  · exact hw
  · exact hO.2.2.2 i hi
section OWK
variable {G : kz_G} {d mc ms : Nat} {Qr : Option Value → kz_M → Prop} {Qx : String → kz_M → Prop} {M : kz_M} {O : ow_O} {hn : Nat} {h : Nat → ow_O} {sv : ow_O} {isS : Bool} {er : Nat} {ea : Int32} {n : Nat} {b : Nat → Nat} {l : List Nat}
theorem c_appeal {x y : Int32} (hG : kz_stat G) (I : ow_CI M O hn h sv isS er ea n b l) (hO : ow_Ok1 O) (hOw : ow_Ow O) (hmc : 6 ≤ mc) (hms : 89 ≤ ms) (q0 : (∀ j k, j < o_wk O → k < (o_ws O j).2.2.2.1 → x = nI j → y = nI k → False) → ow_thr Qx M ow_IO) (q1 : ∀ j k, j < o_wk O → x = nI j → k < (o_ws O j).2.2.2.1 → y = nI k → o_obj O (o_ws O j) ((o_ws O j).2.2.2.2 k) ≠ 0 → Qr (some (.int (-(nI (o_obj O (o_ws O j) ((o_ws O j).2.2.2.2 k)))))) M) (q2 : ∀ j k, j < o_wk O → x = nI j → k < (o_ws O j).2.2.2.1 → y = nI k → o_obj O (o_ws O j) ((o_ws O j).2.2.2.2 k) = 0 → sp_gr O (o_ws O j) ((o_ws O j).2.2.2.2 k) = false → ∀ M1, ow_Cf M M1 → ow_CI M1 (o_lose O j k) (o_keep hn h O).1 (o_keep hn h O).2 sv isS er ea n b l → Qr (some (.int 0)) M1) (q3 : ∀ j k, j < o_wk O → x = nI j → k < (o_ws O j).2.2.2.1 → y = nI k → o_obj O (o_ws O j) ((o_ws O j).2.2.2.2 k) = 0 → sp_gr O (o_ws O j) ((o_ws O j).2.2.2.2 k) = true → ∀ M1, ow_Cf M M1 → ow_CI M1 (o_gain O j k) (o_keep hn h O).1 (o_keep hn h O).2 sv isS er ea n b l → Qr (some (.int 1)) M1) : kz_C G (d + 9) mc ms mX11_appeal [.ref 0, .int x, .int y] M Qr Qx := by
  have hwk := hO.1.2.2.2.1
  obtain ⟨rr, hr⟩ := I.hs.ob
  refine rX11_appeal_0 ⟨I.ob, 1, 6, by omega, by omega, c_workOr hG I hO (by omega) (by omega) (fun hx => q0 fun j k hj hk e _ => hx j hj e) fun j a hj e hw => ⟨_, rfl, I.ob, 2, 12, by omega, by omega, c_lineOr hG I hO (by omega) (by omega) q0 fun j' k a' sc hj' e' hk ek hl hs => ⟨_, rfl, ?_⟩⟩⟩
  have : j = j' := ow_inj (by omega) (by omega) e e'
  subst this
  subst e
  subst ek
  have hW := hO.2.2.2 j hj
  have hm60 := hW.2.1
  have hn60 := hW.1.2.2.1
  have hL := hW.2.2.2.2 k hk
  have hL2 := hL.2.1
  have hob3 : o_obj O (o_ws O j) ((o_ws O j).2.2.2.2 k) ≤ 3 := by
    unfold o_obj
    repeat' split
    all_goals decide
  refine ⟨_, _, I.1, rfl, I.off.ob, c_objectionTo I.off hO hw hW hl hL.2.2.2 ⟨_, rfl, pk_eq (o_obj O (o_ws O j) ((o_ws O j).2.2.2.2 k)) 0 (fun hz => ?_) (fun hz => q1 j k hj rfl hk rfl hz) rfl rfl⟩⟩
  refine ⟨_, _, I.1, rfl, _, _, I.1, rfl, ⟨_, hr⟩, c_hkeep I.hs I.off hO fun M1 g1 g2 g3 => ⟨rfl, ?_⟩⟩
  have J := I.hist g1 g2 g3
  have C1 := ow_inH_cf g1 g2
  have hl1 := hl.keep C1.1
  have hs1 := hs.keep C1.1
  have hw1 := hw.keep C1.1
  have hdf := ow_df_le (o_ws O j).2.2.1.2.2.1 ((o_ws O j).2.2.2.2 k).1 ((o_ws O j).2.2.2.2 k).2.1
  have hru5 := hO.2.1 5 (by omega)
  have ww : ∀ (M2 : kz_M), ow_Cf M1 M2 → ∃ fs, M2.1 a = some (.inl (9, fs)) ∧ fs[0]? = some (.int (nI (o_ws O j).1)) := fun M2 C => by
    obtain ⟨s2, al2, f2, w2, -⟩ := hw1.keep C.1
    exact ⟨_, w2, rfl⟩
  refine ⟨⟨_, hl1.1⟩, c_different ⟨sc, hl1, hs1⟩ hW.1 hL ⟨_, rfl, _, _, J.1, rfl, J.off.ob, c_rule (i := 5) J.off (by omega) ⟨_, rfl, pk_lt (ow_df (o_ws O j).2.2.1.2.2.1 ((o_ws O j).2.2.2.2 k).1 ((o_ws O j).2.2.2.2 k).2.1) (o_ru O 5) (fun hd => ?_) (fun hd => ?_) rfl rfl⟩⟩⟩
  · refine ⟨_, _, J.1, rfl, ow_y rfl ⟨hw1.ob, 3, 71, by omega, by omega, kz_Cfr fun hf => c_wwithState (st := 3) hw1 hm60 hk J.Kle (by omega) (by omega) fun M2 w g4 W => ⟨_, rfl, ?_⟩⟩⟩
    have J2 := J.nwF hf g4
    have C2 := g4.cfF hf J.Kle
    refine ⟨J2.off.ob, c_replaceWork J2.off hwk (by decide) hj W fun M3 m1 m2 m3 => ⟨rfl, ow_y rfl ?_⟩⟩
    have J3 := J2.now m1 m2 m3
    have C3 := C2.trans (ow_in5_cf m1 m2)
    obtain ⟨fs, w3, w4⟩ := ww M3 C3
    have hO3 : ow_Ok1 (o_repl O j (ow_wst (o_ws O j) k 3)) := hO.repl (hW.wst hk (by omega))
    exact ⟨_, _, J3.1, rfl, _, _, w3, w4, _, _, J3.1, rfl, J3.off.ob, c_rule (i := 6) J3.off (by omega) ⟨_, rfl, J3.off.ob, c_book J3.off hO3 (by decide) (hOw j hj) fun M4 n1 n2 n3 => ⟨rfl, ow_y rfl (q2 j k hj rfl hk rfl hz (by unfold sp_gr; rw [decide_eq_false (by omega)]) M4 ((C1.trans C3).trans (ow_in5_cf n1 n2)) (J3.now n1 n2 n3))⟩⟩⟩
  · refine ⟨_, _, J.1, rfl, fun z => absurd z (by decide), fun _ => ⟨hw1.ob, 3, 71, by omega, by omega, kz_Cfr fun hf => c_wwithState (st := 2) hw1 hm60 hk J.Kle (by omega) (by omega) fun M2 w g4 W => ⟨_, rfl, ?_⟩⟩⟩
    have J2 := J.nwF hf g4
    have C2 := g4.cfF hf J.Kle
    refine ⟨J2.off.ob, c_replaceWork J2.off hwk (by decide) hj W fun M3 m1 m2 m3 => ⟨rfl, fun z => absurd z (by decide), fun _ => ?_⟩⟩
    have J3 := J2.now m1 m2 m3
    have C3 := C2.trans (ow_in5_cf m1 m2)
    obtain ⟨fs, w3, w4⟩ := ww M3 C3
    have hO3 : ow_Ok1 (o_repl O j (ow_wst (o_ws O j) k 2)) := hO.repl (hW.wst hk (by omega))
    have hl3 := hl1.keep C3.1
    exact ⟨_, _, J3.1, rfl, _, _, w3, w4, _, _, hl3.1, rfl, _, _, J3.1, rfl, J3.off.ob, c_rule (i := 3) J3.off (by omega) ⟨_, rfl, J3.off.ob, c_book J3.off hO3 (by decide) (hOw j hj) fun M4 n1 n2 n3 => ⟨rfl, fun z => absurd z (by decide), fun _ => q3 j k hj rfl hk rfl hz (by unfold sp_gr; rw [decide_eq_true hd]) M4 ((C1.trans C3).trans (ow_in5_cf n1 n2)) (J3.now n1 n2 n3)⟩⟩⟩
end OWK
