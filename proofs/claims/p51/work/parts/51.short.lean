/-! Part 51: LineOffice: the short questions -/
def sp_count (O : ow_O) (hn : Nat) (j : Nat) : Int32 := [nI (o_nw O), nI (o_wk O), nI (o_ln O (fun _ => true) 0), nI (o_ln O (fun _ => true) 1), nI (o_dy O), nI (o_mo O), nI (o_ne O), o_owed O, nI hn].getD j 0
def sp_wk (w : ow_W) (j : Nat) : Int32 := [nI w.1, nI w.2.2.1.1, nI w.2.1, nI w.2.2.1.2.1, nI w.2.2.2.1, nI (ow_wl 1 w), ow_wp w, nI (ow_df w.2.2.1.2.2.1 0 w.2.2.1.2.1)].getD j 0
def sp_ln (s : ow_S) (l : ow_L) (j : Nat) : Int32 := [nI l.1, nI (l.2.1 - l.1), l.2.2.1, nI l.2.2.2.2.2, nI l.2.2.2.2.1, l.2.2.2.1, nI (ow_df s.2.2.1 l.1 l.2.1)].getD j 0
theorem ow_7 {x : Int32} (n0 : ¬ x = 0) (n1 : ¬ x = 1) (n2 : ¬ x = 2) (n3 : ¬ x = 3) (n4 : ¬ x = 4) (n5 : ¬ x = 5) (n6 : ¬ x = 6) : ∀ j, j < 7 → x ≠ nI j := fun j hj e => by
  rcases (by omega : j = 0 ∨ j = 1 ∨ j = 2 ∨ j = 3 ∨ j = 4 ∨ j = 5 ∨ j = 6) with rfl | rfl | rfl | rfl | rfl | rfl | rfl
  · exact n0 e
  · exact n1 e
  · exact n2 e
  · exact n3 e
  · exact n4 e
  · exact n5 e
  · exact n6 e
theorem ow_s1 {x : Int32} {k : Nat} (h : ∀ j, j < k → x ≠ nI j) (n : ¬ x = nI k) : ∀ j, j < k + 1 → x ≠ nI j := fun j hj e => by
  rcases Nat.lt_or_ge j k with h1 | h1
  · exact h j h1 e
  · have : j = k := by omega
    subst this
    exact n e
theorem sp_val_me {j : Nat} {y : Int32} (hj : j < 10) (h : sp_val (nI j) y = true) : ∃ m, y = nI m ∧ ow_lo j ≤ m ∧ m ≤ ow_hi j := by
  unfold sp_val at h
  obtain ⟨i, hi, he⟩ := ow_ex_iff.mp h
  simp only [Bool.and_eq_true, decide_eq_true_eq, Bool.not_eq_true', decide_eq_false_iff_not] at he
  obtain ⟨h1, h2, h3⟩ := he
  have : j = i := (nI_eq (by omega) (by omega)).mp h1
  subst this
  rw [ow_lo_kz j hi] at h2
  rw [ow_hi_kz j hi] at h3
  have hlo := ow_lo_le j hi
  have hhi := ow_hi_le j hi
  have hp : ¬ y < 0 := fun hz => by
    rw [Int32.lt_iff_toInt_lt] at hz h2
    rw [nI_toInt (by omega)] at h2
    have : (0 : Int32).toInt = 0 := by decide
    omega
  obtain ⟨m, hm, rfl⟩ := nI_of hp
  have g2 : ow_lo j ≤ m := Nat.not_lt.mp fun z => h2 (nI_lt z (by omega))
  have g3 : m ≤ ow_hi j := Nat.not_lt.mp fun z => h3 (nI_lt z hm)
  exact ⟨m, rfl, by omega, by omega⟩
section OWK
variable {G : kz_G} {d mc ms : Nat} {Qr : Option Value → kz_M → Prop} {Qx : String → kz_M → Prop} {M : kz_M} {O : ow_O} {hn : Nat} {h : Nat → ow_O} {sv : ow_O} {isS : Bool} {er : Nat} {ea : Int32} {n : Nat} {b : Nat → Nat} {l : List Nat}
theorem ow_RHl.ob {M : kz_M} (H : ow_RHl M h hn) : ∃ r, M.1 21 = some (.inl (0, [.ref 22, .int (nI r), .int (nI hn)])) := by
  obtain ⟨K, r, ⟨h1, -⟩, -⟩ := H
  exact ⟨r, h1⟩
theorem ow_CI.hs (I : ow_CI M O hn h sv isS er ea n b l) : ow_RHl M h hn := I.2.2.2.2.2.1
theorem c_count {x : Int32} (hG : kz_stat G) (I : ow_CI M O hn h sv isS er ea n b l) (hO : ow_Ok1 O) (hmc : 1 ≤ mc) (hms : 6 ≤ ms) (q0 : (∀ j, j < 9 → x ≠ nI j) → ow_thr Qx M ow_IA) (q1 : ∀ j, j < 9 → x = nI j → Qr (some (.int (sp_count O hn j))) M) : kz_C G (d + 7) mc ms mX11_count [.ref 0, .int x] M Qr Qx := by
  obtain ⟨r, hr⟩ := I.hs.ob
  refine rX11_count_0 hG ⟨fun e => ⟨_, _, I.1, rfl, _, _, I.off.1, rfl, q1 0 (by omega) e⟩, fun e => ⟨_, _, I.1, rfl, _, _, I.off.1, rfl, q1 1 (by omega) e⟩, fun e => ⟨_, _, I.1, rfl, I.off.ob, c_slinesAll (k := 0) I.off hO (by omega) ⟨_, rfl, q1 2 (by omega) e⟩⟩, fun e => ⟨_, _, I.1, rfl, I.off.ob, c_slinesAll (k := 1) I.off hO (by omega) ⟨_, rfl, q1 3 (by omega) e⟩⟩, fun e => ⟨_, _, I.1, rfl, _, _, I.off.1, rfl, q1 4 (by omega) e⟩, fun e => ⟨_, _, I.1, rfl, _, _, I.off.1, rfl, q1 5 (by omega) e⟩, fun e => ⟨_, _, I.1, rfl, _, _, I.off.1, rfl, _, _, I.off.2.1, rfl, q1 6 (by omega) e⟩, fun e => ⟨_, _, I.1, rfl, I.off.ob, c_owed I.off hO.1.2.2.1 ⟨_, rfl, q1 7 (by omega) e⟩⟩, fun e => ⟨_, _, I.1, rfl, _, _, hr, rfl, q1 8 (by omega) e⟩, fun n0 n1 n2 n3 n4 n5 n6 n7 n8 => ⟨by omega, by omega, q0 (ow_s1 (ow_s1 (ow_7 n0 n1 n2 n3 n4 n5 n6) n7) n8)⟩⟩
theorem c_work {x y : Int32} (hG : kz_stat G) (I : ow_CI M O hn h sv isS er ea n b l) (hO : ow_Ok1 O) (hmc : 2 ≤ mc) (hms : 12 ≤ ms) (q0 : (∀ j, j < o_wk O → x ≠ nI j) → ow_thr Qx M ow_IO) (q1 : ∀ j, j < o_wk O → x = nI j → (∀ k, k < 8 → y ≠ nI k) → ow_thr Qx M ow_IA) (q2 : ∀ j k, j < o_wk O → x = nI j → k < 8 → y = nI k → Qr (some (.int (sp_wk (o_ws O j) k))) M) : kz_C G (d + 8) mc ms mX11_work [.ref 0, .int x, .int y] M Qr Qx := by
  refine rX11_work_0 hG ⟨I.ob, 1, 6, by omega, by omega, c_workOr hG I hO (by omega) (by omega) q0 fun j a hj e hw => ⟨_, rfl, ?_⟩⟩
  have hW := hO.2.2.2 j hj
  have hn60 := hW.1.2.2.1
  have hw0 := hw
  obtain ⟨sc, al, f, w1, w2, w3, w4⟩ := hw
  have w20 := w2
  obtain ⟨aw, as, s1, -⟩ := w2
  exact ⟨fun e2 => ⟨_, _, w1, rfl, q2 j 0 hj e (by omega) e2⟩, fun e2 => ⟨_, _, w1, rfl, _, _, s1, rfl, q2 j 1 hj e (by omega) e2⟩, fun e2 => ⟨_, _, w1, rfl, q2 j 2 hj e (by omega) e2⟩, fun e2 => ⟨_, _, w1, rfl, ⟨_, s1⟩, c_size w20 ⟨_, rfl, q2 j 3 hj e (by omega) e2⟩⟩, fun e2 => ⟨⟨_, w1⟩, c_wsize hw0 ⟨_, rfl, q2 j 4 hj e (by omega) e2⟩⟩, fun e2 => ⟨⟨_, w1⟩, c_wlinesOf (k := 1) hw0 hW (by omega) ⟨_, rfl, q2 j 5 hj e (by omega) e2⟩⟩, fun e2 => ⟨⟨_, w1⟩, c_payOfCounting hw0 hW ⟨_, rfl, q2 j 6 hj e (by omega) e2⟩⟩, fun e2 => ⟨_, _, w1, rfl, _, _, w1, rfl, ⟨_, s1⟩, c_size w20 ⟨_, rfl, ⟨_, s1⟩, c_differentBetween (from' := 0) w20 (Nat.zero_le _) (Nat.le_refl _) (by omega) ⟨_, rfl, q2 j 7 hj e (by omega) e2⟩⟩⟩, fun n0 n1 n2 n3 n4 n5 n6 n7 => ⟨by omega, by omega, q1 j hj e (ow_s1 (ow_7 n0 n1 n2 n3 n4 n5 n6) n7)⟩⟩
theorem c_line {x y z : Int32} (hG : kz_stat G) (I : ow_CI M O hn h sv isS er ea n b l) (hO : ow_Ok1 O) (hmc : 3 ≤ mc) (hms : 18 ≤ ms) (q0 : (∀ j k, j < o_wk O → k < (o_ws O j).2.2.2.1 → x = nI j → y = nI k → False) → ow_thr Qx M ow_IO) (q1 : ∀ j k, j < o_wk O → x = nI j → k < (o_ws O j).2.2.2.1 → y = nI k → (∀ i, i < 7 → z ≠ nI i) → ow_thr Qx M ow_IA) (q2 : ∀ j k i, j < o_wk O → x = nI j → k < (o_ws O j).2.2.2.1 → y = nI k → i < 7 → z = nI i → Qr (some (.int (sp_ln (o_ws O j).2.2.1 ((o_ws O j).2.2.2.2 k) i))) M) : kz_C G (d + 9) mc ms mX11_line [.ref 0, .int x, .int y, .int z] M Qr Qx := by
  refine rX11_line_0 hG ⟨I.ob, 2, 12, by omega, by omega, c_lineOr hG I hO (by omega) (by omega) q0 fun j k a sc hj e hk ek hl hs => ⟨_, rfl, ?_⟩⟩
  have hW := hO.2.2.2 j hj
  have hL := hW.2.2.2.2 k hk
  refine ⟨fun e2 => ⟨_, _, hl.1, rfl, q2 j k 0 hj e hk ek (by omega) e2⟩, fun e2 => ⟨_, _, hl.1, rfl, _, _, hl.1, rfl, ?_⟩, fun e2 => ⟨_, _, hl.1, rfl, q2 j k 2 hj e hk ek (by omega) e2⟩, fun e2 => ⟨_, _, hl.1, rfl, q2 j k 3 hj e hk ek (by omega) e2⟩, fun e2 => ⟨_, _, hl.1, rfl, q2 j k 4 hj e hk ek (by omega) e2⟩, fun e2 => ⟨_, _, hl.1, rfl, q2 j k 5 hj e hk ek (by omega) e2⟩, fun e2 => ⟨⟨_, hl.1⟩, c_different ⟨sc, hl, hs⟩ hW.1 hL ⟨_, rfl, q2 j k 6 hj e hk ek (by omega) e2⟩⟩, fun n0 n1 n2 n3 n4 n5 n6 => ⟨by omega, by omega, q1 j k hj e hk ek (ow_7 n0 n1 n2 n3 n4 n5 n6)⟩⟩
  rw [pk_sub hL.1]
  exact q2 j k 1 hj e hk ek (by omega) e2
def sp_pay (O : ow_O) (s : ow_S) (me : Nat) : Int32 := ow_pb s me (nI (o_ru O (7 + s.1)))
end OWK
