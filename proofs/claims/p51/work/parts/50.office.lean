/-! Part 50: LineOffice: its state as a whole; checks; the short questions -/
/-- the object: office, kept ones, saved one, is one saved, error, where; the input; the output -/
def ow_CI (M : kz_M) (O : ow_O) (hn : Nat) (h : Nat → ow_O) (sv : ow_O) (isS : Bool) (er : Nat) (ea : Int32) (n : Nat) (b : Nat → Nat) (l : List Nat) : Prop := M.1 0 = some (.inl (10, [.ref 1, .ref 3, .ref 5, .ref 13, .ref 21, .ref 87, .ref 97, .int (ow_b isS), .int (nI er), .int ea])) ∧ ow_RI M n b ∧ ow_RT M l ∧ ow_RO M 5 O ∧ ow_RO M 13 sv ∧ ow_RHl M h hn ∧ (∃ en er' ea' O' t', ow_ST M en er' ea' O' t') ∧ (∃ k P, ow_RP M 97 98 k P) ∧ ow_K ≤ M.2
def ow_thr (Qx : String → kz_M → Prop) (M : kz_M) (E : String) : Prop := ∀ g, Qx E (M.1, M.2 + g)
abbrev ow_IO : String := "java/lang/IndexOutOfBoundsException"
abbrev ow_IA : String := "java/lang/IllegalArgumentException"
abbrev ow_IS : String := "java/lang/IllegalStateException"
/-- is it a value of the setting? -/
def sp_val (x y : Int32) : Bool := ow_ex (fun j => decide (x = nI j) && (!decide (y < kz_lo j) && !decide (kz_hi j < y))) 10
section OWK
variable {G : kz_G} {d mc ms : Nat} {Qr : Option Value → kz_M → Prop} {Qx : String → kz_M → Prop} {M : kz_M} {O : ow_O} {hn : Nat} {h : Nat → ow_O} {sv : ow_O} {isS : Bool} {er : Nat} {ea : Int32} {n : Nat} {b : Nat → Nat} {l : List Nat}
theorem ow_CI.ob (I : ow_CI M O hn h sv isS er ea n b l) : ∃ fs, M.1 0 = some (.inl (10, fs)) := ⟨_, I.1⟩
theorem ow_CI.off (I : ow_CI M O hn h sv isS er ea n b l) : ow_RO M 5 O := I.2.2.2.1
theorem c_checkWriter {x : Int32} (hG : kz_stat G) (I : ow_CI M O hn h sv isS er ea n b l) (hO : ow_Ok1 O) (hmc : 1 ≤ mc) (hms : 6 ≤ ms) (q0 : (∀ j, j < o_nw O → x ≠ nI j) → ow_thr Qx M ow_IO) (q1 : ∀ j, j < o_nw O → x = nI j → Qr none M) : kz_C G (d + 7) mc ms mX11_checkWriter [.ref 0, .int x] M Qr Qx :=
  rX11_checkWriter_0 hG ⟨_, _, I.1, rfl, I.off.ob, c_isWriter I.off hO.1.2.2.1 (fun hx => ⟨_, rfl, fun z => absurd rfl z, fun _ => ⟨by omega, by omega, q0 hx⟩⟩) (fun j hj e => ⟨_, rfl, fun _ => q1 j hj e, fun z => absurd z (by decide)⟩)⟩
theorem c_workOr {x : Int32} (hG : kz_stat G) (I : ow_CI M O hn h sv isS er ea n b l) (hO : ow_Ok1 O) (hmc : 1 ≤ mc) (hms : 6 ≤ ms) (q0 : (∀ j, j < o_wk O → x ≠ nI j) → ow_thr Qx M ow_IO) (q1 : ∀ j a, j < o_wk O → x = nI j → ow_RW M a (o_ws O j) → Qr (some (.ref a)) M) : kz_C G (d + 7) mc ms mX11_workOrThrow [.ref 0, .int x] M Qr Qx :=
  rX11_workOrThrow_0 hG ⟨_, _, I.1, rfl, I.off.ob, c_workAt I.off hO.1.2.2.2.1 (fun hx => ⟨_, rfl, fun _ => ⟨by omega, by omega, q0 hx⟩, fun y hy => (by cases hy)⟩) (fun j a hj e hw => ⟨_, rfl, fun z => (by cases z), fun y hy => by cases hy; exact q1 j a hj e hw⟩)⟩
theorem ow_inj {i j : Nat} {x : Int32} (hi : i < 2 ^ 31) (hj : j < 2 ^ 31) (e : x = nI i) (e' : x = nI j) : i = j := (nI_eq hi hj).mp (e.symm.trans e')
theorem c_lineOr {x y : Int32} (hG : kz_stat G) (I : ow_CI M O hn h sv isS er ea n b l) (hO : ow_Ok1 O) (hmc : 2 ≤ mc) (hms : 12 ≤ ms) (q0 : (∀ j k, j < o_wk O → k < (o_ws O j).2.2.2.1 → x = nI j → y = nI k → False) → ow_thr Qx M ow_IO) (q1 : ∀ j k a sc, j < o_wk O → x = nI j → k < (o_ws O j).2.2.2.1 → y = nI k → ow_RL M a sc ((o_ws O j).2.2.2.2 k) → ow_RS M sc (o_ws O j).2.2.1 → Qr (some (.ref a)) M) : kz_C G (d + 8) mc ms mX11_lineOrThrow [.ref 0, .int x, .int y] M Qr Qx := by
  have hwk := hO.1.2.2.2.1
  refine rX11_lineOrThrow_0 hG ⟨I.ob, 1, 6, by omega, by omega, c_workOr hG I hO (by omega) (by omega) (fun hx => q0 fun j k hj hk e _ => hx j hj e) (fun j a hj e hw => ⟨_, rfl, hw.ob, c_lineAt hw (hO.2.2.2 j hj).2.1 (fun hy => ⟨_, rfl, fun _ => ⟨by omega, by omega, q0 fun j' k hj' hk e' ek => ?_⟩, fun y hy => (by cases hy)⟩) (fun k a sc hk ek hl hs => ⟨_, rfl, fun z => (by cases z), fun y hy => by cases hy; exact q1 j k a sc hj e hk ek hl hs⟩)⟩)⟩
  have : j = j' := ow_inj (by omega) (by omega) e e'
  subst this
  exact hy k hk ek
theorem c_isValue {x y : Int32} (hG : kz_stat G) (q : Qr (some (.int (ow_b (sp_val x y)))) M) : kz_C G d 0 0 mX11_isValue [.int x, .int y] M Qr Qx := by
  have no : (∀ j, j < 10 → x ≠ nI j) → Qr (some (.int 0)) M := fun hx => by
    rw [ow_bf (by unfold sp_val; exact ow_ex_f.mpr fun i hi => by simp [hx i hi])] at q
    exact q
  rcases pk_ix x (n := 10) (by omega) with hx | hx | ⟨j, hj, rfl⟩
  · exact rX11_isValue_0 hG (ow_y hx (no fun j hj e => nI_pos (n := j) (by omega) (e ▸ hx)))
  · have hq : (∀ j, j < 10 → x ≠ nI j) := fun j hj e => by
      rw [e] at hx
      exact nI_ge (b := 10) hj (by omega) hx
    exact rX11_isValue_0 hG ⟨fun _ => no hq, fun _ => ow_y hx (no hq)⟩
  · have only : ∀ i, i < 10 → nI j = nI i → j = i := fun i hi e => (nI_eq (by omega) (by omega)).mp e
    refine rX11_isValue_0 hG (ow_n (nI_pos (by omega)) (ow_n (nI_ge (b := 10) hj (by omega)) ⟨vp_in_nI hj (by omega), by rw [nI_clamp (by omega)]; exact hj, ?_⟩))
    rw [nI_clamp (by omega)]
    refine ⟨fun hlo => ?_, fun hlo => ⟨vp_in_nI hj (by omega), hj, fun hhi => ?_, fun hhi => ?_⟩⟩
    · rw [ow_bf (by
        unfold sp_val
        refine ow_ex_f.mpr fun i hi => ?_
        by_cases he : nI j = nI i
        · have := only i hi he
          subst this
          simp [hlo]
        · simp [he])] at q
      exact q
    · rw [ow_bf (by
        unfold sp_val
        refine ow_ex_f.mpr fun i hi => ?_
        by_cases he : nI j = nI i
        · have := only i hi he
          subst this
          simp [hhi]
        · simp [he])] at q
      exact q
    · rw [ow_bt (by unfold sp_val; exact ow_ex_iff.mpr ⟨j, hj, by simp only [hlo, hhi]; simp⟩)] at q
      exact q
theorem c_checkValue {x y : Int32} (hG : kz_stat G) (hmc : 1 ≤ mc) (hms : 6 ≤ ms) (q0 : sp_val x y = false → ow_thr Qx M ow_IA) (q1 : sp_val x y = true → Qr none M) : kz_C G (d + 7) mc ms mX11_checkValue [.ref 0, .int x, .int y] M Qr Qx :=
  rX11_checkValue_0 hG (c_isValue hG ⟨_, rfl, ow_ifn (fun e => q1 e) (fun e => ⟨by omega, by omega, q0 e⟩)⟩)
/-- can so many bytes be handed in as this kind? -/
def sp_sub (n : Nat) (y z : Int32) : Bool := !decide (y < 0) && (decide (y ≤ 2) && (!decide (z < 0) && (!decide (500 < z) && decide (z ≤ nI n))))
theorem c_checkSub {x y z : Int32} (hG : kz_stat G) (I : ow_CI M O hn h sv isS er ea n b l) (hO : ow_Ok1 O) (hmc : 2 ≤ mc) (hms : 12 ≤ ms) (q0 : (∀ j, j < o_nw O → x ≠ nI j) → ow_thr Qx M ow_IO) (q1 : ∀ j, j < o_nw O → x = nI j → sp_sub n y z = false → ow_thr Qx M ow_IA) (q2 : ∀ j, j < o_nw O → x = nI j → sp_sub n y z = true → Qr none M) : kz_C G (d + 8) mc ms mX11_checkSubmission [.ref 0, .int x, .int y, .int z] M Qr Qx := by
  refine rX11_checkSubmission_0 hG ⟨I.ob, 1, 6, by omega, by omega, c_checkWriter hG I hO (by omega) (by omega) q0 fun j hj e => ⟨rfl, fun hy => ⟨by omega, by omega, q1 j hj e (by simp [sp_sub, hy])⟩, fun hy => ⟨fun hy2 => ⟨fun hz => ⟨by omega, by omega, q1 j hj e (by simp [sp_sub, hz])⟩, fun hz => ⟨fun h5 => ⟨by omega, by omega, q1 j hj e (by simp [sp_sub, h5])⟩, fun h5 => ⟨_, _, I.1, rfl, _, _, I.2.1.1, rfl, fun hn => q2 j hj e ?_, fun hn => ⟨by omega, by omega, q1 j hj e (by simp [sp_sub, hn])⟩⟩⟩⟩, fun hy2 => ⟨by omega, by omega, q1 j hj e (by simp [sp_sub, hy2])⟩⟩⟩⟩
  unfold sp_sub
  rw [decide_eq_false hy, decide_eq_true hy2, decide_eq_false hz, decide_eq_false h5, decide_eq_true hn]
  rfl
end OWK
