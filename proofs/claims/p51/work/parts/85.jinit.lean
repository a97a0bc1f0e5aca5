/-! Part 85: the law's constructor -/
/-- the law's cells in its constructor, its text so far -/
def jY (M : kz_M) (L : List Value) (l : List Nat) (B : Nat) : Prop := M.1 0 = some (.inl (13, L)) ∧ (M.1 1 = some (.inl (16, [.int 0, .retAddr 3002, .int 0])) ∧ jRow M 2 3 (fun _ => 0) ∧ jRow M 3 3 (fun _ => 0) ∧ jRow M 4 3 (fun _ => 0) ∧ jRow M 5 3 (fun i => [10, 8, 5].getD i 0)) ∧ (∃ v cap, jS M 6 v cap l ∧ 7 ≤ v ∧ v < M.2) ∧ l.length ≤ B
theorem jRow.ne {M : kz_M} {a k : Nat} {e : kz_E} {g : Nat → Int32} (h : jRow M a 3 g) (hk : a ≠ k) : jRow (kz_up M k e) a 3 g := by
  obtain ⟨f, h1, h2⟩ := h
  exact ⟨f, (kz_up_ne hk).trans h1, h2⟩
theorem jY.set {M : kz_M} {L L' : List Value} {l : List Nat} {B : Nat} (h : jY M L l B) : jY (kz_up M 0 (.inl (13, L'))) L' l B := by
  obtain ⟨h1, ⟨h2, h3, h4, h5, h6⟩, ⟨v, cap, h7, h8⟩, h9⟩ := h
  exact ⟨kz_up_same _ _ _, ⟨(kz_up_ne (by decide)).trans h2, h3.ne (by decide), h4.ne (by decide), h5.ne (by decide), h6.ne (by decide)⟩, ⟨v, cap, ⟨(kz_up_ne (by decide)).trans h7.1, (kz_up_ne (by omega)).trans h7.2.1, h7.2.2⟩, h8⟩, h9⟩
theorem jY.app {M M1 : kz_M} {L : List Value} {l l' : List Nat} {B B' v v' cap cap' : Nat} (h : jY M L l B) (hf : ow_fr M) (hS : jS M 6 v cap l) (hv : 7 ≤ v ∧ v < M.2) (g1 : ow_Nw (jI 6 v) M M1) (g3 : jS M1 6 v' cap' l') (g5 : v' = v ∨ (v' = M.2 ∧ M1.2 = M.2 + 1)) (hB : l'.length ≤ B') : jY M1 L l' B' := by
  obtain ⟨h1, ⟨h2, h3, h4, h5, h6⟩, -, -⟩ := h
  have n : ∀ k, k < 6 → ¬ jI 6 v k := fun k hk hp => by rcases hp with e | e <;> omega
  have h6M := hf _ _ hS.1
  refine ⟨g1.at hf (n 0 (by decide)) h1, ⟨g1.at hf (n 1 (by decide)) h2, h3.nw hf g1 (n 2 (by decide)), h4.nw hf g1 (n 3 (by decide)), h5.nw hf g1 (n 4 (by decide)), h6.nw hf g1 (n 5 (by decide))⟩, ⟨v', cap', g3, ?_⟩, hB⟩
  have g12 := g1.2
  rcases g5 with e | ⟨e, e9⟩
  · exact ⟨by omega, by omega⟩
  · exact ⟨by omega, by omega⟩
section JIN
variable {G : kz_G} {d mc ms : Nat} {Qr : Option Value → kz_M → Prop} {Qx : String → kz_M → Prop} {M M0 : kz_M} {L : List Value} {l : List Nat} {B : Nat}
theorem jY.ob (h : jY M L l B) : ∃ fs, M.1 6 = some (.inl (15, fs)) := by
  obtain ⟨-, -, ⟨v, cap, h7, -⟩, -⟩ := h
  exact ⟨_, h7.1⟩
theorem c_yS {w : List Nat} {j : Nat} (B' : Nat) (hG : kz_stat G) (hG2 : kz_stat2 G) (hP : kz_statP G) (h : jY M L l B) (hj : j ∈ kz_readL) (hw : kz_txt j = w.map nI) (hA : jA w) (hB : B + w.length ≤ B' ∧ B' ≤ 400) (hmc : 1 ≤ mc) (hms : 1000 ≤ ms) (Q : ∀ M1, jY M1 L (l ++ w) B' → Qr (some (.ref 6)) M1) : kz_C G (d + 5) mc ms mJ4_append_15ec4 [.ref 6, .retAddr j] M Qr Qx := by
  refine kz_Cfr fun hf => ?_
  have h0 := h
  obtain ⟨-, -, ⟨v, cap, hS, hv⟩, hl⟩ := h0
  exact c_appS hG hP hS (hG2.2.2.2.2.2.2 j hj) hw hA (by omega) hmc hms fun M1 v' cap' g1 g2 g3 g5 => Q M1 (h.app hf hS hv g1 g3 g5 (by rw [List.length_append]; omega))
theorem c_yI {x : Nat} (B' : Nat) (hG : kz_stat G) (hG2 : kz_stat2 G) (hP : kz_statP G) (h : jY M L l B) (hx : x < 1000) (hB : B + 3 ≤ B' ∧ B' ≤ 400) (hmc : 1 ≤ mc) (hms : 1000 ≤ ms) (Q : ∀ M1, jY M1 L (l ++ jN x) B' → Qr (some (.ref 6)) M1) : kz_C G (d + 5) mc ms mJ4_append_bf812 [.ref 6, .int (nI x)] M Qr Qx := by
  refine kz_Cfr fun hf => ?_
  have h0 := h
  obtain ⟨-, -, ⟨v, cap, hS, hv⟩, hl⟩ := h0
  have hl3 : (jN x).length ≤ 3 := by
    rw [jN_len]
    split
    · omega
    · split <;> omega
  exact c_appI hG hG2 hP hS hx (by omega) hmc hms fun M1 v' cap' g1 g2 g3 g5 => Q M1 (h.app hf hS hv g1 g3 g5 (by rw [List.length_append]; omega))
theorem c_yC {c : Nat} (B' : Nat) (hG : kz_stat G) (hP : kz_statP G) (h : jY M L l B) (hc : c < 128) (hB : B + 1 ≤ B' ∧ B' ≤ 400) (hmc : 1 ≤ mc) (hms : 1000 ≤ ms) (Q : ∀ M1, jY M1 L (l ++ [c]) B' → Qr (some (.ref 6)) M1) : kz_C G (d + 5) mc ms mJ4_append_cf468 [.ref 6, .int (nI c)] M Qr Qx := by
  refine kz_Cfr fun hf => ?_
  have h0 := h
  obtain ⟨-, -, ⟨v, cap, hS, hv⟩, hl⟩ := h0
  exact c_appC hG hP hS hc (by omega) hmc hms fun M1 v' cap' g1 g2 g3 g5 => Q M1 (h.app hf hS hv g1 g3 g5 (by rw [List.length_append, List.length_singleton]; omega))
abbrev jv0 (mo me st wo fi te di fe : Nat) : List Value := [.ref 1, .ref 2, .ref 3, .ref 4, .int (nI mo), .int 0, .int (nI me), .int (nI st), .int (nI wo), .int (nI fi), .int (nI te), .int (nI di), .int (nI fe), .ref 5, .ref 6]
theorem jlit1036 : kz_txt 1036 = [111, 102, 102, 105, 99, 101, 32].map nI := by decide +kernel
theorem jlA1036 : jA [111, 102, 102, 105, 99, 101, 32] := fun x hx => by
  simp only [List.mem_cons, List.not_mem_nil, or_false] at hx
  omega
theorem jlit1037 : kz_txt 1037 = [59, 119, 114, 105, 116, 101, 114, 32, 97, 59, 119, 114, 105, 116, 101, 114, 32, 98, 59, 119, 114, 105, 116, 101, 114, 32, 99, 59, 109, 101, 97, 115, 117, 114, 101, 32].map nI := by decide +kernel
theorem jlA1037 : jA [59, 119, 114, 105, 116, 101, 114, 32, 97, 59, 119, 114, 105, 116, 101, 114, 32, 98, 59, 119, 114, 105, 116, 101, 114, 32, 99, 59, 109, 101, 97, 115, 117, 114, 101, 32] := fun x hx => by
  simp only [List.mem_cons, List.not_mem_nil, or_false] at hx
  omega
theorem jlit1038 : kz_txt 1038 = [59, 115, 116, 117, 102, 102, 32].map nI := by decide +kernel
theorem jlA1038 : jA [59, 115, 116, 117, 102, 102, 32] := fun x hx => by
  simp only [List.mem_cons, List.not_mem_nil, or_false] at hx
  omega
theorem jlit1039 : kz_txt 1039 = [59, 119, 111, 114, 110, 32].map nI := by decide +kernel
theorem jlA1039 : jA [59, 119, 111, 114, 110, 32] := fun x hx => by
  simp only [List.mem_cons, List.not_mem_nil, or_false] at hx
  omega
theorem jlit1040 : kz_txt 1040 = [59, 102, 105, 110, 101, 32].map nI := by decide +kernel
theorem jlA1040 : jA [59, 102, 105, 110, 101, 32] := fun x hx => by
  simp only [List.mem_cons, List.not_mem_nil, or_false] at hx
  omega
theorem jlit1041 : kz_txt 1041 = [59, 116, 101, 114, 109, 32].map nI := by decide +kernel
theorem jlA1041 : jA [59, 116, 101, 114, 109, 32] := fun x hx => by
  simp only [List.mem_cons, List.not_mem_nil, or_false] at hx
  omega
theorem jlit1042 : kz_txt 1042 = [59, 100, 105, 115, 116, 105, 110, 99, 116, 32].map nI := by decide +kernel
theorem jlA1042 : jA [59, 100, 105, 115, 116, 105, 110, 99, 116, 32] := fun x hx => by
  simp only [List.mem_cons, List.not_mem_nil, or_false] at hx
  omega
theorem jlit1043 : kz_txt 1043 = [59, 102, 101, 101, 32].map nI := by decide +kernel
theorem jlA1043 : jA [59, 102, 101, 101, 32] := fun x hx => by
  simp only [List.mem_cons, List.not_mem_nil, or_false] at hx
  omega
theorem jst_eq (mo me st wo fi te di fe : Nat) : (((((((((((((((([] ++ [111, 102, 102, 105, 99, 101, 32]) ++ jN mo) ++ [59, 119, 114, 105, 116, 101, 114, 32, 97, 59, 119, 114, 105, 116, 101, 114, 32, 98, 59, 119, 114, 105, 116, 101, 114, 32, 99, 59, 109, 101, 97, 115, 117, 114, 101, 32]) ++ jN me) ++ [59, 115, 116, 117, 102, 102, 32]) ++ jN st) ++ [59, 119, 111, 114, 110, 32]) ++ jN wo) ++ [59, 102, 105, 110, 101, 32]) ++ jN fi) ++ [59, 116, 101, 114, 109, 32]) ++ jN te) ++ [59, 100, 105, 115, 116, 105, 110, 99, 116, 32]) ++ jN di) ++ [59, 102, 101, 101, 32]) ++ jN fe) ++ [59] = jst mo me st wo fi te di fe := by
  unfold jst
  generalize jN mo = a1
  generalize jN me = a2
  generalize jN st = a3
  generalize jN wo = a4
  generalize jN fi = a5
  generalize jN te = a6
  generalize jN di = a7
  generalize jN fe = a8
  simp only [List.append_assoc, List.nil_append, List.cons_append]
theorem c_it291 {mo me st wo fi te di fe : Nat} {c sl K : Nat} (hG : kz_stat G) (hG2 : kz_stat2 G) (hP : kz_statP G) (h : jY M (jv0 mo me st wo fi te di fe) (((((((((((((((([] ++ [111, 102, 102, 105, 99, 101, 32]) ++ jN mo) ++ [59, 119, 114, 105, 116, 101, 114, 32, 97, 59, 119, 114, 105, 116, 101, 114, 32, 98, 59, 119, 114, 105, 116, 101, 114, 32, 99, 59, 109, 101, 97, 115, 117, 114, 101, 32]) ++ jN me) ++ [59, 115, 116, 117, 102, 102, 32]) ++ jN st) ++ [59, 119, 111, 114, 110, 32]) ++ jN wo) ++ [59, 102, 105, 110, 101, 32]) ++ jN fi) ++ [59, 116, 101, 114, 109, 32]) ++ jN te) ++ [59, 100, 105, 115, 116, 105, 110, 99, 116, 32]) ++ jN di) ++ [59, 102, 101, 101, 32])) 104) (hx : mo < 1000 ∧ me < 1000 ∧ st < 1000 ∧ wo < 1000 ∧ fi < 1000 ∧ te < 1000 ∧ di < 1000 ∧ fe < 1000) (hc : c + 2 ≤ mc) (hK : 1000 ≤ K) (hs : sl + 2 * K ≤ ms) (Q : ∀ M1, jY M1 (jv0 mo me st wo fi te di fe) (jst mo me st wo fi te di fe) 400 → Qr none M1) : zL_init_291 G d mc ms Qr Qx 0 6 M c sl := by
  refine rL_init_291 (by omega) (by omega) ⟨_, _, h.1, rfl, h.ob, 1, K, by omega, by omega, c_yI 107 hG hG2 hP h hx.2.2.2.2.2.2.2 (by decide) (Nat.le_refl _) hK fun M1 h1 => ⟨_, rfl, h1.ob, 1, K, by omega, by omega, c_yC (c := 59) 108 hG hP h1 (by decide) (by decide) (Nat.le_refl _) hK fun M2 h2 => ⟨_, rfl, ?_⟩⟩⟩
  rw [jst_eq] at h2
  exact Q _ ⟨h2.1, h2.2.1, h2.2.2.1, Nat.le_trans h2.2.2.2 (by decide)⟩
theorem c_it279 {mo me st wo fi te di fe : Nat} {c sl K : Nat} (hG : kz_stat G) (hG2 : kz_stat2 G) (hP : kz_statP G) (h : jY M (jv0 mo me st wo fi te di fe) (((((((((((((([] ++ [111, 102, 102, 105, 99, 101, 32]) ++ jN mo) ++ [59, 119, 114, 105, 116, 101, 114, 32, 97, 59, 119, 114, 105, 116, 101, 114, 32, 98, 59, 119, 114, 105, 116, 101, 114, 32, 99, 59, 109, 101, 97, 115, 117, 114, 101, 32]) ++ jN me) ++ [59, 115, 116, 117, 102, 102, 32]) ++ jN st) ++ [59, 119, 111, 114, 110, 32]) ++ jN wo) ++ [59, 102, 105, 110, 101, 32]) ++ jN fi) ++ [59, 116, 101, 114, 109, 32]) ++ jN te) ++ [59, 100, 105, 115, 116, 105, 110, 99, 116, 32])) 96) (hx : mo < 1000 ∧ me < 1000 ∧ st < 1000 ∧ wo < 1000 ∧ fi < 1000 ∧ te < 1000 ∧ di < 1000 ∧ fe < 1000) (hc : c + 4 ≤ mc) (hK : 1000 ≤ K) (hs : sl + 4 * K ≤ ms) (Q : ∀ M1, jY M1 (jv0 mo me st wo fi te di fe) (jst mo me st wo fi te di fe) 400 → Qr none M1) : zL_init_279 G d mc ms Qr Qx 0 6 M c sl := by
  refine rL_init_279 (by omega) (by omega) ⟨_, _, h.1, rfl, h.ob, 1, K, by omega, by omega, c_yI 99 hG hG2 hP h hx.2.2.2.2.2.2.1 (by decide) (Nat.le_refl _) hK fun M1 h1 => ⟨_, rfl, h1.ob, 1, K, by omega, by omega, c_yS 104 hG hG2 hP h1 (by decide) jlit1043 jlA1043 (by decide) (Nat.le_refl _) hK fun M2 h2 => ⟨_, rfl, ?_⟩⟩⟩
  exact c_it291 hG hG2 hP h2 hx (by omega) hK (by omega) Q
theorem c_it267 {mo me st wo fi te di fe : Nat} {c sl K : Nat} (hG : kz_stat G) (hG2 : kz_stat2 G) (hP : kz_statP G) (h : jY M (jv0 mo me st wo fi te di fe) (((((((((((([] ++ [111, 102, 102, 105, 99, 101, 32]) ++ jN mo) ++ [59, 119, 114, 105, 116, 101, 114, 32, 97, 59, 119, 114, 105, 116, 101, 114, 32, 98, 59, 119, 114, 105, 116, 101, 114, 32, 99, 59, 109, 101, 97, 115, 117, 114, 101, 32]) ++ jN me) ++ [59, 115, 116, 117, 102, 102, 32]) ++ jN st) ++ [59, 119, 111, 114, 110, 32]) ++ jN wo) ++ [59, 102, 105, 110, 101, 32]) ++ jN fi) ++ [59, 116, 101, 114, 109, 32])) 83) (hx : mo < 1000 ∧ me < 1000 ∧ st < 1000 ∧ wo < 1000 ∧ fi < 1000 ∧ te < 1000 ∧ di < 1000 ∧ fe < 1000) (hc : c + 6 ≤ mc) (hK : 1000 ≤ K) (hs : sl + 6 * K ≤ ms) (Q : ∀ M1, jY M1 (jv0 mo me st wo fi te di fe) (jst mo me st wo fi te di fe) 400 → Qr none M1) : zL_init_267 G d mc ms Qr Qx 0 6 M c sl := by
  refine rL_init_267 (by omega) (by omega) ⟨_, _, h.1, rfl, h.ob, 1, K, by omega, by omega, c_yI 86 hG hG2 hP h hx.2.2.2.2.2.1 (by decide) (Nat.le_refl _) hK fun M1 h1 => ⟨_, rfl, h1.ob, 1, K, by omega, by omega, c_yS 96 hG hG2 hP h1 (by decide) jlit1042 jlA1042 (by decide) (Nat.le_refl _) hK fun M2 h2 => ⟨_, rfl, ?_⟩⟩⟩
  exact c_it279 hG hG2 hP h2 hx (by omega) hK (by omega) Q
theorem c_it255 {mo me st wo fi te di fe : Nat} {c sl K : Nat} (hG : kz_stat G) (hG2 : kz_stat2 G) (hP : kz_statP G) (h : jY M (jv0 mo me st wo fi te di fe) (((((((((([] ++ [111, 102, 102, 105, 99, 101, 32]) ++ jN mo) ++ [59, 119, 114, 105, 116, 101, 114, 32, 97, 59, 119, 114, 105, 116, 101, 114, 32, 98, 59, 119, 114, 105, 116, 101, 114, 32, 99, 59, 109, 101, 97, 115, 117, 114, 101, 32]) ++ jN me) ++ [59, 115, 116, 117, 102, 102, 32]) ++ jN st) ++ [59, 119, 111, 114, 110, 32]) ++ jN wo) ++ [59, 102, 105, 110, 101, 32])) 74) (hx : mo < 1000 ∧ me < 1000 ∧ st < 1000 ∧ wo < 1000 ∧ fi < 1000 ∧ te < 1000 ∧ di < 1000 ∧ fe < 1000) (hc : c + 8 ≤ mc) (hK : 1000 ≤ K) (hs : sl + 8 * K ≤ ms) (Q : ∀ M1, jY M1 (jv0 mo me st wo fi te di fe) (jst mo me st wo fi te di fe) 400 → Qr none M1) : zL_init_255 G d mc ms Qr Qx 0 6 M c sl := by
  refine rL_init_255 (by omega) (by omega) ⟨_, _, h.1, rfl, h.ob, 1, K, by omega, by omega, c_yI 77 hG hG2 hP h hx.2.2.2.2.1 (by decide) (Nat.le_refl _) hK fun M1 h1 => ⟨_, rfl, h1.ob, 1, K, by omega, by omega, c_yS 83 hG hG2 hP h1 (by decide) jlit1041 jlA1041 (by decide) (Nat.le_refl _) hK fun M2 h2 => ⟨_, rfl, ?_⟩⟩⟩
  exact c_it267 hG hG2 hP h2 hx (by omega) hK (by omega) Q
theorem c_it243 {mo me st wo fi te di fe : Nat} {c sl K : Nat} (hG : kz_stat G) (hG2 : kz_stat2 G) (hP : kz_statP G) (h : jY M (jv0 mo me st wo fi te di fe) (((((((([] ++ [111, 102, 102, 105, 99, 101, 32]) ++ jN mo) ++ [59, 119, 114, 105, 116, 101, 114, 32, 97, 59, 119, 114, 105, 116, 101, 114, 32, 98, 59, 119, 114, 105, 116, 101, 114, 32, 99, 59, 109, 101, 97, 115, 117, 114, 101, 32]) ++ jN me) ++ [59, 115, 116, 117, 102, 102, 32]) ++ jN st) ++ [59, 119, 111, 114, 110, 32])) 65) (hx : mo < 1000 ∧ me < 1000 ∧ st < 1000 ∧ wo < 1000 ∧ fi < 1000 ∧ te < 1000 ∧ di < 1000 ∧ fe < 1000) (hc : c + 10 ≤ mc) (hK : 1000 ≤ K) (hs : sl + 10 * K ≤ ms) (Q : ∀ M1, jY M1 (jv0 mo me st wo fi te di fe) (jst mo me st wo fi te di fe) 400 → Qr none M1) : zL_init_243 G d mc ms Qr Qx 0 6 M c sl := by
  refine rL_init_243 (by omega) (by omega) ⟨_, _, h.1, rfl, h.ob, 1, K, by omega, by omega, c_yI 68 hG hG2 hP h hx.2.2.2.1 (by decide) (Nat.le_refl _) hK fun M1 h1 => ⟨_, rfl, h1.ob, 1, K, by omega, by omega, c_yS 74 hG hG2 hP h1 (by decide) jlit1040 jlA1040 (by decide) (Nat.le_refl _) hK fun M2 h2 => ⟨_, rfl, ?_⟩⟩⟩
  exact c_it255 hG hG2 hP h2 hx (by omega) hK (by omega) Q
theorem c_it231 {mo me st wo fi te di fe : Nat} {c sl K : Nat} (hG : kz_stat G) (hG2 : kz_stat2 G) (hP : kz_statP G) (h : jY M (jv0 mo me st wo fi te di fe) (((((([] ++ [111, 102, 102, 105, 99, 101, 32]) ++ jN mo) ++ [59, 119, 114, 105, 116, 101, 114, 32, 97, 59, 119, 114, 105, 116, 101, 114, 32, 98, 59, 119, 114, 105, 116, 101, 114, 32, 99, 59, 109, 101, 97, 115, 117, 114, 101, 32]) ++ jN me) ++ [59, 115, 116, 117, 102, 102, 32])) 56) (hx : mo < 1000 ∧ me < 1000 ∧ st < 1000 ∧ wo < 1000 ∧ fi < 1000 ∧ te < 1000 ∧ di < 1000 ∧ fe < 1000) (hc : c + 12 ≤ mc) (hK : 1000 ≤ K) (hs : sl + 12 * K ≤ ms) (Q : ∀ M1, jY M1 (jv0 mo me st wo fi te di fe) (jst mo me st wo fi te di fe) 400 → Qr none M1) : zL_init_231 G d mc ms Qr Qx 0 6 M c sl := by
  refine rL_init_231 (by omega) (by omega) ⟨_, _, h.1, rfl, h.ob, 1, K, by omega, by omega, c_yI 59 hG hG2 hP h hx.2.2.1 (by decide) (Nat.le_refl _) hK fun M1 h1 => ⟨_, rfl, h1.ob, 1, K, by omega, by omega, c_yS 65 hG hG2 hP h1 (by decide) jlit1039 jlA1039 (by decide) (Nat.le_refl _) hK fun M2 h2 => ⟨_, rfl, ?_⟩⟩⟩
  exact c_it243 hG hG2 hP h2 hx (by omega) hK (by omega) Q
theorem c_it219 {mo me st wo fi te di fe : Nat} {c sl K : Nat} (hG : kz_stat G) (hG2 : kz_stat2 G) (hP : kz_statP G) (h : jY M (jv0 mo me st wo fi te di fe) (((([] ++ [111, 102, 102, 105, 99, 101, 32]) ++ jN mo) ++ [59, 119, 114, 105, 116, 101, 114, 32, 97, 59, 119, 114, 105, 116, 101, 114, 32, 98, 59, 119, 114, 105, 116, 101, 114, 32, 99, 59, 109, 101, 97, 115, 117, 114, 101, 32])) 46) (hx : mo < 1000 ∧ me < 1000 ∧ st < 1000 ∧ wo < 1000 ∧ fi < 1000 ∧ te < 1000 ∧ di < 1000 ∧ fe < 1000) (hc : c + 14 ≤ mc) (hK : 1000 ≤ K) (hs : sl + 14 * K ≤ ms) (Q : ∀ M1, jY M1 (jv0 mo me st wo fi te di fe) (jst mo me st wo fi te di fe) 400 → Qr none M1) : zL_init_219 G d mc ms Qr Qx 0 6 M c sl := by
  refine rL_init_219 (by omega) (by omega) ⟨_, _, h.1, rfl, h.ob, 1, K, by omega, by omega, c_yI 49 hG hG2 hP h hx.2.1 (by decide) (Nat.le_refl _) hK fun M1 h1 => ⟨_, rfl, h1.ob, 1, K, by omega, by omega, c_yS 56 hG hG2 hP h1 (by decide) jlit1038 jlA1038 (by decide) (Nat.le_refl _) hK fun M2 h2 => ⟨_, rfl, ?_⟩⟩⟩
  exact c_it231 hG hG2 hP h2 hx (by omega) hK (by omega) Q
theorem c_initText {mo me st wo fi te di fe : Nat} {c sl K : Nat} (hG : kz_stat G) (hG2 : kz_stat2 G) (hP : kz_statP G) (h : jY M (jv0 mo me st wo fi te di fe) ([]) 0) (hx : mo < 1000 ∧ me < 1000 ∧ st < 1000 ∧ wo < 1000 ∧ fi < 1000 ∧ te < 1000 ∧ di < 1000 ∧ fe < 1000) (hc : c + 17 ≤ mc) (hK : 1000 ≤ K) (hs : sl + 17 * K ≤ ms) (Q : ∀ M1, jY M1 (jv0 mo me st wo fi te di fe) (jst mo me st wo fi te di fe) 400 → Qr none M1) : zL_init_198 G d mc ms Qr Qx 0 M c sl := by
  refine rL_init_198 (by omega) (by omega) ⟨_, _, h.1, rfl, h.ob, 1, K, by omega, by omega, c_yS 7 hG hG2 hP h (by decide) jlit1036 jlA1036 (by decide) (Nat.le_refl _) hK fun M1 h1 => ⟨_, rfl, _, _, h1.1, rfl, h1.ob, 1, K, by omega, by omega, c_yI 10 hG hG2 hP h1 hx.1 (by decide) (Nat.le_refl _) hK fun M2 h2 => ⟨_, rfl, h2.ob, 1, K, by omega, by omega, c_yS 46 hG hG2 hP h2 (by decide) jlit1037 jlA1037 (by decide) (Nat.le_refl _) hK fun M3 h3 => ⟨_, rfl, ?_⟩⟩⟩⟩
  exact c_it219 hG hG2 hP h3 hx (by omega) hK (by omega) Q
end JIN
