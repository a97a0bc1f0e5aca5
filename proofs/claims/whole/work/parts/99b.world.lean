/-! Part 99b: what stands at the law's entry -/
def lw_ad (args : Array Value) (s : State) (t : Term) : Nat := match t.eval args s none [] s with
  | some (.ref a) => a
  | _ => 0
theorem lw_ad_eq {args : Array Value} {s : State} {t : Term} {a : Nat} (h : t.eval args s none [] s = some (.ref a)) : lw_ad args s t = a := by
  unfold lw_ad
  rw [h]
def lw_nm : List String := ["MEASURE", "STUFF", "WORN", "FINE", "TERM", "DISTINCT", "FEE", "PROSE_RATE", "VERSE_RATE", "LIST_RATE"]
def lw_ts (k : Nat) : Term := .static "LineOffice$Setting" (lw_nm.getD k "") "LLineOffice$Setting;"
def lw_tS : Term := .static "LineOffice" "SETTINGS" "[LLineOffice$Setting;"
def lw_tq (j : Nat) : Term := .string (kz_strs.getD (j - 1000) ("", 0, "", 0)).1 (kz_strs.getD (j - 1000) ("", 0, "", 0)).2.1
def lw_tF : Term := .static "jdk/internal/util/Preconditions" "SIOOBE_FORMATTER" "Ljava/util/function/BiFunction;"
/-- the numbers of what stood there before: 0 the settings' array, 1-10 the settings, 1000.. the literals, 2000.. their bytes, 3000 the formatter, 4000 the script -/
def lw_num (args : Array Value) (s : State) (b : Nat) (j : Nat) : Nat :=
  if j = 0 then lw_ad args s lw_tS
  else if j < 1000 then lw_ad args s (lw_ts (j - 1))
  else if j < 2000 then lw_ad args s (lw_tq j)
  else if j < 3000 then lw_ad args s (.field (lw_tq (j - 1000)) "java/lang/String" "value" "[B")
  else if j = 3000 then lw_ad args s lw_tF
  else b
/-- the words that it needs -/
def lw_n1 : List Cond := [.exactly lw_tS "[LLineOffice$Setting;", .arrayOf lw_tS (.object "LineOffice$Setting"), .eq (.length lw_tS) (.int 10), .eq (.static "java/lang/String" "COMPACT_STRINGS" "Z") (.int 1), .isRef lw_tF, .isRef (.static "java/lang/Throwable" "UNASSIGNED_STACK" "[Ljava/lang/StackTraceElement;"), .isRef (.static "java/lang/Throwable" "SUPPRESSED_SENTINEL" "Ljava/util/List;"), .not (.castable "java/lang/IllegalArgumentException" "java/lang/IndexOutOfBoundsException"), .not (.castable "java/lang/IllegalStateException" "java/lang/IndexOutOfBoundsException"), .not (.castable "java/lang/IllegalStateException" "java/lang/IllegalArgumentException")]
def lw_n2 (k : Nat) : List Cond := [.eq (.elem lw_tS (.int (Int32.ofNat k))) (lw_ts k), .exactly (lw_ts k) "LineOffice$Setting", .eq (.field (lw_ts k) "LineOffice$Setting" "word" "Ljava/lang/String;") (lw_tq (1024 + k)), .eq (.field (lw_ts k) "LineOffice$Setting" "lowest" "I") (.int (kz_lo k)), .eq (.field (lw_ts k) "LineOffice$Setting" "highest" "I") (.int (kz_hi k)), .eq (.field (lw_ts k) "LineOffice$Setting" "usual" "I") (.int (kz_us k))]
def lw_n3 (j : Nat) : List Cond := [.exactly (lw_tq j) "java/lang/String", .eq (.field (lw_tq j) "java/lang/String" "coder" "B") (.int 0), .arrayOf (.field (lw_tq j) "java/lang/String" "value" "[B") .byte, .eq (.length (.field (lw_tq j) "java/lang/String" "value" "[B")) (.int (Int32.ofNat (kz_txt j).length))] ++ (List.range (kz_txt j).length).map fun k => .eq (.elem (.field (lw_tq j) "java/lang/String" "value" "[B") (.int (Int32.ofNat k))) (.int ((kz_txt j).getD k 0))
abbrev lw_T : Cond := Jvm.Cond.and given_1 narrow_1
def lw_i1 : List Nat := [5, 6, 7, 19, 20, 24, 25, 157, 161, 145]
def lw_i2 (k : Nat) : List Nat := ([[9, 26, 28, 29, 30, 31], [10, 32, 34, 35, 36, 37], [11, 39, 41, 42, 43, 44], [12, 47, 49, 50, 51, 52], [13, 56, 58, 59, 60, 61], [14, 66, 68, 69, 70, 71], [15, 77, 79, 80, 81, 82], [16, 89, 91, 92, 93, 94], [17, 102, 104, 105, 106, 107], [18, 116, 118, 119, 120, 121]] : List (List Nat)).getD k []
/-- where a literal's words begin -/
def lw_ix (j : Nat) : Nat := ([249, 296, 364, 410, 454, 482, 498, 515, 609, 628, 648, 669, 695, 713, 738, 346, 327, 543, 575, 591, 394, 438, 274, 285, 872, 884, 894, 903, 912, 921, 934, 942, 952, 962, 264, 254, 783, 794, 803, 811, 819, 827, 839, 846, 855, 864, 759, 771] : List Nat).getD j 0
theorem lw_inI {args : Array Value} {s : State} {T : Cond} (h : T.before args s = true) {ws : List Cond} (is : List Nat) (e : is.filterMap (fun i => (flatC T)[i]?) = ws) : ∀ w ∈ ws, w.before args s = true := by
  intro w hw
  rw [← e] at hw
  obtain ⟨i, -, hi⟩ := List.mem_filterMap.mp hw
  exact flat_of_before _ h w (List.mem_of_getElem? hi)
theorem lw_inD {args : Array Value} {s : State} {T : Cond} (h : T.before args s = true) {ws : List Cond} (i : Nat) (e : ((flatC T).drop i).take ws.length = ws) : ∀ w ∈ ws, w.before args s = true := by
  intro w hw
  rw [← e] at hw
  exact flat_of_before _ h w (List.mem_of_mem_drop (List.mem_of_mem_take hw))
theorem lw_e1 : lw_i1.filterMap (fun i => (flatC lw_T)[i]?) = lw_n1 := by decide +kernel
theorem lw_e2 : ∀ k, k < 10 → (lw_i2 k).filterMap (fun i => (flatC lw_T)[i]?) = lw_n2 k := by decide +kernel
theorem lw_e3 : ∀ k, k < 48 → ((flatC lw_T).drop (lw_ix k)).take (lw_n3 (1000 + k)).length = lw_n3 (1000 + k) := by decide +kernel
theorem lw_sq : ∀ q ∈ kz_strs, ((1000 ≤ q.2.2.2 ∧ q.2.2.2 < 1048) ∧ lw_tq q.2.2.2 = .string q.1 q.2.1) := by decide +kernel
theorem lw_sr : ∀ q ∈ kz_strs, Cond.stringRef q.1 q.2.1 q.2.2.1 ∈ lw_tbl := List.forall_mem_cons.mpr ⟨kw_216, List.forall_mem_cons.mpr ⟨kw_591, List.forall_mem_cons.mpr ⟨kw_736, List.forall_mem_cons.mpr ⟨kw_762, List.forall_mem_cons.mpr ⟨kw_781, List.forall_mem_cons.mpr ⟨kw_805, List.forall_mem_cons.mpr ⟨kw_866, List.forall_mem_cons.mpr ⟨kw_867, List.forall_mem_cons.mpr ⟨kw_1265, List.forall_mem_cons.mpr ⟨kw_1275, List.forall_mem_cons.mpr ⟨kw_1289, List.forall_mem_cons.mpr ⟨kw_1298, List.forall_mem_cons.mpr ⟨kw_1299, List.forall_mem_cons.mpr ⟨kw_1328, List.forall_mem_cons.mpr ⟨kw_1363, List.forall_mem_cons.mpr ⟨kw_658, List.forall_mem_cons.mpr ⟨kw_628, List.forall_mem_cons.mpr ⟨kw_920, List.forall_mem_cons.mpr ⟨kw_978, List.forall_mem_cons.mpr ⟨kw_979, List.forall_mem_cons.mpr ⟨kw_749, List.forall_mem_cons.mpr ⟨kw_775, List.forall_mem_cons.mpr ⟨kw_395, List.forall_mem_cons.mpr ⟨kw_396, List.forall_mem_cons.mpr ⟨kw_2072, List.forall_mem_cons.mpr ⟨kw_2073, List.forall_mem_cons.mpr ⟨kw_2074, List.forall_mem_cons.mpr ⟨kw_2075, List.forall_mem_cons.mpr ⟨kw_2076, List.forall_mem_cons.mpr ⟨kw_2077, List.forall_mem_cons.mpr ⟨kw_2078, List.forall_mem_cons.mpr ⟨kw_2079, List.forall_mem_cons.mpr ⟨kw_2080, List.forall_mem_cons.mpr ⟨kw_2081, List.forall_mem_cons.mpr ⟨kw_384, List.forall_mem_cons.mpr ⟨kw_369, List.forall_mem_cons.mpr ⟨kw_1568, List.forall_mem_cons.mpr ⟨kw_1569, List.forall_mem_cons.mpr ⟨kw_1570, List.forall_mem_cons.mpr ⟨kw_1571, List.forall_mem_cons.mpr ⟨kw_1572, List.forall_mem_cons.mpr ⟨kw_1573, List.forall_mem_cons.mpr ⟨kw_1574, List.forall_mem_cons.mpr ⟨kw_1575, List.forall_mem_cons.mpr ⟨kw_1576, List.forall_mem_cons.mpr ⟨kw_1577, List.forall_mem_cons.mpr ⟨kw_1520, List.forall_mem_cons.mpr ⟨kw_1552, List.forall_mem_nil _⟩⟩⟩⟩⟩⟩⟩⟩⟩⟩⟩⟩⟩⟩⟩⟩⟩⟩⟩⟩⟩⟩⟩⟩⟩⟩⟩⟩⟩⟩⟩⟩⟩⟩⟩⟩⟩⟩⟩⟩⟩⟩⟩⟩⟩⟩⟩⟩
theorem lw_rdr : ∀ j ∈ kz_read, 1000 ≤ j ∧ j < 1048 := by decide +kernel
theorem lw_rdl : ∀ j ∈ kz_read, (kz_txt j).length < 2 ^ 31 := fun j hj => Nat.lt_trans (kz_txtL j hj) (by decide)
theorem lw_anyA {s : State} {A0 : Array Value} {w : Cond} (hk : kz_ok w = true) (h : w.before A0 s = true) (A : Array Value) : w.before A s = true := by
  cases w with
  | methodLinkNest a b c d => exact va_Nw.use rfl (va_Nw.of rfl h)
  | fieldLinkNest a b c d e f => exact va_Nw.use rfl (va_Nw.of rfl h)
  | castable a b => exact va_Nw.use rfl (va_Nw.of rfl h)
  | declares a => exact va_Nw.use rfl (va_Nw.of rfl h)
  | _ => exact word_at (State.WarmedH.refl s) (good_of_word hk) h
theorem lw_exact {args : Array Value} {s : State} {t : Term} {nm : String} (h : (Cond.exactly t nm).before args s = true) : t.eval args s none [] s = some (.ref (lw_ad args s t)) := by
  obtain ⟨a, c, cA, kA, q1, -⟩ := Cond.exactly_spec (args := args) (first := s) (o := none) (s := s) (idx := []) (t := t) (cls := nm) h
  rw [lw_ad_eq q1]
  exact q1
theorem lw_num_s (args : Array Value) (s : State) (b k : Nat) (hk : k < 10) : lw_num args s b (k + 1) = lw_ad args s (lw_ts k) := by
  unfold lw_num
  rw [if_neg (by omega), if_pos (by omega)]
  rfl
theorem lw_num_q (args : Array Value) (s : State) (b j : Nat) (h1 : 1000 ≤ j) (h2 : j < 1048) : lw_num args s b j = lw_ad args s (lw_tq j) := by
  unfold lw_num
  rw [if_neg (by omega), if_neg (by omega), if_pos (by omega)]
theorem lw_num_v (args : Array Value) (s : State) (b j : Nat) (h1 : 1000 ≤ j) (h2 : j < 1048) : lw_num args s b (j + 1000) = lw_ad args s (.field (lw_tq j) "java/lang/String" "value" "[B") := by
  unfold lw_num
  rw [if_neg (by omega), if_neg (by omega), if_neg (by omega), if_pos (by omega), Nat.add_sub_cancel]
theorem lw_n3w {args : Array Value} {s : State} (hgv : lw_T.before args s = true) {j : Nat} (h1 : 1000 ≤ j) (h2 : j < 1048) : ∀ w ∈ lw_n3 j, w.before args s = true := by
  have e := lw_inD hgv (lw_ix (j - 1000)) (lw_e3 (j - 1000) (by omega))
  rwa [show 1000 + (j - 1000) = j by omega] at e
theorem lw_n3e {args : Array Value} {s : State} (hgv : lw_T.before args s = true) {j : Nat} (h1 : 1000 ≤ j) (h2 : j < 1048) : (Cond.exactly (lw_tq j) "java/lang/String").before args s = true := lw_n3w hgv h1 h2 _ (List.mem_append_left _ (List.mem_cons_self))
/-- what the tables say of the classes -/
theorem lw_cls {args : Array Value} {s : State} (hts : ∀ w ∈ lw_tbl, w.before args s = true) : ∃ D : va_G, va_K D vwCl [] s := by
  have h : ∀ c : Nat, ∃ x : ClassId × (Nat → Nat), ∀ q, vwCl[c]? = some q → u_Kn s q.1 q.2.1 q.2.2 x.1 x.2 := by
    obtain ⟨c0, i0, h0⟩ := u_known hts (fun w hw => (kcX0.2.1 w hw).1) (hts _ kw_141)
    obtain ⟨c1, i1, h1⟩ := u_known hts (fun w hw => (kcX1.2.1 w hw).1) (hts _ kw_37)
    obtain ⟨c2, i2, h2⟩ := u_known hts (fun w hw => (kcX2.2.1 w hw).1) (hts _ kw_77)
    obtain ⟨c3, i3, h3⟩ := u_known hts (fun w hw => (kcX3.2.1 w hw).1) (hts _ kw_1026)
    obtain ⟨c4, i4, h4⟩ := u_known hts (fun w hw => (kcX4.2.1 w hw).1) (hts _ kw_53)
    obtain ⟨c5, i5, h5⟩ := u_known hts (fun w hw => (kcX5.2.1 w hw).1) (hts _ kw_202)
    obtain ⟨c6, i6, h6⟩ := u_known hts (fun w hw => (kcX6.2.1 w hw).1) (hts _ kw_933)
    obtain ⟨c7, i7, h7⟩ := u_known hts (fun w hw => (kcX8.2.1 w hw).1) (hts _ kw_161)
    obtain ⟨c8, i8, h8⟩ := u_known hts (fun w hw => (kcX9.2.1 w hw).1) (hts _ kw_67)
    obtain ⟨c9, i9, h9⟩ := u_known hts (fun w hw => (kcX10.2.1 w hw).1) (hts _ kw_1016)
    obtain ⟨c10, i10, h10⟩ := u_known hts (fun w hw => (kcX11.2.1 w hw).1) (hts _ kw_29)
    obtain ⟨c11, i11, h11⟩ := u_known hts (fun w hw => (kcX12.2.1 w hw).1) (hts _ kw_1365)
    intro c
    match c with
    | 0 => exact ⟨(c0, i0), fun q hq => by cases kcX0.1.symm.trans hq; exact h0⟩
    | 1 => exact ⟨(c1, i1), fun q hq => by cases kcX1.1.symm.trans hq; exact h1⟩
    | 2 => exact ⟨(c2, i2), fun q hq => by cases kcX2.1.symm.trans hq; exact h2⟩
    | 3 => exact ⟨(c3, i3), fun q hq => by cases kcX3.1.symm.trans hq; exact h3⟩
    | 4 => exact ⟨(c4, i4), fun q hq => by cases kcX4.1.symm.trans hq; exact h4⟩
    | 5 => exact ⟨(c5, i5), fun q hq => by cases kcX5.1.symm.trans hq; exact h5⟩
    | 6 => exact ⟨(c6, i6), fun q hq => by cases kcX6.1.symm.trans hq; exact h6⟩
    | 7 => exact ⟨(c7, i7), fun q hq => by cases kcX8.1.symm.trans hq; exact h7⟩
    | 8 => exact ⟨(c8, i8), fun q hq => by cases kcX9.1.symm.trans hq; exact h8⟩
    | 9 => exact ⟨(c9, i9), fun q hq => by cases kcX10.1.symm.trans hq; exact h9⟩
    | 10 => exact ⟨(c10, i10), fun q hq => by cases kcX11.1.symm.trans hq; exact h10⟩
    | 11 => exact ⟨(c11, i11), fun q hq => by cases kcX12.1.symm.trans hq; exact h11⟩
    | c + 12 => exact ⟨(c0, i0), fun q hq => by simp at hq⟩
  obtain ⟨f, hf⟩ := Classical.axiomOfChoice h
  exact ⟨(fun c => (f c).1, fun c => (f c).2), fun c q hq => hf c q hq, fun k q h => by simp at h⟩
theorem lw_isRef {args : Array Value} {s : State} {t : Term} (h : (Cond.isRef t).before args s = true) : t.eval args s none [] s = some .null ∨ t.eval args s none [] s = some (.ref (lw_ad args s t)) := by
  cases hv : t.eval args s none [] s with
  | none => simp [Cond.before, Cond.holds, Cond.value, hv] at h
  | some w =>
    simp only [Cond.before, Cond.holds, Cond.value, hv] at h
    cases w with
    | null => exact Or.inl rfl
    | ref t => exact Or.inr (by rw [lw_ad_eq hv])
    | _ => simp at h
theorem lw_flags {l : Launch} (h : l.flags = flags0) : l.stackTraces = false := by
  unfold Launch.stackTraces
  rw [h]
  decide +kernel
section LWW
variable {l : Launch} {D : va_G} {s : State} {b : Nat}
theorem lw_nS (hgv : lw_T.before #[.ref b] s = true) : lw_tS.eval #[.ref b] s none [] s = some (.ref (lw_num #[.ref b] s b 0)) :=
  lw_exact (nm := "[LLineOffice$Setting;") (lw_inI hgv lw_i1 lw_e1 _ (List.mem_of_getElem? (i := 0) rfl))
theorem lw_nk (hgv : lw_T.before #[.ref b] s = true) {k : Nat} (hk : k < 10) : (lw_ts k).eval #[.ref b] s none [] s = some (.ref (lw_num #[.ref b] s b (k + 1))) := by
  rw [lw_num_s _ _ _ _ hk]
  exact lw_exact (nm := "LineOffice$Setting") (lw_inI hgv (lw_i2 k) (lw_e2 k hk) _ (List.mem_of_getElem? (i := 1) rfl))
theorem lw_nq (hgv : lw_T.before #[.ref b] s = true) {j : Nat} (h1 : 1000 ≤ j) (h2 : j < 1048) : (lw_tq j).eval #[.ref b] s none [] s = some (.ref (lw_num #[.ref b] s b j)) := by
  rw [lw_num_q _ _ _ _ h1 h2]
  exact lw_exact (lw_n3e hgv h1 h2)
theorem lw_hA : ∀ a : Nat, a < s.heap.size → ¬ (fun q : Nat => s.heap.size ≤ q) a := fun _ h => Nat.not_le.mpr h
theorem lw_T0 (hgv : lw_T.before #[.ref b] s = true) : va_T (.object "LineOffice$Setting") (lw_num #[.ref b] s b 0) 10 (fun j => .ref (lw_num #[.ref b] s b (j + 1))) (fun q => s.heap.size ≤ q) s s.heap := by
  have hlen : (Term.length lw_tS).eval #[.ref b] s none [] s = some (.int 10) := va_eqt (lw_inI hgv lw_i1 lw_e1 _ (List.mem_of_getElem? (i := 2) rfl))
  obtain ⟨t, ht, hT⟩ := va_Tof (tm := lw_tS) (ty := .object "LineOffice$Setting") (N := 10) (f := fun j => .ref (lw_num #[.ref b] s b (j + 1))) (A := fun q => s.heap.size ≤ q) (by decide) (lw_inI hgv lw_i1 lw_e1 _ (List.mem_of_getElem? (i := 1) rfl)) hlen (fun j hj => va_eqv (lw_inI hgv (lw_i2 j) (lw_e2 j hj) _ (List.mem_of_getElem? (i := 0) rfl)) (lw_nk hgv hj)) lw_hA
  have e : lw_num #[.ref b] s b 0 = t := by cases (lw_nS hgv).symm.trans ht; rfl
  rw [e]
  exact hT
theorem lw_S0 (hgv : lw_T.before #[.ref b] s = true) {k : Nat} (hk : k < 10) : va_OF "LineOffice$Setting" "lowest" "I" (.int (kz_lo k)) (lw_num #[.ref b] s b (k + 1)) (fun q => s.heap.size ≤ q) s s.heap ∧ va_OF "LineOffice$Setting" "highest" "I" (.int (kz_hi k)) (lw_num #[.ref b] s b (k + 1)) (fun q => s.heap.size ≤ q) s s.heap ∧ va_OF "LineOffice$Setting" "usual" "I" (.int (kz_us k)) (lw_num #[.ref b] s b (k + 1)) (fun q => s.heap.size ≤ q) s s.heap ∧ va_OF "LineOffice$Setting" "word" "Ljava/lang/String;" (.ref (lw_num #[.ref b] s b (kz_wd k))) (lw_num #[.ref b] s b (k + 1)) (fun q => s.heap.size ≤ q) s s.heap := by
  have w2 := lw_inI hgv (lw_i2 k) (lw_e2 k hk)
  refine ⟨vk_OFof (lw_nk hgv hk) (va_eqt (w2 _ (List.mem_of_getElem? (i := 3) rfl))) lw_hA, vk_OFof (lw_nk hgv hk) (va_eqt (w2 _ (List.mem_of_getElem? (i := 4) rfl))) lw_hA, vk_OFof (lw_nk hgv hk) (va_eqt (w2 _ (List.mem_of_getElem? (i := 5) rfl))) lw_hA, vk_OFof (lw_nk hgv hk) (va_eqv (w2 _ (List.mem_of_getElem? (i := 2) rfl)) (lw_nq hgv (j := 1024 + k) (by omega) (by omega))) lw_hA⟩
theorem lw_Q0 (hgv : lw_T.before #[.ref b] s = true) {j : Nat} (hj : j ∈ kz_read) : va_O "java/lang/String" (lw_num #[.ref b] s b j) (fun q => s.heap.size ≤ q) s s.heap ∧ va_OF "java/lang/String" "coder" "B" (.int 0) (lw_num #[.ref b] s b j) (fun q => s.heap.size ≤ q) s s.heap ∧ va_OF "java/lang/String" "value" "[B" (.ref (lw_num #[.ref b] s b (j + 1000))) (lw_num #[.ref b] s b j) (fun q => s.heap.size ≤ q) s s.heap ∧ va_T .byte (lw_num #[.ref b] s b (j + 1000)) (kz_txt j).length (fun k => .int ((kz_txt j).getD k 0)) (fun q => s.heap.size ≤ q) s s.heap := by
  obtain ⟨g1, g2⟩ := lw_rdr j hj
  have w3 := lw_n3w hgv g1 g2
  obtain ⟨t, ht, hT⟩ := va_Tof (tm := .field (lw_tq j) "java/lang/String" "value" "[B") (ty := .byte) (N := (kz_txt j).length) (f := fun k => .int ((kz_txt j).getD k 0)) (A := fun q => s.heap.size ≤ q) (lw_rdl j hj) (w3 _ (List.mem_append_left _ (List.mem_of_getElem? (i := 2) rfl))) (va_eqt (w3 _ (List.mem_append_left _ (List.mem_of_getElem? (i := 3) rfl)))) (fun k hk => va_eqt (w3 _ (List.mem_append_right _ (List.mem_map.mpr ⟨k, List.mem_range.mpr hk, rfl⟩)))) lw_hA
  have e : lw_num #[.ref b] s b (j + 1000) = t := by rw [lw_num_v _ _ _ _ g1 g2, lw_ad_eq ht]
  rw [e]
  exact ⟨va_Oof (lw_n3e hgv g1 g2) (lw_nq hgv g1 g2) lw_hA, vk_OFof (lw_nq hgv g1 g2) (va_eqt (w3 _ (List.mem_append_left _ (List.mem_of_getElem? (i := 1) rfl)))) lw_hA, vk_OFof (lw_nq hgv g1 g2) ht lw_hA, hT⟩
theorem lw_F0 (hts : ∀ w ∈ lw_tbl, w.before #[.ref b] s = true) (hgv : lw_T.before #[.ref b] s = true) : va_Z "jdk/internal/util/Preconditions" "SIOOBE_FORMATTER" "Ljava/util/function/BiFunction;" .null (fun q => s.heap.size ≤ q) s s.heap ∨ va_Z "jdk/internal/util/Preconditions" "SIOOBE_FORMATTER" "Ljava/util/function/BiFunction;" (.ref (lw_num #[.ref b] s b 3000)) (fun q => s.heap.size ≤ q) s s.heap := by
  rcases lw_isRef (lw_inI hgv lw_i1 lw_e1 _ (List.mem_of_getElem? (i := 4) rfl)) with h | h
  · exact Or.inl (va_Zof (hts _ kw_245) (hts _ kw_11) h lw_hA)
  · exact Or.inr (va_Zof (hts _ kw_245) (hts _ kw_11) h lw_hA)
theorem lw_stat (hflags : l.flags = flags0) (hts : ∀ w ∈ lw_tbl, w.before #[.ref b] s = true) (hgv : lw_T.before #[.ref b] s = true) : kz_stat (l, D, s, lw_num #[.ref b] s b) := by
  have h1 : vx_Zq Bundle.tN "UNASSIGNED_STACK" Bundle.steD (fun q => s.heap.size ≤ q) s s.heap := vx_Zqof (hts _ kw_576) (hts _ kw_16) (lw_inI hgv lw_i1 lw_e1 _ (List.mem_of_getElem? (i := 5) rfl)) lw_hA
  have h2 : vx_Zq Bundle.tN "SUPPRESSED_SENTINEL" Bundle.listD (fun q => s.heap.size ≤ q) s s.heap := vx_Zqof (hts _ kw_578) (hts _ kw_16) (lw_inI hgv lw_i1 lw_e1 _ (List.mem_of_getElem? (i := 6) rfl)) lw_hA
  have h3 : va_Z "LineOffice" "SETTINGS" "[LLineOffice$Setting;" (.ref (lw_num #[.ref b] s b 0)) (fun q => s.heap.size ≤ q) s s.heap := va_Zof (hts _ kw_73) (hts _ kw_1) (lw_nS hgv) lw_hA
  have e4 : (Term.static "LineOffice$Setting" "MEASURE" "LLineOffice$Setting;").eval #[.ref b] s none [] s = some (.ref (lw_num #[.ref b] s b 1)) := lw_nk hgv (k := 0) (by omega)
  have h4 : va_Z "LineOffice$Setting" "MEASURE" "LLineOffice$Setting;" (.ref (lw_num #[.ref b] s b 1)) (fun q => s.heap.size ≤ q) s s.heap := va_Zof (hts _ kw_966) (hts _ kw_22) e4 lw_hA
  have w5 : (Cond.eq (.static "java/lang/String" "COMPACT_STRINGS" "Z") (.int 1)).before #[.ref b] s = true := lw_inI hgv lw_i1 lw_e1 _ (List.mem_of_getElem? (i := 3) rfl)
  have h5 : va_Z "java/lang/String" "COMPACT_STRINGS" "Z" (.int 1) (fun q => s.heap.size ≤ q) s s.heap := va_Zof (hts _ kw_229) (hts _ kw_9) (va_eqt w5) lw_hA
  have h6 := lw_T0 hgv
  have h7 := fun k (hk : k < 10) => lw_S0 hgv hk
  have h8 := lw_F0 hts hgv
  have h9 := fun j (hj : j ∈ kz_read) => lw_Q0 hgv hj
  unfold kz_stat kz_old
  dsimp only
  exact ⟨lw_flags hflags, h1, h2, h3, h6, h7, h4, ⟨h5, h8⟩, h9⟩
theorem lw_nc (hgv : lw_T.before #[.ref b] s = true) : kz_nc (l, D, s, lw_num #[.ref b] s b) :=
  ⟨va_Nc.of (lw_inI hgv lw_i1 lw_e1 _ (List.mem_of_getElem? (i := 7) rfl)), va_Nc.of (lw_inI hgv lw_i1 lw_e1 _ (List.mem_of_getElem? (i := 8) rfl)), va_Nc.of (lw_inI hgv lw_i1 lw_e1 _ (List.mem_of_getElem? (i := 9) rfl))⟩
theorem lw_K (hts : ∀ w ∈ lw_tbl, w.before #[.ref b] s = true) (hgv : lw_T.before #[.ref b] s = true) (hD : va_K D vwCl [] s) : kz_K (l, D, s, lw_num #[.ref b] s b) s := by
  refine ⟨fun w hw hk A => lw_anyA hk (hts w hw) A, hD, ⟨fun C hC => va_AO.of (hts _ hC), fun q hq => ?_⟩, Vm.Alike.refl _⟩
  obtain ⟨⟨g1, g2⟩, g3⟩ := lw_sq q hq
  refine vk_R.of (hts _ (lw_sr q hq)) ?_
  rw [← g3]
  exact lw_nq hgv g1 g2
end LWW
