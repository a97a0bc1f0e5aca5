/-! Part 92: what stands at the law's entry -/
def lw_ad (args : Array Value) (s : State) (t : Term) : Nat := match t.eval args s none [] s with
  | some (.ref a) => a
  | _ => 0
theorem lw_ad_eq {args : Array Value} {s : State} {t : Term} {a : Nat} (h : t.eval args s none [] s = some (.ref a)) : lw_ad args s t = a := by
  unfold lw_ad
  rw [h]
def lw_nm : List String := ["MEASURE", "STUFF", "WORN", "FINE", "TERM", "DISTINCT", "FEE", "PROSE_RATE", "VERSE_RATE", "LIST_RATE"]
def lw_ts (k : Nat) : Term := .static "LineOffice$Setting" (lw_nm.getD k "") "LLineOffice$Setting;"
def lw_tS : Term := .static "LineOffice" "SETTINGS" "[LLineOffice$Setting;"
def lw_tq (j : Nat) : Term := .string (kz_strs.getD (j - 1000) ("", 0, "", 0)).1 (kz_strs.getD (j - 1000) ("", 0, "", 0)).2.1
def lw_tF : Term := .static "jdk/internal/util/Preconditions" "SIOOBE_FORMATTER" "Ljava/util/function/BiFunction;"
def lw_tE : Term := .static "java/util/ArrayList" "DEFAULTCAPACITY_EMPTY_ELEMENTDATA" "[Ljava/lang/Object;"
def lw_tO : Term := .static "java/lang/Integer" "DigitOnes" "[B"
def lw_tD : Term := .static "java/lang/Integer" "DigitTens" "[B"
/-- the numbers of what stood there before: 0 the settings' array, 1-10 the settings, 1000.. the literals, 2000.. their bytes, 3000 the formatter, 3001 the mirror, 3002 the empty row, 3003 and 3004 the digits, 9999 nothing, else the script -/
def lw_num (args : Array Value) (s : State) (b mi : Nat) (j : Nat) : Nat :=
  if j = 0 then lw_ad args s lw_tS
  else if j < 1000 then lw_ad args s (lw_ts (j - 1))
  else if j < 2000 then lw_ad args s (lw_tq j)
  else if j < 3000 then lw_ad args s (.field (lw_tq (j - 1000)) "java/lang/String" "value" "[B")
  else if j = 3000 then lw_ad args s lw_tF
  else if j = 3001 then mi
  else if j = 3002 then lw_ad args s lw_tE
  else if j = 3003 then lw_ad args s lw_tO
  else if j = 3004 then lw_ad args s lw_tD
  else if j = 9999 then 0
  else b
/-- the words that it needs -/
def lw_n1 : List Cond := [.exactly lw_tS "[LLineOffice$Setting;", .arrayOf lw_tS (.object "LineOffice$Setting"), .eq (.length lw_tS) (.int 10), .eq (.static "java/lang/String" "COMPACT_STRINGS" "Z") (.int 1), .isRef lw_tF, .isRef (.static "java/lang/Throwable" "UNASSIGNED_STACK" "[Ljava/lang/StackTraceElement;"), .isRef (.static "java/lang/Throwable" "SUPPRESSED_SENTINEL" "Ljava/util/List;"), .isRef (.mirror "[Ljava/lang/Object;"), .arrayOf lw_tE (.object "java/lang/Object"), .eq (.length lw_tE) (.int 0), .arrayOf lw_tO .byte, .eq (.length lw_tO) (.int 100), .arrayOf lw_tD .byte, .eq (.length lw_tD) (.int 100)]
def lw_n2 (k : Nat) : List Cond := [.eq (.elem lw_tS (.int (Int32.ofNat k))) (lw_ts k), .exactly (lw_ts k) "LineOffice$Setting", .eq (.field (lw_ts k) "LineOffice$Setting" "word" "Ljava/lang/String;") (lw_tq (1024 + k)), .eq (.field (lw_ts k) "LineOffice$Setting" "lowest" "I") (.int (kz_lo k)), .eq (.field (lw_ts k) "LineOffice$Setting" "highest" "I") (.int (kz_hi k)), .eq (.field (lw_ts k) "LineOffice$Setting" "usual" "I") (.int (kz_us k))]
def lw_n3 (j : Nat) : List Cond := [.exactly (lw_tq j) "java/lang/String", .eq (.field (lw_tq j) "java/lang/String" "coder" "B") (.int 0), .arrayOf (.field (lw_tq j) "java/lang/String" "value" "[B") .byte, .eq (.length (.field (lw_tq j) "java/lang/String" "value" "[B")) (.int (Int32.ofNat (kz_txt j).length))] ++ (List.range (kz_txt j).length).map fun k => .eq (.elem (.field (lw_tq j) "java/lang/String" "value" "[B") (.int (Int32.ofNat k))) (.int ((kz_txt j).getD k 0))
def lw_nO : List Cond := (List.range 100).map fun j => .eq (.elem lw_tO (.int (Int32.ofNat j))) (.int (nI (48 + j % 10)))
def lw_nD : List Cond := (List.range 100).map fun j => .eq (.elem lw_tD (.int (Int32.ofNat j))) (.int (nI (48 + j / 10)))
abbrev lw_T : Cond := Jvm.Cond.and given_1 narrow_1
def lw_i1 : List Nat := [5, 6, 7, 19, 20, 234, 235, 407, 25, 27, 29, 30, 132, 133]
def lw_i2 (k : Nat) : List Nat := ([[9, 236, 238, 239, 240, 241], [10, 242, 244, 245, 246, 247], [11, 249, 251, 252, 253, 254], [12, 257, 259, 260, 261, 262], [13, 266, 268, 269, 270, 271], [14, 276, 278, 279, 280, 281], [15, 287, 289, 290, 291, 292], [16, 299, 301, 302, 303, 304], [17, 312, 314, 315, 316, 317], [18, 326, 328, 329, 330, 331]] : List (List Nat)).getD k []
/-- where a literal's words begin -/
def lw_ix (j : Nat) : Nat := ([408, 570, 619, 665, 709, 408, 408, 408, 408, 408, 408, 808, 834, 408, 408, 601, 408, 852, 774, 790, 649, 693, 433, 444, 884, 895, 904, 912, 920, 928, 940, 947, 956, 965, 423, 413, 455, 466, 506, 517, 527, 537, 547, 561, 737, 743, 749, 756, 761] : List Nat).getD j 0
theorem lw_inI {args : Array Value} {s : State} {T : Cond} (h : T.before args s = true) {ws : List Cond} (is : List Nat) (e : is.filterMap (fun i => (flatC T)[i]?) = ws) : ∀ w ∈ ws, w.before args s = true := by
  intro w hw
  rw [← e] at hw
  obtain ⟨i, -, hi⟩ := List.mem_filterMap.mp hw
  exact flat_of_before _ h w (List.mem_of_getElem? hi)
theorem lw_inD {args : Array Value} {s : State} {T : Cond} (h : T.before args s = true) {ws : List Cond} (i : Nat) (e : ((flatC T).drop i).take ws.length = ws) : ∀ w ∈ ws, w.before args s = true := by
  intro w hw
  rw [← e] at hw
  exact flat_of_before _ h w (List.mem_of_mem_drop (List.mem_of_mem_take hw))
theorem lw_e1 : lw_i1.filterMap (fun i => (flatC lw_T)[i]?) = lw_n1 := by decide +kernel
theorem lw_e2 : ∀ k, k < 10 → (lw_i2 k).filterMap (fun i => (flatC lw_T)[i]?) = lw_n2 k := by decide +kernel
theorem lw_e3 : ∀ k, k < 49 → ((flatC lw_T).drop (lw_ix k)).take (lw_n3 (1000 + k)).length = lw_n3 (1000 + k) := by decide +kernel
theorem lw_sq : ∀ q ∈ kz_strs, ((1000 ≤ q.2.2.2 ∧ q.2.2.2 < 1049) ∧ lw_tq q.2.2.2 = .string q.1 q.2.1) := by decide +kernel
theorem lw_sr : ∀ q ∈ kz_strs, Cond.stringRef q.1 q.2.1 q.2.2.1 ∈ lw_tbl := List.forall_mem_cons.mpr ⟨kw_223, List.forall_mem_cons.mpr ⟨kw_787, List.forall_mem_cons.mpr ⟨kw_927, List.forall_mem_cons.mpr ⟨kw_977, List.forall_mem_cons.mpr ⟨kw_994, List.forall_mem_cons.mpr ⟨kw_223, List.forall_mem_cons.mpr ⟨kw_223, List.forall_mem_cons.mpr ⟨kw_223, List.forall_mem_cons.mpr ⟨kw_223, List.forall_mem_cons.mpr ⟨kw_223, List.forall_mem_cons.mpr ⟨kw_223, List.forall_mem_cons.mpr ⟨kw_1512, List.forall_mem_cons.mpr ⟨kw_1522, List.forall_mem_cons.mpr ⟨kw_223, List.forall_mem_cons.mpr ⟨kw_223, List.forall_mem_cons.mpr ⟨kw_844, List.forall_mem_cons.mpr ⟨kw_223, List.forall_mem_cons.mpr ⟨kw_1540, List.forall_mem_cons.mpr ⟨kw_1080, List.forall_mem_cons.mpr ⟨kw_1081, List.forall_mem_cons.mpr ⟨kw_964, List.forall_mem_cons.mpr ⟨kw_988, List.forall_mem_cons.mpr ⟨kw_382, List.forall_mem_cons.mpr ⟨kw_383, List.forall_mem_cons.mpr ⟨kw_1604, List.forall_mem_cons.mpr ⟨kw_1605, List.forall_mem_cons.mpr ⟨kw_1606, List.forall_mem_cons.mpr ⟨kw_1607, List.forall_mem_cons.mpr ⟨kw_1608, List.forall_mem_cons.mpr ⟨kw_1609, List.forall_mem_cons.mpr ⟨kw_1610, List.forall_mem_cons.mpr ⟨kw_1611, List.forall_mem_cons.mpr ⟨kw_1612, List.forall_mem_cons.mpr ⟨kw_1613, List.forall_mem_cons.mpr ⟨kw_371, List.forall_mem_cons.mpr ⟨kw_356, List.forall_mem_cons.mpr ⟨kw_515, List.forall_mem_cons.mpr ⟨kw_640, List.forall_mem_cons.mpr ⟨kw_641, List.forall_mem_cons.mpr ⟨kw_642, List.forall_mem_cons.mpr ⟨kw_643, List.forall_mem_cons.mpr ⟨kw_644, List.forall_mem_cons.mpr ⟨kw_645, List.forall_mem_cons.mpr ⟨kw_646, List.forall_mem_cons.mpr ⟨kw_1009, List.forall_mem_cons.mpr ⟨kw_1010, List.forall_mem_cons.mpr ⟨kw_1011, List.forall_mem_cons.mpr ⟨kw_1012, List.forall_mem_cons.mpr ⟨kw_1013, List.forall_mem_nil _⟩⟩⟩⟩⟩⟩⟩⟩⟩⟩⟩⟩⟩⟩⟩⟩⟩⟩⟩⟩⟩⟩⟩⟩⟩⟩⟩⟩⟩⟩⟩⟩⟩⟩⟩⟩⟩⟩⟩⟩⟩⟩⟩⟩⟩⟩⟩⟩⟩
theorem lw_eO : ((flatC lw_T).drop 31).take lw_nO.length = lw_nO := by decide +kernel
theorem lw_eD : ((flatC lw_T).drop 134).take lw_nD.length = lw_nD := by decide +kernel
theorem lw_rdr : ∀ j ∈ kz_read, 1000 ≤ j ∧ j < 1049 := by decide +kernel
theorem lw_rdr2 : ∀ j ∈ kz_readL, 1000 ≤ j ∧ j < 1049 := by decide +kernel
theorem lw_rdl2 : ∀ j ∈ kz_readL, (kz_txt j).length < 2 ^ 31 := by decide +kernel
theorem lw_rdl : ∀ j ∈ kz_read, (kz_txt j).length < 2 ^ 31 := by decide +kernel
theorem lw_anyA {s : State} {A0 : Array Value} {w : Cond} (hk : kz_ok w = true) (h : w.before A0 s = true) (A : Array Value) : w.before A s = true := by
  cases w with
  | methodLinkNest a b c d => exact va_Nw.use rfl (va_Nw.of rfl h)
  | fieldLinkNest a b c d e f => exact va_Nw.use rfl (va_Nw.of rfl h)
  | castable a b => exact va_Nw.use rfl (va_Nw.of rfl h)
  | declares a => exact va_Nw.use rfl (va_Nw.of rfl h)
  | _ => exact word_at (State.WarmedH.refl s) (good_of_word hk) h
theorem lw_exact {args : Array Value} {s : State} {t : Term} {nm : String} (h : (Cond.exactly t nm).before args s = true) : t.eval args s none [] s = some (.ref (lw_ad args s t)) := by
  obtain ⟨a, c, cA, kA, q1, -⟩ := Cond.exactly_spec (args := args) (first := s) (o := none) (s := s) (idx := []) (t := t) (cls := nm) h
  rw [lw_ad_eq q1]
  exact q1
theorem lw_num_s (args : Array Value) (s : State) (b mi k : Nat) (hk : k < 10) : lw_num args s b mi (k + 1) = lw_ad args s (lw_ts k) := by
  unfold lw_num
  rw [if_neg (by omega), if_pos (by omega)]
  rfl
theorem lw_num_q (args : Array Value) (s : State) (b mi j : Nat) (h1 : 1000 ≤ j) (h2 : j < 1049) : lw_num args s b mi j = lw_ad args s (lw_tq j) := by
  unfold lw_num
  rw [if_neg (by omega), if_neg (by omega), if_pos (by omega)]
theorem lw_num_v (args : Array Value) (s : State) (b mi j : Nat) (h1 : 1000 ≤ j) (h2 : j < 1049) : lw_num args s b mi (j + 1000) = lw_ad args s (.field (lw_tq j) "java/lang/String" "value" "[B") := by
  unfold lw_num
  rw [if_neg (by omega), if_neg (by omega), if_neg (by omega), if_pos (by omega), Nat.add_sub_cancel]
theorem lw_n3w {args : Array Value} {s : State} (hgv : lw_T.before args s = true) {j : Nat} (h1 : 1000 ≤ j) (h2 : j < 1049) : ∀ w ∈ lw_n3 j, w.before args s = true := by
  have e := lw_inD hgv (lw_ix (j - 1000)) (lw_e3 (j - 1000) (by omega))
  rwa [show 1000 + (j - 1000) = j by omega] at e
theorem lw_n3e {args : Array Value} {s : State} (hgv : lw_T.before args s = true) {j : Nat} (h1 : 1000 ≤ j) (h2 : j < 1049) : (Cond.exactly (lw_tq j) "java/lang/String").before args s = true := lw_n3w hgv h1 h2 _ (List.mem_append_left _ (List.mem_cons_self))
/-- what the tables say of the classes -/
theorem lw_cls {args : Array Value} {s : State} (hts : ∀ w ∈ lw_tbl, w.before args s = true) : ∃ D : va_G, va_K D vwCl [] s := by
  have h : ∀ c : Nat, ∃ x : ClassId × (Nat → Nat), ∀ q, vwCl[c]? = some q → u_Kn s q.1 q.2.1 q.2.2 x.1 x.2 := by
    obtain ⟨c0, i0, h0⟩ := u_known hts (fun w hw => (kcX0.2.1 w hw).1) (hts _ kw_148)
    obtain ⟨c1, i1, h1⟩ := u_known hts (fun w hw => (kcX1.2.1 w hw).1) (hts _ kw_46)
    obtain ⟨c2, i2, h2⟩ := u_known hts (fun w hw => (kcX2.2.1 w hw).1) (hts _ kw_84)
    obtain ⟨c3, i3, h3⟩ := u_known hts (fun w hw => (kcX3.2.1 w hw).1) (hts _ kw_1142)
    obtain ⟨c4, i4, h4⟩ := u_known hts (fun w hw => (kcX4.2.1 w hw).1) (hts _ kw_62)
    obtain ⟨c5, i5, h5⟩ := u_known hts (fun w hw => (kcX5.2.1 w hw).1) (hts _ kw_209)
    obtain ⟨c6, i6, h6⟩ := u_known hts (fun w hw => (kcX6.2.1 w hw).1) (hts _ kw_1092)
    obtain ⟨c7, i7, h7⟩ := u_known hts (fun w hw => (kcX8.2.1 w hw).1) (hts _ kw_168)
    obtain ⟨c8, i8, h8⟩ := u_known hts (fun w hw => (kcX9.2.1 w hw).1) (hts _ kw_74)
    obtain ⟨c9, i9, h9⟩ := u_known hts (fun w hw => (kcX10.2.1 w hw).1) (hts _ kw_1119)
    obtain ⟨c10, i10, h10⟩ := u_known hts (fun w hw => (kcX11.2.1 w hw).1) (hts _ kw_38)
    obtain ⟨c11, i11, h11⟩ := u_known hts (fun w hw => (kcX12.2.1 w hw).1) (hts _ kw_1262)
    obtain ⟨c12, i12, h12⟩ := u_known hts (fun w hw => (kcX13.2.1 w hw).1) (hts _ kw_1244)
    obtain ⟨c13, i13, h13⟩ := u_known hts (fun w hw => (kcL.2.1 w hw).1) (hts _ kw_448)
    obtain ⟨c14, i14, h14⟩ := u_known hts (fun w hw => (kcJ0.2.1 w hw).1) (hts _ kw_1019)
    obtain ⟨c15, i15, h15⟩ := u_known hts (fun w hw => (kcJ4.2.1 w hw).1) (hts _ kw_483)
    obtain ⟨c16, i16, h16⟩ := u_known hts (fun w hw => (kcJx4a65c.2.1 w hw).1) (hts _ kw_454)
    obtain ⟨c17, i17, h17⟩ := u_known hts (fun w hw => (kcJx35411.2.1 w hw).1) (hts _ kw_1307)
    intro c
    match c with
    | 0 => exact ⟨(c0, i0), fun q hq => by cases kcX0.1.symm.trans hq; exact h0⟩
    | 1 => exact ⟨(c1, i1), fun q hq => by cases kcX1.1.symm.trans hq; exact h1⟩
    | 2 => exact ⟨(c2, i2), fun q hq => by cases kcX2.1.symm.trans hq; exact h2⟩
    | 3 => exact ⟨(c3, i3), fun q hq => by cases kcX3.1.symm.trans hq; exact h3⟩
    | 4 => exact ⟨(c4, i4), fun q hq => by cases kcX4.1.symm.trans hq; exact h4⟩
    | 5 => exact ⟨(c5, i5), fun q hq => by cases kcX5.1.symm.trans hq; exact h5⟩
    | 6 => exact ⟨(c6, i6), fun q hq => by cases kcX6.1.symm.trans hq; exact h6⟩
    | 7 => exact ⟨(c7, i7), fun q hq => by cases kcX8.1.symm.trans hq; exact h7⟩
    | 8 => exact ⟨(c8, i8), fun q hq => by cases kcX9.1.symm.trans hq; exact h8⟩
    | 9 => exact ⟨(c9, i9), fun q hq => by cases kcX10.1.symm.trans hq; exact h9⟩
    | 10 => exact ⟨(c10, i10), fun q hq => by cases kcX11.1.symm.trans hq; exact h10⟩
    | 11 => exact ⟨(c11, i11), fun q hq => by cases kcX12.1.symm.trans hq; exact h11⟩
    | 12 => exact ⟨(c12, i12), fun q hq => by cases kcX13.1.symm.trans hq; exact h12⟩
    | 13 => exact ⟨(c13, i13), fun q hq => by cases kcL.1.symm.trans hq; exact h13⟩
    | 14 => exact ⟨(c14, i14), fun q hq => by cases kcJ0.1.symm.trans hq; exact h14⟩
    | 15 => exact ⟨(c15, i15), fun q hq => by cases kcJ4.1.symm.trans hq; exact h15⟩
    | 16 => exact ⟨(c16, i16), fun q hq => by cases kcJx4a65c.1.symm.trans hq; exact h16⟩
    | 17 => exact ⟨(c17, i17), fun q hq => by cases kcJx35411.1.symm.trans hq; exact h17⟩
    | c + 18 => exact ⟨(c0, i0), fun q hq => by simp at hq⟩
  obtain ⟨f, hf⟩ := Classical.axiomOfChoice h
  exact ⟨(fun c => (f c).1, fun c => (f c).2), fun c q hq => hf c q hq, fun k q h => by simp at h⟩
theorem lw_isRef {args : Array Value} {s : State} {t : Term} (h : (Cond.isRef t).before args s = true) : t.eval args s none [] s = some .null ∨ t.eval args s none [] s = some (.ref (lw_ad args s t)) := by
  cases hv : t.eval args s none [] s with
  | none => simp [Cond.before, Cond.holds, Cond.value, hv] at h
  | some w =>
    simp only [Cond.before, Cond.holds, Cond.value, hv] at h
    cases w with
    | null => exact Or.inl rfl
    | ref t => exact Or.inr (by rw [lw_ad_eq hv])
    | _ => simp at h
theorem lw_flags {l : Launch} (h : l.flags = flags0) : l.stackTraces = false := by
  unfold Launch.stackTraces
  rw [h]
  decide +kernel
section LWW
variable {l : Launch} {D : va_G} {s : State} {b mi : Nat}
theorem lw_nS (hgv : lw_T.before #[.ref b] s = true) : lw_tS.eval #[.ref b] s none [] s = some (.ref (lw_num #[.ref b] s b mi 0)) :=
  lw_exact (nm := "[LLineOffice$Setting;") (lw_inI hgv lw_i1 lw_e1 _ (List.mem_of_getElem? (i := 0) rfl))
theorem lw_nk (hgv : lw_T.before #[.ref b] s = true) {k : Nat} (hk : k < 10) : (lw_ts k).eval #[.ref b] s none [] s = some (.ref (lw_num #[.ref b] s b mi (k + 1))) := by
  rw [lw_num_s _ _ _ _ _ hk]
  exact lw_exact (nm := "LineOffice$Setting") (lw_inI hgv (lw_i2 k) (lw_e2 k hk) _ (List.mem_of_getElem? (i := 1) rfl))
theorem lw_nq (hgv : lw_T.before #[.ref b] s = true) {j : Nat} (h1 : 1000 ≤ j) (h2 : j < 1049) : (lw_tq j).eval #[.ref b] s none [] s = some (.ref (lw_num #[.ref b] s b mi j)) := by
  rw [lw_num_q _ _ _ _ _ h1 h2]
  exact lw_exact (lw_n3e hgv h1 h2)
theorem lw_hA : ∀ a : Nat, a < s.heap.size → ¬ (fun q : Nat => s.heap.size ≤ q) a := fun _ h => Nat.not_le.mpr h
theorem lw_T0 (hgv : lw_T.before #[.ref b] s = true) : va_T (.object "LineOffice$Setting") (lw_num #[.ref b] s b mi 0) 10 (fun j => .ref (lw_num #[.ref b] s b mi (j + 1))) (fun q => s.heap.size ≤ q) s s.heap := by
  have hlen : (Term.length lw_tS).eval #[.ref b] s none [] s = some (.int 10) := va_eqt (lw_inI hgv lw_i1 lw_e1 _ (List.mem_of_getElem? (i := 2) rfl))
  obtain ⟨t, ht, hT⟩ := va_Tof (tm := lw_tS) (ty := .object "LineOffice$Setting") (N := 10) (f := fun j => .ref (lw_num #[.ref b] s b mi (j + 1))) (A := fun q => s.heap.size ≤ q) (by decide) (lw_inI hgv lw_i1 lw_e1 _ (List.mem_of_getElem? (i := 1) rfl)) hlen (fun j hj => va_eqv (lw_inI hgv (lw_i2 j) (lw_e2 j hj) _ (List.mem_of_getElem? (i := 0) rfl)) (lw_nk hgv hj)) lw_hA
  have e : lw_num #[.ref b] s b mi 0 = t := by cases (lw_nS (mi := mi) hgv).symm.trans ht; rfl
  rw [e]
  exact hT
theorem lw_S0 (hgv : lw_T.before #[.ref b] s = true) {k : Nat} (hk : k < 10) : va_OF "LineOffice$Setting" "lowest" "I" (.int (kz_lo k)) (lw_num #[.ref b] s b mi (k + 1)) (fun q => s.heap.size ≤ q) s s.heap ∧ va_OF "LineOffice$Setting" "highest" "I" (.int (kz_hi k)) (lw_num #[.ref b] s b mi (k + 1)) (fun q => s.heap.size ≤ q) s s.heap ∧ va_OF "LineOffice$Setting" "usual" "I" (.int (kz_us k)) (lw_num #[.ref b] s b mi (k + 1)) (fun q => s.heap.size ≤ q) s s.heap ∧ va_OF "LineOffice$Setting" "word" "Ljava/lang/String;" (.ref (lw_num #[.ref b] s b mi (kz_wd k))) (lw_num #[.ref b] s b mi (k + 1)) (fun q => s.heap.size ≤ q) s s.heap := by
  have w2 := lw_inI hgv (lw_i2 k) (lw_e2 k hk)
  refine ⟨vk_OFof (lw_nk hgv hk) (va_eqt (w2 _ (List.mem_of_getElem? (i := 3) rfl))) lw_hA, vk_OFof (lw_nk hgv hk) (va_eqt (w2 _ (List.mem_of_getElem? (i := 4) rfl))) lw_hA, vk_OFof (lw_nk hgv hk) (va_eqt (w2 _ (List.mem_of_getElem? (i := 5) rfl))) lw_hA, vk_OFof (lw_nk hgv hk) (va_eqv (w2 _ (List.mem_of_getElem? (i := 2) rfl)) (lw_nq hgv (j := 1024 + k) (by omega) (by omega))) lw_hA⟩
theorem lw_Q0 (hgv : lw_T.before #[.ref b] s = true) {j : Nat} (g1 : 1000 ≤ j) (g2 : j < 1049) (g3 : (kz_txt j).length < 2 ^ 31) : va_O "java/lang/String" (lw_num #[.ref b] s b mi j) (fun q => s.heap.size ≤ q) s s.heap ∧ va_OF "java/lang/String" "coder" "B" (.int 0) (lw_num #[.ref b] s b mi j) (fun q => s.heap.size ≤ q) s s.heap ∧ va_OF "java/lang/String" "value" "[B" (.ref (lw_num #[.ref b] s b mi (j + 1000))) (lw_num #[.ref b] s b mi j) (fun q => s.heap.size ≤ q) s s.heap ∧ va_T .byte (lw_num #[.ref b] s b mi (j + 1000)) (kz_txt j).length (fun k => .int ((kz_txt j).getD k 0)) (fun q => s.heap.size ≤ q) s s.heap := by
  have w3 := lw_n3w hgv g1 g2
  obtain ⟨t, ht, hT⟩ := va_Tof (tm := .field (lw_tq j) "java/lang/String" "value" "[B") (ty := .byte) (N := (kz_txt j).length) (f := fun k => .int ((kz_txt j).getD k 0)) (A := fun q => s.heap.size ≤ q) g3 (w3 _ (List.mem_append_left _ (List.mem_of_getElem? (i := 2) rfl))) (va_eqt (w3 _ (List.mem_append_left _ (List.mem_of_getElem? (i := 3) rfl)))) (fun k hk => va_eqt (w3 _ (List.mem_append_right _ (List.mem_map.mpr ⟨k, List.mem_range.mpr hk, rfl⟩)))) lw_hA
  have e : lw_num #[.ref b] s b mi (j + 1000) = t := by rw [lw_num_v _ _ _ _ _ g1 g2, lw_ad_eq ht]
  rw [e]
  exact ⟨va_Oof (lw_n3e hgv g1 g2) (lw_nq hgv g1 g2) lw_hA, vk_OFof (lw_nq hgv g1 g2) (va_eqt (w3 _ (List.mem_append_left _ (List.mem_of_getElem? (i := 1) rfl)))) lw_hA, vk_OFof (lw_nq hgv g1 g2) ht lw_hA, hT⟩
theorem lw_F0 (hts : ∀ w ∈ lw_tbl, w.before #[.ref b] s = true) (hgv : lw_T.before #[.ref b] s = true) : va_Z "jdk/internal/util/Preconditions" "SIOOBE_FORMATTER" "Ljava/util/function/BiFunction;" .null (fun q => s.heap.size ≤ q) s s.heap ∨ va_Z "jdk/internal/util/Preconditions" "SIOOBE_FORMATTER" "Ljava/util/function/BiFunction;" (.ref (lw_num #[.ref b] s b mi 3000)) (fun q => s.heap.size ≤ q) s s.heap := by
  rcases lw_isRef (lw_inI hgv lw_i1 lw_e1 _ (List.mem_of_getElem? (i := 4) rfl)) with h | h
  · exact Or.inl (va_Zof (hts _ kw_252) (hts _ kw_12) h lw_hA)
  · exact Or.inr (va_Zof (hts _ kw_252) (hts _ kw_12) h lw_hA)
theorem lw_stat (hflags : l.flags = flags0) (hts : ∀ w ∈ lw_tbl, w.before #[.ref b] s = true) (hgv : lw_T.before #[.ref b] s = true) : kz_stat (l, D, s, lw_num #[.ref b] s b mi) := by
  have h1 : vx_Zq Bundle.tN "UNASSIGNED_STACK" Bundle.steD (fun q => s.heap.size ≤ q) s s.heap := vx_Zqof (hts _ kw_773) (hts _ kw_24) (lw_inI hgv lw_i1 lw_e1 _ (List.mem_of_getElem? (i := 5) rfl)) lw_hA
  have h2 : vx_Zq Bundle.tN "SUPPRESSED_SENTINEL" Bundle.listD (fun q => s.heap.size ≤ q) s s.heap := vx_Zqof (hts _ kw_775) (hts _ kw_24) (lw_inI hgv lw_i1 lw_e1 _ (List.mem_of_getElem? (i := 6) rfl)) lw_hA
  have h3 : va_Z "LineOffice" "SETTINGS" "[LLineOffice$Setting;" (.ref (lw_num #[.ref b] s b mi 0)) (fun q => s.heap.size ≤ q) s s.heap := va_Zof (hts _ kw_80) (hts _ kw_16) (lw_nS hgv) lw_hA
  have w5 : (Cond.eq (.static "java/lang/String" "COMPACT_STRINGS" "Z") (.int 1)).before #[.ref b] s = true := lw_inI hgv lw_i1 lw_e1 _ (List.mem_of_getElem? (i := 3) rfl)
  have h5 : va_Z "java/lang/String" "COMPACT_STRINGS" "Z" (.int 1) (fun q => s.heap.size ≤ q) s s.heap := va_Zof (hts _ kw_236) (hts _ kw_6) (va_eqt w5) lw_hA
  have h6 := lw_T0 (mi := mi) hgv
  have h7 := fun k (hk : k < 10) => lw_S0 (mi := mi) hgv hk
  have h8 := lw_F0 (mi := mi) hts hgv
  have h9 := fun j (hj : j ∈ kz_read) => lw_Q0 (mi := mi) hgv (lw_rdr j hj).1 (lw_rdr j hj).2 (lw_rdl j hj)
  unfold kz_stat kz_old
  dsimp only
  exact ⟨lw_flags hflags, h1, h2, h3, h6, h7, trivial, ⟨h5, h8⟩, h9⟩
theorem lw_stat2 (hts : ∀ w ∈ lw_tbl, w.before #[.ref b] s = true) (hgv : lw_T.before #[.ref b] s = true) : kz_stat2 (l, D, s, lw_num #[.ref b] s b mi) := by
  obtain ⟨t, ht, hT⟩ := va_Tof (tm := lw_tE) (ty := .object "java/lang/Object") (N := 0) (f := fun _ => .null) (A := fun q => s.heap.size ≤ q) (by decide) (lw_inI hgv lw_i1 lw_e1 _ (List.mem_of_getElem? (i := 8) rfl)) (va_eqt (lw_inI hgv lw_i1 lw_e1 _ (List.mem_of_getElem? (i := 9) rfl))) (fun j hj => absurd hj (by omega)) lw_hA
  obtain ⟨t2, ht2, hT2⟩ := va_Tof (tm := lw_tO) (ty := .byte) (N := 100) (f := fun j => .int (nI (48 + j % 10))) (A := fun q => s.heap.size ≤ q) (by decide) (lw_inI hgv lw_i1 lw_e1 _ (List.mem_of_getElem? (i := 10) rfl)) (va_eqt (lw_inI hgv lw_i1 lw_e1 _ (List.mem_of_getElem? (i := 11) rfl))) (fun j hj => va_eqt (lw_inD hgv 31 lw_eO _ (List.mem_map.mpr ⟨j, List.mem_range.mpr hj, rfl⟩))) lw_hA
  obtain ⟨t3, ht3, hT3⟩ := va_Tof (tm := lw_tD) (ty := .byte) (N := 100) (f := fun j => .int (nI (48 + j / 10))) (A := fun q => s.heap.size ≤ q) (by decide) (lw_inI hgv lw_i1 lw_e1 _ (List.mem_of_getElem? (i := 12) rfl)) (va_eqt (lw_inI hgv lw_i1 lw_e1 _ (List.mem_of_getElem? (i := 13) rfl))) (fun j hj => va_eqt (lw_inD hgv 134 lw_eD _ (List.mem_map.mpr ⟨j, List.mem_range.mpr hj, rfl⟩))) lw_hA
  have e1 : lw_num #[.ref b] s b mi 3002 = t := (show lw_num #[.ref b] s b mi 3002 = lw_ad #[.ref b] s lw_tE from rfl).trans (lw_ad_eq ht)
  have e2 : lw_num #[.ref b] s b mi 3003 = t2 := (show lw_num #[.ref b] s b mi 3003 = lw_ad #[.ref b] s lw_tO from rfl).trans (lw_ad_eq ht2)
  have e3 : lw_num #[.ref b] s b mi 3004 = t3 := (show lw_num #[.ref b] s b mi 3004 = lw_ad #[.ref b] s lw_tD from rfl).trans (lw_ad_eq ht3)
  have h9 := fun j (hj : j ∈ kz_readL) => lw_Q0 (mi := mi) hgv (lw_rdr2 j hj).1 (lw_rdr2 j hj).2 (lw_rdl2 j hj)
  have z1 := va_Zof (C := "java/util/ArrayList") (n := "DEFAULTCAPACITY_EMPTY_ELEMENTDATA") (d := "[Ljava/lang/Object;") (hts _ kw_466) (hts _ kw_3) ht (A := fun q => s.heap.size ≤ q) lw_hA
  have z2 := va_Zof (C := "java/lang/Integer") (n := "DigitOnes") (d := "[B") (hts _ kw_629) (hts _ kw_15) ht2 (A := fun q => s.heap.size ≤ q) lw_hA
  have z3 := va_Zof (C := "java/lang/Integer") (n := "DigitTens") (d := "[B") (hts _ kw_631) (hts _ kw_15) ht3 (A := fun q => s.heap.size ≤ q) lw_hA
  rw [← e1] at hT z1
  rw [← e2] at hT2 z2
  rw [← e3] at hT3 z3
  unfold kz_stat2 kz_old
  dsimp only
  exact ⟨z1, hT, z2, hT2, z3, hT3, h9⟩
theorem lw_statP (hts : ∀ w ∈ lw_tbl, w.before #[.ref b] s = true) : kz_statP (l, D, s, lw_num #[.ref b] s b mi) := by
  have e : ∀ y : MethodName, (Cond.privateMethod y).before #[.ref b] s = true → (Cond.privateMethod y).before #[] s = true := fun y h => by
    have e := Cond.onTables_vm (A := #[.ref b]) (A' := #[]) (U := s) (U' := s) s.vm (Cond.privateMethod y) rfl
    exact e ▸ h
  exact List.forall_mem_cons.mpr ⟨e _ (hts _ kw_528), List.forall_mem_cons.mpr ⟨e _ (hts _ kw_532), List.forall_mem_cons.mpr ⟨e _ (hts _ kw_582), List.forall_mem_cons.mpr ⟨e _ (hts _ kw_586), List.forall_mem_nil _⟩⟩⟩⟩
theorem lw_mirror (hgv : lw_T.before #[.ref b] s = true) : ∃ mi, va_Mi "[Ljava/lang/Object;" mi s := va_Mi.of (lw_inI hgv lw_i1 lw_e1 _ (List.mem_of_getElem? (i := 7) rfl))
theorem lw_K (hts : ∀ w ∈ lw_tbl, w.before #[.ref b] s = true) (hgv : lw_T.before #[.ref b] s = true) (hD : va_K D vwCl [] s) (hmi : va_Mi "[Ljava/lang/Object;" mi s) : kz_K (l, D, s, lw_num #[.ref b] s b mi) s := by
  have hF : ∀ q ∈ kz_faces, va_Fw q.1 q.2.1 q.2.2 s := List.forall_mem_cons.mpr ⟨va_Fw.of (hts _ kw_816) (hts _ kw_815) (hts _ kw_821) (hts _ kw_819) (hts _ kw_817), List.forall_mem_cons.mpr ⟨va_Fw.of (hts _ kw_931) (hts _ kw_930) (hts _ kw_935) (hts _ kw_933) (hts _ kw_817), List.forall_mem_cons.mpr ⟨va_Fw.of (hts _ kw_940) (hts _ kw_939) (hts _ kw_944) (hts _ kw_942) (hts _ kw_817), List.forall_mem_cons.mpr ⟨va_Fw.of (hts _ kw_1300) (hts _ kw_1299) (hts _ kw_1304) (hts _ kw_1302) (hts _ kw_817), List.forall_mem_cons.mpr ⟨va_Fw.of (hts _ kw_1351) (hts _ kw_1350) (hts _ kw_1355) (hts _ kw_1353) (hts _ kw_817), List.forall_mem_cons.mpr ⟨va_Fw.of (hts _ kw_1328) (hts _ kw_1327) (hts _ kw_1333) (hts _ kw_1331) (hts _ kw_1329), List.forall_mem_cons.mpr ⟨va_Fw.of (hts _ kw_1338) (hts _ kw_1337) (hts _ kw_1342) (hts _ kw_1340) (hts _ kw_1329), List.forall_mem_nil _⟩⟩⟩⟩⟩⟩⟩
  refine ⟨fun w hw hk A => lw_anyA hk (hts w hw) A, hD, ⟨⟨fun C hC => va_AO.of (hts _ hC), hF, hmi⟩, fun q hq => ?_⟩, Vm.Alike.refl _⟩
  obtain ⟨⟨g1, g2⟩, g3⟩ := lw_sq q hq
  refine vk_R.of (hts _ (lw_sr q hq)) ?_
  rw [← g3]
  exact lw_nq hgv g1 g2
end LWW
