/-! Part 03: rows of the judgement for constants, locals, arithmetic, branches -/
theorem kz_lat {G : kz_G} {la : Array Slot} {n : Nat} {ls : List (Nat × Value)} (h : lv_has la n (ls.map fun q => (q.1, kz_v G q.2))) {j i : Nat} {v : Value} (hj : ls[j]? = some (i, v)) : la[i]? = some (.val (kz_v G v)) :=
  lv_at h j (by rw [List.getElem?_map, hj]; rfl)
theorem kz_cat (G : kz_G) (v : Value) : (kz_v G v).category = v.category := by cases v <;> rfl
def kz_s1 (i : Nat) (ls : List (Nat × Value)) : List (Nat × Value) := ls.filter (fun q => !(q.1 == i) && !(q.1 + 1 == i && q.2.category == 2))
def kz_s2 (i : Nat) (ls : List (Nat × Value)) : List (Nat × Value) := ls.filter (fun q => !(q.1 == i) && (!(q.1 == i + 1) && !(q.1 + 1 == i && q.2.category == 2)))
theorem kz_s1map (G : kz_G) (i : Nat) (ls : List (Nat × Value)) : (ls.map fun q => (q.1, kz_v G q.2)).filter (fun q => !(q.1 == i) && !(q.1 + 1 == i && q.2.category == 2)) = (kz_s1 i ls).map fun q => (q.1, kz_v G q.2) := by
  unfold kz_s1
  rw [List.filter_map]
  congr 2
  funext q
  simp [kz_cat]
theorem kz_s2map (G : kz_G) (i : Nat) (ls : List (Nat × Value)) : (ls.map fun q => (q.1, kz_v G q.2)).filter (fun q => !(q.1 == i) && (!(q.1 == i + 1) && !(q.1 + 1 == i && q.2.category == 2))) = (kz_s2 i ls).map fun q => (q.1, kz_v G q.2) := by
  unfold kz_s2
  rw [List.filter_map]
  congr 2
  funext q
  simp [kz_cat]
section KZR
variable {G : kz_G} {d mc ms : Nat} {μ : kz_Y} {Qr : Option Value → kz_M → Prop} {Qx : String → kz_M → Prop} {pc : Nat} {ls : List (Nat × Value)} {st : List Value} {M : kz_M} {c sl : Nat}
/-- fewer locals, in any order, by their places -/
theorem kz_sub (ks : List Nat) {ls' : List (Nat × Value)} (hk : lv_pick ls ks = ls') (k : kz_Z G d mc ms μ Qr Qx pc ls' st M c sl) : kz_Z G d mc ms μ Qr Qx pc ls st M c sl := by
  intro p e R s m args below meth cd H locs la hF hl hH hL
  refine k p e R s m args below meth cd H locs la hF (lv_sub hl ks ?_) hH hL
  rw [← hk]
  simp only [lv_pick, List.getElem?_map, List.map_filterMap]
theorem kz_widen {c1 sl1 : Nat} (h1 : c ≤ c1) (h2 : sl ≤ sl1) (k : kz_Z G d mc ms μ Qr Qx pc ls st M c1 sl1) : kz_Z G d mc ms μ Qr Qx pc ls st M c sl := by
  intro p e R s m args below meth cd H locs la hF hl hH hL
  exact W.widen h1 h2 (k p e R s m args below meth cd H locs la hF hl hH hL)
theorem kz_iconst {n : Int} {v : Int32} (hv : Int32.ofInt n = v) (hd : decode μ.2.1 pc = .ok (.iconst n, 1)) (k : kz_Z G d mc ms μ Qr Qx (pc + 1) ls (.int v :: st) M c sl) : kz_Z G d mc ms μ Qr Qx pc ls (st) M c sl := by
  intro p e R s m args below meth cd H locs la hF hl hH hL
  exact lv_iconst hF.1 hF.2.1 hd hv (k p e R s m args below meth cd H locs la hF hl hH hL)
theorem kz_bipush {n : Int} {v : Int32} (hv : (Int8.ofInt n).toInt32 = v) (hd : decode μ.2.1 pc = .ok (.bipush n, 2)) (k : kz_Z G d mc ms μ Qr Qx (pc + 2) ls (.int v :: st) M c sl) : kz_Z G d mc ms μ Qr Qx pc ls (st) M c sl := by
  intro p e R s m args below meth cd H locs la hF hl hH hL
  exact lv_bipush hF.1 hF.2.1 hd hv (k p e R s m args below meth cd H locs la hF hl hH hL)
theorem kz_sipush {n : Int} {v : Int32} (hv : (Int16.ofInt n).toInt32 = v) (hd : decode μ.2.1 pc = .ok (.sipush n, 3)) (k : kz_Z G d mc ms μ Qr Qx (pc + 3) ls (.int v :: st) M c sl) : kz_Z G d mc ms μ Qr Qx pc ls (st) M c sl := by
  intro p e R s m args below meth cd H locs la hF hl hH hL
  exact lv_sipush hF.1 hF.2.1 hd hv (k p e R s m args below meth cd H locs la hF hl hH hL)
theorem kz_lconst {n : Fin 2} {v : Int64} (hv : Int64.ofNat (n : Nat) = v) (hd : decode μ.2.1 pc = .ok (.lconst n, 1)) (k : kz_Z G d mc ms μ Qr Qx (pc + 1) ls (.long v :: st) M c sl) : kz_Z G d mc ms μ Qr Qx pc ls (st) M c sl := by
  intro p e R s m args below meth cd H locs la hF hl hH hL
  exact lv_lconst hF.1 hF.2.1 hd hv (k p e R s m args below meth cd H locs la hF hl hH hL)
theorem kz_fconst0  (hd : decode μ.2.1 pc = .ok (.fconst 0, 1)) (k : kz_Z G d mc ms μ Qr Qx (pc + 1) ls (.float FP.fconst0 :: st) M c sl) : kz_Z G d mc ms μ Qr Qx pc ls (st) M c sl := by
  intro p e R s m args below meth cd H locs la hF hl hH hL
  exact lv_fconst0 hF.1 hF.2.1 hd (k p e R s m args below meth cd H locs la hF hl hH hL)
theorem kz_dconst0  (hd : decode μ.2.1 pc = .ok (.dconst 0, 1)) (k : kz_Z G d mc ms μ Qr Qx (pc + 1) ls (.double FP.dconst0 :: st) M c sl) : kz_Z G d mc ms μ Qr Qx pc ls (st) M c sl := by
  intro p e R s m args below meth cd H locs la hF hl hH hL
  exact lv_dconst0 hF.1 hF.2.1 hd (k p e R s m args below meth cd H locs la hF hl hH hL)
theorem kz_null  (hd : decode μ.2.1 pc = .ok (.aconst_null, 1)) (k : kz_Z G d mc ms μ Qr Qx (pc + 1) ls (.null :: st) M c sl) : kz_Z G d mc ms μ Qr Qx pc ls (st) M c sl := by
  intro p e R s m args below meth cd H locs la hF hl hH hL
  exact lv_null hF.1 hF.2.1 hd (k p e R s m args below meth cd H locs la hF hl hH hL)
theorem kz_iload (j : Nat) {i : Nat} {x : Int32} (hj : ls[j]? = some (i, .int x)) (hd : decode μ.2.1 pc = .ok (.iload i, 2)) (k : kz_Z G d mc ms μ Qr Qx (pc + 2) ls (.int x :: st) M c sl) : kz_Z G d mc ms μ Qr Qx pc ls (st) M c sl := by
  intro p e R s m args below meth cd H locs la hF hl hH hL
  exact lv_iload hF.1 hF.2.1 hd (kz_lat (v := .int x) hl hj) (k p e R s m args below meth cd H locs la hF hl hH hL)
theorem kz_iload_n (j : Nat) {i : Nat} {n : Fin 4} {x : Int32} (hi : (n : Nat) = i) (hj : ls[j]? = some (i, .int x)) (hd : decode μ.2.1 pc = .ok (.iload_n n, 1)) (k : kz_Z G d mc ms μ Qr Qx (pc + 1) ls (.int x :: st) M c sl) : kz_Z G d mc ms μ Qr Qx pc ls (st) M c sl := by
  intro p e R s m args below meth cd H locs la hF hl hH hL
  exact lv_iload_n hF.1 hF.2.1 hd hi (kz_lat (v := .int x) hl hj) (k p e R s m args below meth cd H locs la hF hl hH hL)
theorem kz_lload (j : Nat) {i : Nat} {x : Int64} (hj : ls[j]? = some (i, .long x)) (hd : decode μ.2.1 pc = .ok (.lload i, 2)) (k : kz_Z G d mc ms μ Qr Qx (pc + 2) ls (.long x :: st) M c sl) : kz_Z G d mc ms μ Qr Qx pc ls (st) M c sl := by
  intro p e R s m args below meth cd H locs la hF hl hH hL
  exact lv_lload hF.1 hF.2.1 hd (kz_lat (v := .long x) hl hj) (k p e R s m args below meth cd H locs la hF hl hH hL)
theorem kz_lload_n (j : Nat) {i : Nat} {n : Fin 4} {x : Int64} (hi : (n : Nat) = i) (hj : ls[j]? = some (i, .long x)) (hd : decode μ.2.1 pc = .ok (.lload_n n, 1)) (k : kz_Z G d mc ms μ Qr Qx (pc + 1) ls (.long x :: st) M c sl) : kz_Z G d mc ms μ Qr Qx pc ls (st) M c sl := by
  intro p e R s m args below meth cd H locs la hF hl hH hL
  exact lv_lload_n hF.1 hF.2.1 hd hi (kz_lat (v := .long x) hl hj) (k p e R s m args below meth cd H locs la hF hl hH hL)
theorem kz_fload (j : Nat) {i : Nat} {x : UInt32} (hj : ls[j]? = some (i, .float x)) (hd : decode μ.2.1 pc = .ok (.fload i, 2)) (k : kz_Z G d mc ms μ Qr Qx (pc + 2) ls (.float x :: st) M c sl) : kz_Z G d mc ms μ Qr Qx pc ls (st) M c sl := by
  intro p e R s m args below meth cd H locs la hF hl hH hL
  exact lv_fload hF.1 hF.2.1 hd (kz_lat (v := .float x) hl hj) (k p e R s m args below meth cd H locs la hF hl hH hL)
theorem kz_fload_n (j : Nat) {i : Nat} {n : Fin 4} {x : UInt32} (hi : (n : Nat) = i) (hj : ls[j]? = some (i, .float x)) (hd : decode μ.2.1 pc = .ok (.fload_n n, 1)) (k : kz_Z G d mc ms μ Qr Qx (pc + 1) ls (.float x :: st) M c sl) : kz_Z G d mc ms μ Qr Qx pc ls (st) M c sl := by
  intro p e R s m args below meth cd H locs la hF hl hH hL
  exact lv_fload_n hF.1 hF.2.1 hd hi (kz_lat (v := .float x) hl hj) (k p e R s m args below meth cd H locs la hF hl hH hL)
theorem kz_dload (j : Nat) {i : Nat} {x : UInt64} (hj : ls[j]? = some (i, .double x)) (hd : decode μ.2.1 pc = .ok (.dload i, 2)) (k : kz_Z G d mc ms μ Qr Qx (pc + 2) ls (.double x :: st) M c sl) : kz_Z G d mc ms μ Qr Qx pc ls (st) M c sl := by
  intro p e R s m args below meth cd H locs la hF hl hH hL
  exact lv_dload hF.1 hF.2.1 hd (kz_lat (v := .double x) hl hj) (k p e R s m args below meth cd H locs la hF hl hH hL)
theorem kz_dload_n (j : Nat) {i : Nat} {n : Fin 4} {x : UInt64} (hi : (n : Nat) = i) (hj : ls[j]? = some (i, .double x)) (hd : decode μ.2.1 pc = .ok (.dload_n n, 1)) (k : kz_Z G d mc ms μ Qr Qx (pc + 1) ls (.double x :: st) M c sl) : kz_Z G d mc ms μ Qr Qx pc ls (st) M c sl := by
  intro p e R s m args below meth cd H locs la hF hl hH hL
  exact lv_dload_n hF.1 hF.2.1 hd hi (kz_lat (v := .double x) hl hj) (k p e R s m args below meth cd H locs la hF hl hH hL)
/-- a reference: a cell, null, or what stood there before -/
def kz_isr (v : Value) : Bool := match v with
  | .ref _ => true
  | .retAddr _ => true
  | .null => true
  | _ => false
theorem kz_aload (j : Nat) {i : Nat} {v : Value} (hj : ls[j]? = some (i, v)) (hv : kz_isr v = true) (hd : decode μ.2.1 pc = .ok (.aload i, 2)) (k : kz_Z G d mc ms μ Qr Qx (pc + 2) ls (v :: st) M c sl) : kz_Z G d mc ms μ Qr Qx pc ls st M c sl := by
  intro p e R s m args below meth cd H locs la hF hl hH hL
  have k := k p e R s m args below meth cd H locs la hF hl hH hL
  have hg := kz_lat hl hj
  cases v with
  | ref a => exact lv_aload hF.1 hF.2.1 hd hg k
  | retAddr a => exact lv_aload hF.1 hF.2.1 hd hg k
  | null => exact lv_aloadN hF.1 hF.2.1 hd hg k
  | _ => cases hv
theorem kz_aload_n (j : Nat) {i : Nat} {v : Value} {n : Fin 4} (hi : (n : Nat) = i) (hj : ls[j]? = some (i, v)) (hv : kz_isr v = true) (hd : decode μ.2.1 pc = .ok (.aload_n n, 1)) (k : kz_Z G d mc ms μ Qr Qx (pc + 1) ls (v :: st) M c sl) : kz_Z G d mc ms μ Qr Qx pc ls st M c sl := by
  intro p e R s m args below meth cd H locs la hF hl hH hL
  have k := k p e R s m args below meth cd H locs la hF hl hH hL
  have hg := kz_lat hl hj
  cases v with
  | ref a => exact lv_aload_n hF.1 hF.2.1 hd hi hg k
  | retAddr a => exact lv_aload_n hF.1 hF.2.1 hd hi hg k
  | null => exact lv_aload_nN hF.1 hF.2.1 hd hi hg k
  | _ => cases hv
theorem kz_istore {i : Nat} {x : Int32} {ls' : List (Nat × Value)} (hn : i < μ.2.2.1) (hs : kz_s1 i ls = ls') (hd : decode μ.2.1 pc = .ok (.istore i, 2)) (k : kz_Z G d mc ms μ Qr Qx (pc + 2) ((i, .int x) :: ls') st M c sl) : kz_Z G d mc ms μ Qr Qx pc ls (.int x :: st) M c sl := by
  intro p e R s m args below meth cd H locs la hF hl hH hL
  subst hs
  exact lv_istore hF.1 hF.2.1 hd hl hn (by rw [kz_s1map]; rfl) (fun la' hl' => k p e R s m args below meth cd H locs la' hF hl' hH hL)
theorem kz_istore_n {i : Nat} {x : Int32} {ls' : List (Nat × Value)} {n : Fin 4} (hi : (n : Nat) = i) (hn : i < μ.2.2.1) (hs : kz_s1 i ls = ls') (hd : decode μ.2.1 pc = .ok (.istore_n n, 1)) (k : kz_Z G d mc ms μ Qr Qx (pc + 1) ((i, .int x) :: ls') st M c sl) : kz_Z G d mc ms μ Qr Qx pc ls (.int x :: st) M c sl := by
  intro p e R s m args below meth cd H locs la hF hl hH hL
  subst hs
  exact lv_istore_n hF.1 hF.2.1 hd hi hl hn (by rw [kz_s1map]; rfl) (fun la' hl' => k p e R s m args below meth cd H locs la' hF hl' hH hL)
theorem kz_lstore {i : Nat} {x : Int64} {ls' : List (Nat × Value)} (hn : i + 1 < μ.2.2.1) (hs : kz_s2 i ls = ls') (hd : decode μ.2.1 pc = .ok (.lstore i, 2)) (k : kz_Z G d mc ms μ Qr Qx (pc + 2) ((i, .long x) :: ls') st M c sl) : kz_Z G d mc ms μ Qr Qx pc ls (.long x :: st) M c sl := by
  intro p e R s m args below meth cd H locs la hF hl hH hL
  subst hs
  exact lv_lstore hF.1 hF.2.1 hd hl hn (by rw [kz_s2map]; rfl) (fun la' hl' => k p e R s m args below meth cd H locs la' hF hl' hH hL)
theorem kz_lstore_n {i : Nat} {x : Int64} {ls' : List (Nat × Value)} {n : Fin 4} (hi : (n : Nat) = i) (hn : i + 1 < μ.2.2.1) (hs : kz_s2 i ls = ls') (hd : decode μ.2.1 pc = .ok (.lstore_n n, 1)) (k : kz_Z G d mc ms μ Qr Qx (pc + 1) ((i, .long x) :: ls') st M c sl) : kz_Z G d mc ms μ Qr Qx pc ls (.long x :: st) M c sl := by
  intro p e R s m args below meth cd H locs la hF hl hH hL
  subst hs
  exact lv_lstore_n hF.1 hF.2.1 hd hi hl hn (by rw [kz_s2map]; rfl) (fun la' hl' => k p e R s m args below meth cd H locs la' hF hl' hH hL)
theorem kz_fstore {i : Nat} {x : UInt32} {ls' : List (Nat × Value)} (hn : i < μ.2.2.1) (hs : kz_s1 i ls = ls') (hd : decode μ.2.1 pc = .ok (.fstore i, 2)) (k : kz_Z G d mc ms μ Qr Qx (pc + 2) ((i, .float x) :: ls') st M c sl) : kz_Z G d mc ms μ Qr Qx pc ls (.float x :: st) M c sl := by
  intro p e R s m args below meth cd H locs la hF hl hH hL
  subst hs
  exact lv_fstore hF.1 hF.2.1 hd hl hn (by rw [kz_s1map]; rfl) (fun la' hl' => k p e R s m args below meth cd H locs la' hF hl' hH hL)
theorem kz_fstore_n {i : Nat} {x : UInt32} {ls' : List (Nat × Value)} {n : Fin 4} (hi : (n : Nat) = i) (hn : i < μ.2.2.1) (hs : kz_s1 i ls = ls') (hd : decode μ.2.1 pc = .ok (.fstore_n n, 1)) (k : kz_Z G d mc ms μ Qr Qx (pc + 1) ((i, .float x) :: ls') st M c sl) : kz_Z G d mc ms μ Qr Qx pc ls (.float x :: st) M c sl := by
  intro p e R s m args below meth cd H locs la hF hl hH hL
  subst hs
  exact lv_fstore_n hF.1 hF.2.1 hd hi hl hn (by rw [kz_s1map]; rfl) (fun la' hl' => k p e R s m args below meth cd H locs la' hF hl' hH hL)
theorem kz_dstore {i : Nat} {x : UInt64} {ls' : List (Nat × Value)} (hn : i + 1 < μ.2.2.1) (hs : kz_s2 i ls = ls') (hd : decode μ.2.1 pc = .ok (.dstore i, 2)) (k : kz_Z G d mc ms μ Qr Qx (pc + 2) ((i, .double x) :: ls') st M c sl) : kz_Z G d mc ms μ Qr Qx pc ls (.double x :: st) M c sl := by
  intro p e R s m args below meth cd H locs la hF hl hH hL
  subst hs
  exact lv_dstore hF.1 hF.2.1 hd hl hn (by rw [kz_s2map]; rfl) (fun la' hl' => k p e R s m args below meth cd H locs la' hF hl' hH hL)
theorem kz_dstore_n {i : Nat} {x : UInt64} {ls' : List (Nat × Value)} {n : Fin 4} (hi : (n : Nat) = i) (hn : i + 1 < μ.2.2.1) (hs : kz_s2 i ls = ls') (hd : decode μ.2.1 pc = .ok (.dstore_n n, 1)) (k : kz_Z G d mc ms μ Qr Qx (pc + 1) ((i, .double x) :: ls') st M c sl) : kz_Z G d mc ms μ Qr Qx pc ls (.double x :: st) M c sl := by
  intro p e R s m args below meth cd H locs la hF hl hH hL
  subst hs
  exact lv_dstore_n hF.1 hF.2.1 hd hi hl hn (by rw [kz_s2map]; rfl) (fun la' hl' => k p e R s m args below meth cd H locs la' hF hl' hH hL)
theorem kz_astore {i : Nat} {v : Value} {ls' : List (Nat × Value)} (hv : kz_isr v = true) (hn : i < μ.2.2.1) (hs : kz_s1 i ls = ls') (hd : decode μ.2.1 pc = .ok (.astore i, 2)) (k : kz_Z G d mc ms μ Qr Qx (pc + 2) ((i, v) :: ls') st M c sl) : kz_Z G d mc ms μ Qr Qx pc ls (v :: st) M c sl := by
  intro p e R s m args below meth cd H locs la hF hl hH hL
  subst hs
  have kk := fun la' hl' => k p e R s m args below meth cd H locs la' hF hl' hH hL
  cases v with
  | ref a => exact lv_astore hF.1 hF.2.1 hd hl hn (by rw [kz_s1map]; rfl) kk
  | retAddr a => exact lv_astore hF.1 hF.2.1 hd hl hn (by rw [kz_s1map]; rfl) kk
  | null => exact lv_astoreN hF.1 hF.2.1 hd hl hn (by rw [kz_s1map]; rfl) kk
  | _ => cases hv
theorem kz_astore_n {i : Nat} {v : Value} {ls' : List (Nat × Value)} {n : Fin 4} (hi : (n : Nat) = i) (hv : kz_isr v = true) (hn : i < μ.2.2.1) (hs : kz_s1 i ls = ls') (hd : decode μ.2.1 pc = .ok (.astore_n n, 1)) (k : kz_Z G d mc ms μ Qr Qx (pc + 1) ((i, v) :: ls') st M c sl) : kz_Z G d mc ms μ Qr Qx pc ls (v :: st) M c sl := by
  intro p e R s m args below meth cd H locs la hF hl hH hL
  subst hs
  have kk := fun la' hl' => k p e R s m args below meth cd H locs la' hF hl' hH hL
  cases v with
  | ref a => exact lv_astore_n hF.1 hF.2.1 hd hi hl hn (by rw [kz_s1map]; rfl) kk
  | retAddr a => exact lv_astore_n hF.1 hF.2.1 hd hi hl hn (by rw [kz_s1map]; rfl) kk
  | null => exact lv_astore_nN hF.1 hF.2.1 hd hi hl hn (by rw [kz_s1map]; rfl) kk
  | _ => cases hv
theorem kz_iinc (j : Nat) {i : Nat} {n : Int} {x v : Int32} {ls' : List (Nat × Value)} (hj : ls[j]? = some (i, .int x)) (hv : x + Int32.ofInt n = v) (hn : i < μ.2.2.1) (hs : kz_s1 i ls = ls') (hd : decode μ.2.1 pc = .ok (.iinc i n, 3)) (k : kz_Z G d mc ms μ Qr Qx (pc + 3) ((i, .int v) :: ls') st M c sl) : kz_Z G d mc ms μ Qr Qx pc ls st M c sl := by
  intro p e R s m args below meth cd H locs la hF hl hH hL
  subst hs
  exact lv_iinc (k := j) hF.1 hF.2.1 hd hl (by rw [List.getElem?_map, hj]; rfl) hv hn (by rw [kz_s1map]; rfl) (fun la' hl' => k p e R s m args below meth cd H locs la' hF hl' hH hL)
theorem kz_iadd {x y : Int32}  (hd : decode μ.2.1 pc = .ok (.iadd, 1)) (k : kz_Z G d mc ms μ Qr Qx (pc + 1) ls (.int (x + y) :: st) M c sl) : kz_Z G d mc ms μ Qr Qx pc ls (.int y :: .int x :: st) M c sl := by
  intro p e R s m args below meth cd H locs la hF hl hH hL
  exact lv_iadd hF.1 hF.2.1 hd (k p e R s m args below meth cd H locs la hF hl hH hL)
theorem kz_isub {x y : Int32}  (hd : decode μ.2.1 pc = .ok (.isub, 1)) (k : kz_Z G d mc ms μ Qr Qx (pc + 1) ls (.int (x - y) :: st) M c sl) : kz_Z G d mc ms μ Qr Qx pc ls (.int y :: .int x :: st) M c sl := by
  intro p e R s m args below meth cd H locs la hF hl hH hL
  exact lv_isub hF.1 hF.2.1 hd (k p e R s m args below meth cd H locs la hF hl hH hL)
theorem kz_imul {x y : Int32}  (hd : decode μ.2.1 pc = .ok (.imul, 1)) (k : kz_Z G d mc ms μ Qr Qx (pc + 1) ls (.int (x * y) :: st) M c sl) : kz_Z G d mc ms μ Qr Qx pc ls (.int y :: .int x :: st) M c sl := by
  intro p e R s m args below meth cd H locs la hF hl hH hL
  exact lv_imul hF.1 hF.2.1 hd (k p e R s m args below meth cd H locs la hF hl hH hL)
theorem kz_idiv {x y : Int32} (hne : ¬ y = 0) (hd : decode μ.2.1 pc = .ok (.idiv, 1)) (k : kz_Z G d mc ms μ Qr Qx (pc + 1) ls (.int (x / y) :: st) M c sl) : kz_Z G d mc ms μ Qr Qx pc ls (.int y :: .int x :: st) M c sl := by
  intro p e R s m args below meth cd H locs la hF hl hH hL
  exact lv_idiv hF.1 hF.2.1 hd hne (k p e R s m args below meth cd H locs la hF hl hH hL)
theorem kz_irem {x y : Int32} (hne : ¬ y = 0) (hd : decode μ.2.1 pc = .ok (.irem, 1)) (k : kz_Z G d mc ms μ Qr Qx (pc + 1) ls (.int (x - x / y * y) :: st) M c sl) : kz_Z G d mc ms μ Qr Qx pc ls (.int y :: .int x :: st) M c sl := by
  intro p e R s m args below meth cd H locs la hF hl hH hL
  exact lv_irem hF.1 hF.2.1 hd hne (k p e R s m args below meth cd H locs la hF hl hH hL)
theorem kz_ldiv {x y : Int64} (hne : ¬ y = 0) (hd : decode μ.2.1 pc = .ok (.ldiv, 1)) (k : kz_Z G d mc ms μ Qr Qx (pc + 1) ls (.long (x / y) :: st) M c sl) : kz_Z G d mc ms μ Qr Qx pc ls (.long y :: .long x :: st) M c sl := by
  intro p e R s m args below meth cd H locs la hF hl hH hL
  exact lv_ldiv hF.1 hF.2.1 hd hne (k p e R s m args below meth cd H locs la hF hl hH hL)
theorem kz_lrem {x y : Int64} (hne : ¬ y = 0) (hd : decode μ.2.1 pc = .ok (.lrem, 1)) (k : kz_Z G d mc ms μ Qr Qx (pc + 1) ls (.long (x - x / y * y) :: st) M c sl) : kz_Z G d mc ms μ Qr Qx pc ls (.long y :: .long x :: st) M c sl := by
  intro p e R s m args below meth cd H locs la hF hl hH hL
  exact lv_lrem hF.1 hF.2.1 hd hne (k p e R s m args below meth cd H locs la hF hl hH hL)
theorem kz_iand {x y : Int32}  (hd : decode μ.2.1 pc = .ok (.iand, 1)) (k : kz_Z G d mc ms μ Qr Qx (pc + 1) ls (.int (x &&& y) :: st) M c sl) : kz_Z G d mc ms μ Qr Qx pc ls (.int y :: .int x :: st) M c sl := by
  intro p e R s m args below meth cd H locs la hF hl hH hL
  exact lv_iand hF.1 hF.2.1 hd (k p e R s m args below meth cd H locs la hF hl hH hL)
theorem kz_ior {x y : Int32}  (hd : decode μ.2.1 pc = .ok (.ior, 1)) (k : kz_Z G d mc ms μ Qr Qx (pc + 1) ls (.int (x ||| y) :: st) M c sl) : kz_Z G d mc ms μ Qr Qx pc ls (.int y :: .int x :: st) M c sl := by
  intro p e R s m args below meth cd H locs la hF hl hH hL
  exact lv_ior hF.1 hF.2.1 hd (k p e R s m args below meth cd H locs la hF hl hH hL)
theorem kz_land {x y : Int64}  (hd : decode μ.2.1 pc = .ok (.land, 1)) (k : kz_Z G d mc ms μ Qr Qx (pc + 1) ls (.long (x &&& y) :: st) M c sl) : kz_Z G d mc ms μ Qr Qx pc ls (.long y :: .long x :: st) M c sl := by
  intro p e R s m args below meth cd H locs la hF hl hH hL
  exact lv_land hF.1 hF.2.1 hd (k p e R s m args below meth cd H locs la hF hl hH hL)
theorem kz_lor {x y : Int64}  (hd : decode μ.2.1 pc = .ok (.lor, 1)) (k : kz_Z G d mc ms μ Qr Qx (pc + 1) ls (.long (x ||| y) :: st) M c sl) : kz_Z G d mc ms μ Qr Qx pc ls (.long y :: .long x :: st) M c sl := by
  intro p e R s m args below meth cd H locs la hF hl hH hL
  exact lv_lor hF.1 hF.2.1 hd (k p e R s m args below meth cd H locs la hF hl hH hL)
theorem kz_ladd {x y : Int64}  (hd : decode μ.2.1 pc = .ok (.ladd, 1)) (k : kz_Z G d mc ms μ Qr Qx (pc + 1) ls (.long (x + y) :: st) M c sl) : kz_Z G d mc ms μ Qr Qx pc ls (.long y :: .long x :: st) M c sl := by
  intro p e R s m args below meth cd H locs la hF hl hH hL
  exact lv_ladd hF.1 hF.2.1 hd (k p e R s m args below meth cd H locs la hF hl hH hL)
theorem kz_lsub {x y : Int64}  (hd : decode μ.2.1 pc = .ok (.lsub, 1)) (k : kz_Z G d mc ms μ Qr Qx (pc + 1) ls (.long (x - y) :: st) M c sl) : kz_Z G d mc ms μ Qr Qx pc ls (.long y :: .long x :: st) M c sl := by
  intro p e R s m args below meth cd H locs la hF hl hH hL
  exact lv_lsub hF.1 hF.2.1 hd (k p e R s m args below meth cd H locs la hF hl hH hL)
theorem kz_lmul {x y : Int64}  (hd : decode μ.2.1 pc = .ok (.lmul, 1)) (k : kz_Z G d mc ms μ Qr Qx (pc + 1) ls (.long (x * y) :: st) M c sl) : kz_Z G d mc ms μ Qr Qx pc ls (.long y :: .long x :: st) M c sl := by
  intro p e R s m args below meth cd H locs la hF hl hH hL
  exact lv_lmul hF.1 hF.2.1 hd (k p e R s m args below meth cd H locs la hF hl hH hL)
theorem kz_ishl {x y : Int32}  (hd : decode μ.2.1 pc = .ok (.ishl, 1)) (k : kz_Z G d mc ms μ Qr Qx (pc + 1) ls (.int (x <<< (y &&& 31)) :: st) M c sl) : kz_Z G d mc ms μ Qr Qx pc ls (.int y :: .int x :: st) M c sl := by
  intro p e R s m args below meth cd H locs la hF hl hH hL
  exact lv_ishl hF.1 hF.2.1 hd (k p e R s m args below meth cd H locs la hF hl hH hL)
theorem kz_ishr {x y : Int32}  (hd : decode μ.2.1 pc = .ok (.ishr, 1)) (k : kz_Z G d mc ms μ Qr Qx (pc + 1) ls (.int (x >>> (y &&& 31)) :: st) M c sl) : kz_Z G d mc ms μ Qr Qx pc ls (.int y :: .int x :: st) M c sl := by
  intro p e R s m args below meth cd H locs la hF hl hH hL
  exact lv_ishr hF.1 hF.2.1 hd (k p e R s m args below meth cd H locs la hF hl hH hL)
theorem kz_lshl {x : Int64} {y : Int32}  (hd : decode μ.2.1 pc = .ok (.lshl, 1)) (k : kz_Z G d mc ms μ Qr Qx (pc + 1) ls (.long (x <<< (y.toInt64 &&& 63)) :: st) M c sl) : kz_Z G d mc ms μ Qr Qx pc ls (.int y :: .long x :: st) M c sl := by
  intro p e R s m args below meth cd H locs la hF hl hH hL
  exact lv_lshl hF.1 hF.2.1 hd rfl (k p e R s m args below meth cd H locs la hF hl hH hL)
theorem kz_lshr {x : Int64} {y : Int32}  (hd : decode μ.2.1 pc = .ok (.lshr, 1)) (k : kz_Z G d mc ms μ Qr Qx (pc + 1) ls (.long (x >>> (y.toInt64 &&& 63)) :: st) M c sl) : kz_Z G d mc ms μ Qr Qx pc ls (.int y :: .long x :: st) M c sl := by
  intro p e R s m args below meth cd H locs la hF hl hH hL
  exact lv_lshr hF.1 hF.2.1 hd rfl (k p e R s m args below meth cd H locs la hF hl hH hL)
theorem kz_fdiv {x y : UInt32} (hne : vf_n32 (FP.fdiv x y)) (hd : decode μ.2.1 pc = .ok (.fdiv, 1)) (k : kz_Z G d mc ms μ Qr Qx (pc + 1) ls (.float (FP.fdiv x y) :: st) M c sl) : kz_Z G d mc ms μ Qr Qx pc ls (.float y :: .float x :: st) M c sl := by
  intro p e R s m args below meth cd H locs la hF hl hH hL
  exact lv_fdiv hF.1 hF.2.1 hd hne (k p e R s m args below meth cd H locs la hF hl hH hL)
theorem kz_ddiv {x y : UInt64} (hne : vf_n64 (FP.ddiv x y)) (hd : decode μ.2.1 pc = .ok (.ddiv, 1)) (k : kz_Z G d mc ms μ Qr Qx (pc + 1) ls (.double (FP.ddiv x y) :: st) M c sl) : kz_Z G d mc ms μ Qr Qx pc ls (.double y :: .double x :: st) M c sl := by
  intro p e R s m args below meth cd H locs la hF hl hH hL
  exact lv_ddiv hF.1 hF.2.1 hd hne (k p e R s m args below meth cd H locs la hF hl hH hL)
theorem kz_ineg {x : Int32}  (hd : decode μ.2.1 pc = .ok (.ineg, 1)) (k : kz_Z G d mc ms μ Qr Qx (pc + 1) ls (.int (-x) :: st) M c sl) : kz_Z G d mc ms μ Qr Qx pc ls (.int x :: st) M c sl := by
  intro p e R s m args below meth cd H locs la hF hl hH hL
  exact lv_ineg hF.1 hF.2.1 hd (k p e R s m args below meth cd H locs la hF hl hH hL)
theorem kz_i2l {x : Int32}  (hd : decode μ.2.1 pc = .ok (.i2l, 1)) (k : kz_Z G d mc ms μ Qr Qx (pc + 1) ls (.long (x.toInt64) :: st) M c sl) : kz_Z G d mc ms μ Qr Qx pc ls (.int x :: st) M c sl := by
  intro p e R s m args below meth cd H locs la hF hl hH hL
  exact lv_i2l hF.1 hF.2.1 hd rfl (k p e R s m args below meth cd H locs la hF hl hH hL)
theorem kz_l2i {x : Int64}  (hd : decode μ.2.1 pc = .ok (.l2i, 1)) (k : kz_Z G d mc ms μ Qr Qx (pc + 1) ls (.int (x.toInt32) :: st) M c sl) : kz_Z G d mc ms μ Qr Qx pc ls (.long x :: st) M c sl := by
  intro p e R s m args below meth cd H locs la hF hl hH hL
  exact lv_l2i hF.1 hF.2.1 hd rfl (k p e R s m args below meth cd H locs la hF hl hH hL)
theorem kz_i2b {x : Int32}  (hd : decode μ.2.1 pc = .ok (.i2b, 1)) (k : kz_Z G d mc ms μ Qr Qx (pc + 1) ls (.int (x.toInt8.toInt32) :: st) M c sl) : kz_Z G d mc ms μ Qr Qx pc ls (.int x :: st) M c sl := by
  intro p e R s m args below meth cd H locs la hF hl hH hL
  exact lv_i2b hF.1 hF.2.1 hd rfl (k p e R s m args below meth cd H locs la hF hl hH hL)
theorem kz_i2f {x : Int32}  (hd : decode μ.2.1 pc = .ok (.i2f, 1)) (k : kz_Z G d mc ms μ Qr Qx (pc + 1) ls (.float (FP.i2f x) :: st) M c sl) : kz_Z G d mc ms μ Qr Qx pc ls (.int x :: st) M c sl := by
  intro p e R s m args below meth cd H locs la hF hl hH hL
  exact lv_i2f hF.1 hF.2.1 hd (k p e R s m args below meth cd H locs la hF hl hH hL)
theorem kz_i2d {x : Int32}  (hd : decode μ.2.1 pc = .ok (.i2d, 1)) (k : kz_Z G d mc ms μ Qr Qx (pc + 1) ls (.double (FP.i2d x) :: st) M c sl) : kz_Z G d mc ms μ Qr Qx pc ls (.int x :: st) M c sl := by
  intro p e R s m args below meth cd H locs la hF hl hH hL
  exact lv_i2d hF.1 hF.2.1 hd (k p e R s m args below meth cd H locs la hF hl hH hL)
theorem kz_f2d {x : UInt32} (hne : vf_n64 (FP.f2d x)) (hd : decode μ.2.1 pc = .ok (.f2d, 1)) (k : kz_Z G d mc ms μ Qr Qx (pc + 1) ls (.double (FP.f2d x) :: st) M c sl) : kz_Z G d mc ms μ Qr Qx pc ls (.float x :: st) M c sl := by
  intro p e R s m args below meth cd H locs la hF hl hH hL
  exact lv_f2d hF.1 hF.2.1 hd hne (k p e R s m args below meth cd H locs la hF hl hH hL)
theorem kz_lcmp {x y : Int64} (hd : decode μ.2.1 pc = .ok (.lcmp, 1)) (k : kz_Z G d mc ms μ Qr Qx (pc + 1) ls (.int (lg_cmp x y) :: st) M c sl) : kz_Z G d mc ms μ Qr Qx pc ls (.long y :: .long x :: st) M c sl := by
  intro p e R s m args below meth cd H locs la hF hl hH hL
  exact W.lcmp hF.1 hF.2.1 hd (k p e R s m args below meth cd H locs la hF hl hH hL)
theorem kz_fcmp {x y : UInt32} {op : CmpOp} (hd : decode μ.2.1 pc = .ok (.fcmp op, 1)) (k : kz_Z G d mc ms μ Qr Qx (pc + 1) ls (.int (Op.cmpValue (FP.fcmp x y) op) :: st) M c sl) : kz_Z G d mc ms μ Qr Qx pc ls (.float y :: .float x :: st) M c sl := by
  intro p e R s m args below meth cd H locs la hF hl hH hL
  exact lv_fcmp hF.1 hF.2.1 hd (k p e R s m args below meth cd H locs la hF hl hH hL)
theorem kz_dcmp {x y : UInt64} {op : CmpOp} (hd : decode μ.2.1 pc = .ok (.dcmp op, 1)) (k : kz_Z G d mc ms μ Qr Qx (pc + 1) ls (.int (Op.cmpValue (FP.dcmp x y) op) :: st) M c sl) : kz_Z G d mc ms μ Qr Qx pc ls (.double y :: .double x :: st) M c sl := by
  intro p e R s m args below meth cd H locs la hF hl hH hL
  exact lv_dcmp hF.1 hF.2.1 hd (k p e R s m args below meth cd H locs la hF hl hH hL)
theorem kz_dup {v : Value} (hv : v.category = 1) (hd : decode μ.2.1 pc = .ok (.dup, 1)) (k : kz_Z G d mc ms μ Qr Qx (pc + 1) ls (v :: v :: st) M c sl) : kz_Z G d mc ms μ Qr Qx pc ls (v :: st) M c sl := by
  intro p e R s m args below meth cd H locs la hF hl hH hL
  exact lv_dup hF.1 hF.2.1 hd ((kz_cat G v).trans hv) (k p e R s m args below meth cd H locs la hF hl hH hL)
theorem kz_pop {v : Value} (hv : v.category = 1) (hd : decode μ.2.1 pc = .ok (.pop, 1)) (k : kz_Z G d mc ms μ Qr Qx (pc + 1) ls (st) M c sl) : kz_Z G d mc ms μ Qr Qx pc ls (v :: st) M c sl := by
  intro p e R s m args below meth cd H locs la hF hl hH hL
  exact lv_pop hF.1 hF.2.1 hd ((kz_cat G v).trans hv) (k p e R s m args below meth cd H locs la hF hl hH hL)
theorem kz_dup2_11 {v w : Value} (hv : v.category = 1) (hw : w.category = 1) (hd : decode μ.2.1 pc = .ok (.dup2, 1)) (k : kz_Z G d mc ms μ Qr Qx (pc + 1) ls (v :: w :: v :: w :: st) M c sl) : kz_Z G d mc ms μ Qr Qx pc ls (v :: w :: st) M c sl := by
  intro p e R s m args below meth cd H locs la hF hl hH hL
  exact lv_dup2_11 hF.1 hF.2.1 hd ((kz_cat G v).trans hv) ((kz_cat G w).trans hw) (k p e R s m args below meth cd H locs la hF hl hH hL)
theorem kz_dup2_2 {v : Value} (hv : v.category = 2) (hd : decode μ.2.1 pc = .ok (.dup2, 1)) (k : kz_Z G d mc ms μ Qr Qx (pc + 1) ls (v :: v :: st) M c sl) : kz_Z G d mc ms μ Qr Qx pc ls (v :: st) M c sl := by
  intro p e R s m args below meth cd H locs la hF hl hH hL
  exact lv_dup2_2 hF.1 hF.2.1 hd ((kz_cat G v).trans hv) (k p e R s m args below meth cd H locs la hF hl hH hL)
theorem kz_if_eq {x : Int32} {off : Int} {tgt : Nat} (ht : (pc : Int) + off = (tgt : Int)) (hd : decode μ.2.1 pc = .ok (.ifCond .eq off, 3)) (kt : x = 0 → kz_Z G d mc ms μ Qr Qx tgt ls st M c sl) (kf : ¬ x = 0 → kz_Z G d mc ms μ Qr Qx (pc + 3) ls st M c sl) : kz_Z G d mc ms μ Qr Qx pc ls (.int x :: st) M c sl := by
  intro p e R s m args below meth cd H locs la hF hl hH hL
  exact lv_if_eq hF.1 hF.2.1 hd ht (fun h => kt h p e R s m args below meth cd H locs la hF hl hH hL) (fun h => kf h p e R s m args below meth cd H locs la hF hl hH hL)
theorem kz_icmp_eq {x y : Int32} {off : Int} {tgt : Nat} (ht : (pc : Int) + off = (tgt : Int)) (hd : decode μ.2.1 pc = .ok (.if_icmp .eq off, 3)) (kt : x = y → kz_Z G d mc ms μ Qr Qx tgt ls st M c sl) (kf : ¬ x = y → kz_Z G d mc ms μ Qr Qx (pc + 3) ls st M c sl) : kz_Z G d mc ms μ Qr Qx pc ls (.int y :: .int x :: st) M c sl := by
  intro p e R s m args below meth cd H locs la hF hl hH hL
  exact lv_icmp_eq hF.1 hF.2.1 hd ht (fun h => kt h p e R s m args below meth cd H locs la hF hl hH hL) (fun h => kf h p e R s m args below meth cd H locs la hF hl hH hL)
theorem kz_if_ne {x : Int32} {off : Int} {tgt : Nat} (ht : (pc : Int) + off = (tgt : Int)) (hd : decode μ.2.1 pc = .ok (.ifCond .ne off, 3)) (kt : ¬ x = 0 → kz_Z G d mc ms μ Qr Qx tgt ls st M c sl) (kf : x = 0 → kz_Z G d mc ms μ Qr Qx (pc + 3) ls st M c sl) : kz_Z G d mc ms μ Qr Qx pc ls (.int x :: st) M c sl := by
  intro p e R s m args below meth cd H locs la hF hl hH hL
  exact lv_if_ne hF.1 hF.2.1 hd ht (fun h => kt h p e R s m args below meth cd H locs la hF hl hH hL) (fun h => kf h p e R s m args below meth cd H locs la hF hl hH hL)
theorem kz_icmp_ne {x y : Int32} {off : Int} {tgt : Nat} (ht : (pc : Int) + off = (tgt : Int)) (hd : decode μ.2.1 pc = .ok (.if_icmp .ne off, 3)) (kt : ¬ x = y → kz_Z G d mc ms μ Qr Qx tgt ls st M c sl) (kf : x = y → kz_Z G d mc ms μ Qr Qx (pc + 3) ls st M c sl) : kz_Z G d mc ms μ Qr Qx pc ls (.int y :: .int x :: st) M c sl := by
  intro p e R s m args below meth cd H locs la hF hl hH hL
  exact lv_icmp_ne hF.1 hF.2.1 hd ht (fun h => kt h p e R s m args below meth cd H locs la hF hl hH hL) (fun h => kf h p e R s m args below meth cd H locs la hF hl hH hL)
theorem kz_if_lt {x : Int32} {off : Int} {tgt : Nat} (ht : (pc : Int) + off = (tgt : Int)) (hd : decode μ.2.1 pc = .ok (.ifCond .lt off, 3)) (kt : x < 0 → kz_Z G d mc ms μ Qr Qx tgt ls st M c sl) (kf : ¬ x < 0 → kz_Z G d mc ms μ Qr Qx (pc + 3) ls st M c sl) : kz_Z G d mc ms μ Qr Qx pc ls (.int x :: st) M c sl := by
  intro p e R s m args below meth cd H locs la hF hl hH hL
  exact lv_if_lt hF.1 hF.2.1 hd ht (fun h => kt h p e R s m args below meth cd H locs la hF hl hH hL) (fun h => kf h p e R s m args below meth cd H locs la hF hl hH hL)
theorem kz_icmp_lt {x y : Int32} {off : Int} {tgt : Nat} (ht : (pc : Int) + off = (tgt : Int)) (hd : decode μ.2.1 pc = .ok (.if_icmp .lt off, 3)) (kt : x < y → kz_Z G d mc ms μ Qr Qx tgt ls st M c sl) (kf : ¬ x < y → kz_Z G d mc ms μ Qr Qx (pc + 3) ls st M c sl) : kz_Z G d mc ms μ Qr Qx pc ls (.int y :: .int x :: st) M c sl := by
  intro p e R s m args below meth cd H locs la hF hl hH hL
  exact lv_icmp_lt hF.1 hF.2.1 hd ht (fun h => kt h p e R s m args below meth cd H locs la hF hl hH hL) (fun h => kf h p e R s m args below meth cd H locs la hF hl hH hL)
theorem kz_if_ge {x : Int32} {off : Int} {tgt : Nat} (ht : (pc : Int) + off = (tgt : Int)) (hd : decode μ.2.1 pc = .ok (.ifCond .ge off, 3)) (kt : 0 ≤ x → kz_Z G d mc ms μ Qr Qx tgt ls st M c sl) (kf : ¬ 0 ≤ x → kz_Z G d mc ms μ Qr Qx (pc + 3) ls st M c sl) : kz_Z G d mc ms μ Qr Qx pc ls (.int x :: st) M c sl := by
  intro p e R s m args below meth cd H locs la hF hl hH hL
  exact lv_if_ge hF.1 hF.2.1 hd ht (fun h => kt h p e R s m args below meth cd H locs la hF hl hH hL) (fun h => kf h p e R s m args below meth cd H locs la hF hl hH hL)
theorem kz_icmp_ge {x y : Int32} {off : Int} {tgt : Nat} (ht : (pc : Int) + off = (tgt : Int)) (hd : decode μ.2.1 pc = .ok (.if_icmp .ge off, 3)) (kt : y ≤ x → kz_Z G d mc ms μ Qr Qx tgt ls st M c sl) (kf : ¬ y ≤ x → kz_Z G d mc ms μ Qr Qx (pc + 3) ls st M c sl) : kz_Z G d mc ms μ Qr Qx pc ls (.int y :: .int x :: st) M c sl := by
  intro p e R s m args below meth cd H locs la hF hl hH hL
  exact lv_icmp_ge hF.1 hF.2.1 hd ht (fun h => kt h p e R s m args below meth cd H locs la hF hl hH hL) (fun h => kf h p e R s m args below meth cd H locs la hF hl hH hL)
theorem kz_if_gt {x : Int32} {off : Int} {tgt : Nat} (ht : (pc : Int) + off = (tgt : Int)) (hd : decode μ.2.1 pc = .ok (.ifCond .gt off, 3)) (kt : 0 < x → kz_Z G d mc ms μ Qr Qx tgt ls st M c sl) (kf : ¬ 0 < x → kz_Z G d mc ms μ Qr Qx (pc + 3) ls st M c sl) : kz_Z G d mc ms μ Qr Qx pc ls (.int x :: st) M c sl := by
  intro p e R s m args below meth cd H locs la hF hl hH hL
  exact lv_if_gt hF.1 hF.2.1 hd ht (fun h => kt h p e R s m args below meth cd H locs la hF hl hH hL) (fun h => kf h p e R s m args below meth cd H locs la hF hl hH hL)
theorem kz_icmp_gt {x y : Int32} {off : Int} {tgt : Nat} (ht : (pc : Int) + off = (tgt : Int)) (hd : decode μ.2.1 pc = .ok (.if_icmp .gt off, 3)) (kt : y < x → kz_Z G d mc ms μ Qr Qx tgt ls st M c sl) (kf : ¬ y < x → kz_Z G d mc ms μ Qr Qx (pc + 3) ls st M c sl) : kz_Z G d mc ms μ Qr Qx pc ls (.int y :: .int x :: st) M c sl := by
  intro p e R s m args below meth cd H locs la hF hl hH hL
  exact lv_icmp_gt hF.1 hF.2.1 hd ht (fun h => kt h p e R s m args below meth cd H locs la hF hl hH hL) (fun h => kf h p e R s m args below meth cd H locs la hF hl hH hL)
theorem kz_if_le {x : Int32} {off : Int} {tgt : Nat} (ht : (pc : Int) + off = (tgt : Int)) (hd : decode μ.2.1 pc = .ok (.ifCond .le off, 3)) (kt : x ≤ 0 → kz_Z G d mc ms μ Qr Qx tgt ls st M c sl) (kf : ¬ x ≤ 0 → kz_Z G d mc ms μ Qr Qx (pc + 3) ls st M c sl) : kz_Z G d mc ms μ Qr Qx pc ls (.int x :: st) M c sl := by
  intro p e R s m args below meth cd H locs la hF hl hH hL
  exact lv_if_le hF.1 hF.2.1 hd ht (fun h => kt h p e R s m args below meth cd H locs la hF hl hH hL) (fun h => kf h p e R s m args below meth cd H locs la hF hl hH hL)
theorem kz_icmp_le {x y : Int32} {off : Int} {tgt : Nat} (ht : (pc : Int) + off = (tgt : Int)) (hd : decode μ.2.1 pc = .ok (.if_icmp .le off, 3)) (kt : x ≤ y → kz_Z G d mc ms μ Qr Qx tgt ls st M c sl) (kf : ¬ x ≤ y → kz_Z G d mc ms μ Qr Qx (pc + 3) ls st M c sl) : kz_Z G d mc ms μ Qr Qx pc ls (.int y :: .int x :: st) M c sl := by
  intro p e R s m args below meth cd H locs la hF hl hH hL
  exact lv_icmp_le hF.1 hF.2.1 hd ht (fun h => kt h p e R s m args below meth cd H locs la hF hl hH hL) (fun h => kf h p e R s m args below meth cd H locs la hF hl hH hL)
theorem kz_goto {off : Int} {tgt : Nat} (ht : (pc : Int) + off = (tgt : Int)) (hd : decode μ.2.1 pc = .ok (.goto off, 3)) (k : kz_Z G d mc ms μ Qr Qx tgt ls st M c sl) : kz_Z G d mc ms μ Qr Qx pc ls st M c sl := by
  intro p e R s m args below meth cd H locs la hF hl hH hL
  exact lv_goto hF.1 hF.2.1 hd ht (k p e R s m args below meth cd H locs la hF hl hH hL)
/-- a reference that is looked at: null, or not -/
theorem kz_ifnull {v : Value} {off : Int} {tgt : Nat} (hv : kz_isr v = true) (ht : (pc : Int) + off = (tgt : Int)) (hd : decode μ.2.1 pc = .ok (.ifnull off, 3)) (kt : v = .null → kz_Z G d mc ms μ Qr Qx tgt ls st M c sl) (kf : ¬ v = .null → kz_Z G d mc ms μ Qr Qx (pc + 3) ls st M c sl) : kz_Z G d mc ms μ Qr Qx pc ls (v :: st) M c sl := by
  intro p e R s m args below meth cd H locs la hF hl hH hL
  cases v with
  | ref a => exact lv_ifnull hF.1 hF.2.1 hd (kf (fun h => by cases h) p e R s m args below meth cd H locs la hF hl hH hL)
  | retAddr a => exact lv_ifnull hF.1 hF.2.1 hd (kf (fun h => by cases h) p e R s m args below meth cd H locs la hF hl hH hL)
  | null => exact lv_ifnullN hF.1 hF.2.1 hd ht (kt rfl p e R s m args below meth cd H locs la hF hl hH hL)
  | _ => cases hv
theorem kz_ifnonnull {v : Value} {off : Int} {tgt : Nat} (hv : kz_isr v = true) (ht : (pc : Int) + off = (tgt : Int)) (hd : decode μ.2.1 pc = .ok (.ifnonnull off, 3)) (kt : ¬ v = .null → kz_Z G d mc ms μ Qr Qx tgt ls st M c sl) (kf : v = .null → kz_Z G d mc ms μ Qr Qx (pc + 3) ls st M c sl) : kz_Z G d mc ms μ Qr Qx pc ls (v :: st) M c sl := by
  intro p e R s m args below meth cd H locs la hF hl hH hL
  cases v with
  | ref a => exact lv_ifnonnull hF.1 hF.2.1 hd ht (kt (fun h => by cases h) p e R s m args below meth cd H locs la hF hl hH hL)
  | retAddr a => exact lv_ifnonnull hF.1 hF.2.1 hd ht (kt (fun h => by cases h) p e R s m args below meth cd H locs la hF hl hH hL)
  | null => exact lv_ifnonnullN hF.1 hF.2.1 hd (kf rfl p e R s m args below meth cd H locs la hF hl hH hL)
  | _ => cases hv
theorem kz_tableOut {dflt lo hi : Int} {offs : Array Int} {len : Nat} {x : Int32} {tgt : Nat} (h : x.toInt < lo ∨ hi < x.toInt) (ht : (pc : Int) + dflt = (tgt : Int)) (hd : decode μ.2.1 pc = .ok (.tableswitch dflt lo hi offs, len)) (k : kz_Z G d mc ms μ Qr Qx tgt ls st M c sl) : kz_Z G d mc ms μ Qr Qx pc ls (.int x :: st) M c sl := by
  intro p e R s m args below meth cd H locs la hF hl hH hL
  exact lv_tableOut hF.1 hF.2.1 hd h ht (k p e R s m args below meth cd H locs la hF hl hH hL)
theorem kz_tableIn {dflt lo hi : Int} {offs : Array Int} {len : Nat} {x : Int32} {off : Int} {tgt : Nat} (h1 : ¬ x.toInt < lo) (h2 : ¬ hi < x.toInt) (ho : offs[(x.toInt - lo).toNat]? = some off) (ht : (pc : Int) + off = (tgt : Int)) (hd : decode μ.2.1 pc = .ok (.tableswitch dflt lo hi offs, len)) (k : kz_Z G d mc ms μ Qr Qx tgt ls st M c sl) : kz_Z G d mc ms μ Qr Qx pc ls (.int x :: st) M c sl := by
  intro p e R s m args below meth cd H locs la hF hl hH hL
  exact lv_tableIn hF.1 hF.2.1 hd h1 h2 ho ht (k p e R s m args below meth cd H locs la hF hl hH hL)
theorem kz_ldcI {index : Nat} {v : Int32} (hw : Cond.constant μ.1.cls index v ∈ lw_tbl) (hk : kz_ok (Cond.constant μ.1.cls index v) = true) (hd : decode μ.2.1 pc = .ok (.ldc index, 2)) (k : kz_Z G d mc ms μ Qr Qx (pc + 2) ls (.int v :: st) M c sl) : kz_Z G d mc ms μ Qr Qx pc ls st M c sl := by
  intro p e R s m args below meth cd H locs la hF hl hH hL
  exact lv_ldc hF.1 hF.2.1 hF.2.2.2.2.1 (hF.2.2.2.2.2.2.2.2.1.1 _ hw hk _) hd (k p e R s m args below meth cd H locs la hF hl hH hL)
theorem kz_ldcwI {index : Nat} {v : Int32} (hw : Cond.constant μ.1.cls index v ∈ lw_tbl) (hk : kz_ok (Cond.constant μ.1.cls index v) = true) (hd : decode μ.2.1 pc = .ok (.ldc_w index, 3)) (k : kz_Z G d mc ms μ Qr Qx (pc + 3) ls (.int v :: st) M c sl) : kz_Z G d mc ms μ Qr Qx pc ls st M c sl := by
  intro p e R s m args below meth cd H locs la hF hl hH hL
  exact lv_ldcw hF.1 hF.2.1 hF.2.2.2.2.1 (hF.2.2.2.2.2.2.2.2.1.1 _ hw hk _) hd (k p e R s m args below meth cd H locs la hF hl hH hL)
theorem kz_ldc2 {index : Nat} {v : Int64} (hw : Cond.constantLong μ.1.cls index v ∈ lw_tbl) (hk : kz_ok (Cond.constantLong μ.1.cls index v) = true) (hd : decode μ.2.1 pc = .ok (.ldc2_w index, 3)) (k : kz_Z G d mc ms μ Qr Qx (pc + 3) ls (.long v :: st) M c sl) : kz_Z G d mc ms μ Qr Qx pc ls st M c sl := by
  intro p e R s m args below meth cd H locs la hF hl hH hL
  exact lv_ldc2 hF.1 hF.2.1 hF.2.2.2.2.1 (hF.2.2.2.2.2.2.2.2.1.1 _ hw hk _) hd (k p e R s m args below meth cd H locs la hF hl hH hL)
end KZR
