/-! Part 07c: calls of what never throws (inherited, super, through an interface), casts, stores into rows of objects, copies of bytes -/
theorem kz_met {G : kz_G} {d mc ms : Nat} {μ : kz_Y} {as : List Value} {M : kz_M} {Qr : Option Value → kz_M → Prop} (h : kz_C G d mc ms μ as M Qr (fun _ _ => False)) : Met G.1 μ.1 [kz_code μ] (kz_rm d mc ms) (va_Pc (as.map (kz_v G)) (kz_B G M)) (kz_Qc G Qr) mc ms (fun q => G.2.2.1.heap.size ≤ q) := by
  intro p e a1 a2 a3 s m args below a4 a5 hP hK
  obtain ⟨k, o, b1, b2, b3, b4⟩ := h p e a1 a2 a3 s m args below a4 a5 hP hK
  refine ⟨k, o, b1, b2, b3, ?_⟩
  rcases b4 with h1 | ⟨q, e1, E, ce, L, ⟨M1, hf, -⟩, -⟩
  · exact h1
  · exact hf.elim
theorem kz_selP {s : State} {args : Array Value} {C : String} {y x0 : MethodName} (hy : y.cls ≠ "java/lang/invoke/MethodHandle" ∧ y.cls ≠ "java/lang/invoke/VarHandle") (h0 : (Cond.selects C x0 x0).before args s = true) (hx : x0.cls = y.cls) (hpriv : (Cond.privateMethod y).before args s = true) (hinst : (Cond.instanceMethod y).before args s = true) : (Cond.selects C y y).before args s = true := by
  obtain ⟨c, r, m, q1, q2, q3, q4, kP, hkP, hkPi⟩ := Cond.selects_spec h0
  obtain ⟨mk, methM, hnamed, hmethM, -, -⟩ := Cond.instanceMethod_spec hinst
  have hfound : s.methodFound? y.cls y.name y.desc = some mk := State.methodFound?_of_named hnamed hy
  have hsel : selectMethod {} s.vm c mk = .method mk := selectMethod_private hmethM (Cond.privateMethod_at hpriv mk methM hnamed hmethM)
  have hcls : mk.cls = m.cls := by
    have h1 := findClass_of_methodNamed hnamed
    have h2 := findClass_of_methodNamed q3
    rw [hx] at h2
    exact Option.some.inj (h1.symm.trans h2)
  simp only [Cond.before, Cond.holds, Cond.value, q1, hfound, hnamed, hsel, hcls, hkP]
  simp
  exact hkPi
section KZ7
variable {G : kz_G} {d mc ms : Nat} {μ : kz_Y} {Qr : Option Value → kz_M → Prop} {Qx : String → kz_M → Prop} {pc : Nat} {ls : List (Nat × Value)} {st : List Value} {M : kz_M} {c sl : Nat}
theorem kz_cell {s : State} {H : Heap} {b ci : Nat} {q : vw_C} {fs : List Value} (hK : kz_K G s) (hH : kz_H G M H) (he : M.1 b = some (.inl (ci, fs))) (hc : vwCl[ci]? = some q) : ∃ cell : Cell, H[kz_ad G b]? = some cell ∧ cell.vm.isStatics = false ∧ s.vm.findClass q.1 = some cell.cls := by
  obtain ⟨r, h1, cell, q1, q2, q3, q4⟩ := (hH.2.2.1 b _ he).2
  have hr : r = q := Option.some.inj (h1.symm.trans hc)
  subst hr
  refine ⟨cell, q1, by rw [q3]; rfl, ?_⟩
  rw [q2]
  exact (hK.2.1.1 ci r hc).2.1
/-- a method that another class inherits, or a private one of a class that isn't the receiver's -/
theorem kz_callVC {μ' : kz_Y} {n d' mc' ms' index : Nat} {As : List Value} (hm : kz_m μ' n) (hh : μ'.2.2.2.2 = []) (him : Cond.instanceMethod μ'.1 ∈ lw_tbl) {ci b : Nat} {q : vw_C} (hsel : ∀ (s : State) (args : Array Value), kz_K G s → (Cond.selects q.1 μ'.1 μ'.1).before args s = true) (hlink : Cond.methodLink μ.1.cls index μ'.1 ∈ lw_tbl) (hdd : d' + 1 ≤ d) (hn : As.length = n) (hst : (st.map fun v => v.category).sum ≤ 8) {fs : List Value} (he : M.1 b = some (.inl (ci, fs))) (hc : vwCl[ci]? = some q) (hc1 : c + mc' ≤ mc) (hs1 : sl + ms' ≤ ms) (hd : decode μ.2.1 pc = .ok (.invokevirtual index, 3)) {Qx' : String → kz_M → Prop} (kx : ∀ E M1, Qx' E M1 → kz_T G d mc ms μ Qr Qx pc ls st E M1 (c + mc') (sl + ms')) (k : kz_C G d' mc' ms' μ' (.ref b :: As) M (fun v M1 => kz_Z G d mc ms μ Qr Qx (pc + 3) ls (v.toList ++ st) M1 (c + mc') (sl + ms')) Qx') : kz_Z G d mc ms μ Qr Qx pc ls (As.reverse ++ .ref b :: st) M c sl := by
  intro p e R s m args below meth cd H locs la hF hl hH hL
  have hF0 := hF
  obtain ⟨hx, hb, -, hml, hown, -, -, -, hK, -, hR⟩ := hF
  have hR2 := hR
  subst hR
  refine kz_run (a := (.ref b :: As).map (kz_v G) |>.toArray) hF0 hl hL ?_ kx
  refine vx_runV (Ts := []) (own := μ.1.cls) (C := q.1) (b := kz_ad G b) (As := As.map (kz_v G)) (n := n) (bytes := μ'.2.1) (maxL := μ'.2.2.1) (ret := μ'.2.2.2.1) ⟨hx, hb, hml, hown, fun w hw => by cases hw⟩ k ⟨⟨rfl, rfl, hdd, (kz_mono37 hdd hm.2.2.2.2.1).2, kz_ws hK hm.1, (by rw [kz_code0 hh]; exact List.mem_cons_self), (by have h9 := hK.1 _ hm.1 (kz_codeOk μ') args; rw [kz_code0 hh] at h9; exact h9), hK.1 _ hm.2.1 rfl args, hm.2.2.1, kz_par hm.2.2.2.1, hK.1 _ hlink rfl args⟩, ⟨hK.1 _ him rfl args, hsel s args hK⟩⟩ ⟨kz_blind G M _, kz_cell hK hH he hc, kz_pre hK hH⟩ rfl (by rw [List.length_map]; exact hn) hl.1 (by show List.map (kz_v G) (As.reverse ++ .ref b :: st) = _; rw [List.map_append, List.map_reverse]; rfl) (by show 2 * 0 + _ ≤ _; rw [kz_cat0]; omega) hd ⟨hc1, hs1⟩
/-- out of the kit's run of a call that only returns -/
theorem kz_runA {p : Program} {e : Env} {R : Room} {s : State} {m : MethodId} {args : Array Value} {below : List Frame} {meth : Method} {cd : Code} {H : Heap} {locs : List Loc} {la : Array Slot} {mc' ms' : Nat} {st0 : List Value} {a : Array Value}
    (hF : kz_F G d mc ms μ p R s m meth cd) (hl : lv_has la μ.2.2.1 (ls.map fun q => (q.1, kz_v G q.2))) (hL : ∀ q ∈ locs, G.2.2.1.heap.size ≤ q.base)
    (hr : va_Run p G.1 e R s m args below meth cd H locs c sl mc' ms' (F0 m pc la st0) (st.map (kz_v G)) (kz_Qc G (fun v M1 => kz_Z G d mc ms μ Qr Qx (pc + 3) ls (v.toList ++ st) M1 (c + mc') (sl + ms')) a) (fun q => G.2.2.1.heap.size ≤ q)) :
    W p G.1 e R s m args below meth cd H locs c sl (vx_MQ below (kz_Qc G Qr) (kz_Xc G Qx) args s mc ms (fun q => G.2.2.1.heap.size ≤ q)) (F0 m pc la st0) := by
  intro T hT X
  obtain ⟨v, st₀, t, T', L, h0, X', hL', e1, e2, ⟨v2, M1, hv, hp, hH1⟩, stp⟩ := hr T hT X
  cases hv
  rw [kz_opt] at stp
  obtain ⟨t2, a1, b1⟩ := hp p e R s m args below meth cd T'.heap (locs ++ L) la hF hl (by rw [e1]; exact hH1) (fun q hq => (List.mem_append.mp hq).elim (hL q) (hL' q)) T' rfl X'
  exact ⟨t2, stp t2 a1, b1⟩
theorem kz_runA5 {p : Program} {e : Env} {R : Room} {s : State} {m : MethodId} {args : Array Value} {below : List Frame} {meth : Method} {cd : Code} {H : Heap} {locs : List Loc} {la : Array Slot} {mc' ms' : Nat} {st0 : List Value} {a : Array Value}
    (hF : kz_F G d mc ms μ p R s m meth cd) (hl : lv_has la μ.2.2.1 (ls.map fun q => (q.1, kz_v G q.2))) (hL : ∀ q ∈ locs, G.2.2.1.heap.size ≤ q.base)
    (hr : va_Run5 p G.1 e R s m args below meth cd H locs c sl mc' ms' (F0 m pc la st0) (st.map (kz_v G)) (kz_Qc G (fun v M1 => kz_Z G d mc ms μ Qr Qx (pc + 5) ls (v.toList ++ st) M1 (c + mc') (sl + ms')) a) (fun q => G.2.2.1.heap.size ≤ q)) :
    W p G.1 e R s m args below meth cd H locs c sl (vx_MQ below (kz_Qc G Qr) (kz_Xc G Qx) args s mc ms (fun q => G.2.2.1.heap.size ≤ q)) (F0 m pc la st0) := by
  intro T hT X
  obtain ⟨v, st₀, t, T', L, h0, X', hL', e1, e2, ⟨v2, M1, hv, hp, hH1⟩, stp⟩ := hr T hT X
  cases hv
  rw [kz_opt] at stp
  obtain ⟨t2, a1, b1⟩ := hp p e R s m args below meth cd T'.heap (locs ++ L) la hF hl (by rw [e1]; exact hH1) (fun q hq => (List.mem_append.mp hq).elim (hL q) (hL' q)) T' rfl X'
  exact ⟨t2, stp t2 a1, b1⟩
/-- an inherited or overriding method: x is named, the receiver's class selects another -/
theorem kz_callU {μ' : kz_Y} {x : MethodName} {b0 : ByteArray} {m0 : Nat} {r0 : Option FieldType} {n d' mc' ms' index : Nat} {As : List Value} (hm : kz_m μ' n) (hh : μ'.2.2.2.2 = []) (him : Cond.instanceMethod μ'.1 ∈ lw_tbl) (hx1 : Cond.instanceMethod x ∈ lw_tbl) (hx2 : Cond.code x b0 m0 r0 ∈ lw_tbl) (hsame : Cond.sameMethod x.cls x.cls x.name x.desc ∈ lw_tbl) (hxc : x.cls ≠ "java/lang/invoke/MethodHandle" ∧ x.cls ≠ "java/lang/invoke/VarHandle") (hxp : (parseMethodDescriptor x.desc).map (fun d => d.parameters.length) = some n) {ci b : Nat} {q : vw_C} (hsel : Cond.selects q.1 x μ'.1 ∈ lw_tbl) (hlink : Cond.methodLink μ.1.cls index x ∈ lw_tbl) (hdd : d' + 1 ≤ d) (hn : As.length = n) (hst : (st.map fun v => v.category).sum ≤ 8) {fs : List Value} (he : M.1 b = some (.inl (ci, fs))) (hc : vwCl[ci]? = some q) (hc1 : c + mc' ≤ mc) (hs1 : sl + ms' ≤ ms) (hd : decode μ.2.1 pc = .ok (.invokevirtual index, 3)) (k : kz_C G d' mc' ms' μ' (.ref b :: As) M (fun v M1 => kz_Z G d mc ms μ Qr Qx (pc + 3) ls (v.toList ++ st) M1 (c + mc') (sl + ms')) (fun _ _ => False)) : kz_Z G d mc ms μ Qr Qx pc ls (As.reverse ++ .ref b :: st) M c sl := by
  intro p e R s m args below meth cd H locs la hF hl hH hL
  have hF0 := hF
  obtain ⟨hx, hb, -, hml, hown, -, -, -, hK, -, hR⟩ := hF
  have hR2 := hR
  subst hR
  refine kz_runA (mc' := mc') (ms' := ms') (st := st) (a := (.ref b :: As).map (kz_v G) |>.toArray) hF0 hl hL ?_
  refine va_runU (Ts := []) (own := μ.1.cls) (C := q.1) (owner := x.cls) (x := x) (b := kz_ad G b) (As := As.map (kz_v G)) (n := n) (bytes := μ'.2.1) (maxL := μ'.2.2.1) (ret := μ'.2.2.2.1) ⟨hx, hb, hml, hown, fun w hw => by cases hw⟩ (kz_met k) ⟨⟨rfl, rfl, hdd, (kz_mono37 hdd hm.2.2.2.2.1).2, kz_ws hK hm.1, (by rw [kz_code0 hh]; exact List.mem_cons_self)⟩, (by have h9 := hK.1 _ hm.1 (kz_codeOk μ') args; rw [kz_code0 hh] at h9; exact h9), hK.1 _ hm.2.1 rfl args, hxc, kz_par hxp, hK.1 _ hlink rfl args, hK.1 _ hsame rfl args, va_Decl.of (hK.1 _ hx1 rfl args) (hK.1 _ hx2 rfl args), hK.1 _ hsel rfl args, hK.1 _ him rfl args⟩ ⟨kz_blind G M _, kz_cell hK hH he hc, kz_pre hK hH⟩ rfl (by rw [List.length_map]; exact hn) hl.1 (by show List.map (kz_v G) (As.reverse ++ .ref b :: st) = _; rw [List.map_append, List.map_reverse]; rfl) (by show 2 * 0 + _ ≤ _; rw [kz_cat0]; omega) hd ⟨hc1, hs1⟩
/-- super.m(..) -/
theorem kz_callSU {μ' : kz_Y} {n d' mc' ms' index : Nat} {As : List Value} (hm : kz_m μ' n) (hh : μ'.2.2.2.2 = []) (him : Cond.instanceMethod μ'.1 ∈ lw_tbl) (hsame : Cond.sameMethod μ'.1.cls μ'.1.cls μ'.1.name μ'.1.desc ∈ lw_tbl) (hsup : Cond.superclass μ.1.cls μ'.1.cls ∈ lw_tbl) (hsok : kz_ok (Cond.superclass μ.1.cls μ'.1.cls) = true) (hno : μ'.1.name ≠ "<init>") {ci b : Nat} {q : vw_C} (hlink : Cond.methodLink μ.1.cls index μ'.1 ∈ lw_tbl) (hdd : d' + 1 ≤ d) (hn : As.length = n) (hst : (st.map fun v => v.category).sum ≤ 8) {fs : List Value} (he : M.1 b = some (.inl (ci, fs))) (hc : vwCl[ci]? = some q) (hc1 : c + mc' ≤ mc) (hs1 : sl + ms' ≤ ms) (hd : decode μ.2.1 pc = .ok (.invokespecial index, 3)) (k : kz_C G d' mc' ms' μ' (.ref b :: As) M (fun v M1 => kz_Z G d mc ms μ Qr Qx (pc + 3) ls (v.toList ++ st) M1 (c + mc') (sl + ms')) (fun _ _ => False)) : kz_Z G d mc ms μ Qr Qx pc ls (As.reverse ++ .ref b :: st) M c sl := by
  intro p e R s m args below meth cd H locs la hF hl hH hL
  have hF0 := hF
  obtain ⟨hx, hb, -, hml, hown, -, -, -, hK, -, hR⟩ := hF
  have hR2 := hR
  subst hR
  refine kz_runA (mc' := mc') (ms' := ms') (st := st) (a := (.ref b :: As).map (kz_v G) |>.toArray) hF0 hl hL ?_
  refine va_runSU (C := q.1) (hK.2.1.1 ci q hc).2 (Ts := []) (own := μ.1.cls) (b := kz_ad G b) (As := As.map (kz_v G)) (n := n) (bytes := μ'.2.1) (maxL := μ'.2.2.1) (ret := μ'.2.2.2.1) ⟨hx, hb, hml, hown, fun w hw => by cases hw⟩ (kz_met k) ⟨⟨rfl, rfl, hdd, (kz_mono37 hdd hm.2.2.2.2.1).2, kz_ws hK hm.1, (by rw [kz_code0 hh]; exact List.mem_cons_self)⟩, hK.1 _ hlink rfl args, hK.1 _ hsame rfl args, hK.1 _ hsup hsok args, hK.1 _ him rfl args, hK.1 _ hm.2.1 rfl args, (by have h9 := hK.1 _ hm.1 (kz_codeOk μ') args; rw [kz_code0 hh] at h9; exact h9), hno, kz_par hm.2.2.2.1⟩ ⟨kz_blind G M _, kz_cell hK hH he hc, kz_pre hK hH⟩ rfl (by rw [List.length_map]; exact hn) hl.1 (by show List.map (kz_v G) (As.reverse ++ .ref b :: st) = _; rw [List.map_append, List.map_reverse]; rfl) (by show 2 * 0 + _ ≤ _; rw [kz_cat0]; omega) hd ⟨hc1, hs1⟩
/-- a call through an interface -/
theorem kz_callF {μ' : kz_Y} {x : MethodName} {n d' mc' ms' index count : Nat} {As : List Value} (hm : kz_m μ' n) (hh : μ'.2.2.2.2 = []) (him : Cond.instanceMethod μ'.1 ∈ lw_tbl) {ci b : Nat} {q : vw_C} (hf : (q.1, x, μ'.1) ∈ kz_faces) (hxp : (parseMethodDescriptor x.desc).map (fun d => d.parameters.length) = some n) (hsel : Cond.selects q.1 x μ'.1 ∈ lw_tbl) (hlink : Cond.methodLink μ.1.cls index x ∈ lw_tbl) (hdd : d' + 1 ≤ d) (hn : As.length = n) (hst : (st.map fun v => v.category).sum ≤ 8) {fs : List Value} (he : M.1 b = some (.inl (ci, fs))) (hc : vwCl[ci]? = some q) (hc1 : c + mc' ≤ mc) (hs1 : sl + ms' ≤ ms) (hd : decode μ.2.1 pc = .ok (.invokeinterface index count, 5)) (k : kz_C G d' mc' ms' μ' (.ref b :: As) M (fun v M1 => kz_Z G d mc ms μ Qr Qx (pc + 5) ls (v.toList ++ st) M1 (c + mc') (sl + ms')) (fun _ _ => False)) : kz_Z G d mc ms μ Qr Qx pc ls (As.reverse ++ .ref b :: st) M c sl := by
  intro p e R s m args below meth cd H locs la hF hl hH hL
  have hF0 := hF
  obtain ⟨hx, hb, -, hml, hown, -, -, -, hK, -, hR⟩ := hF
  have hR2 := hR
  subst hR
  have hW := hK.2.2.1.1.2.1 _ hf
  refine kz_runA5 (mc' := mc') (ms' := ms') (st := st) (a := (.ref b :: As).map (kz_v G) |>.toArray) hF0 hl hL ?_
  refine va_runF (C := q.1) (x := x) (hK.2.1.1 ci q hc).2 (Ts := []) (own := μ.1.cls) (b := kz_ad G b) (As := As.map (kz_v G)) (n := n) (bytes := μ'.2.1) (maxL := μ'.2.2.1) (ret := μ'.2.2.2.1) ⟨hx, hb, hml, hown, fun w hw => by cases hw⟩ (kz_met k) ⟨⟨rfl, rfl, hdd, (kz_mono37 hdd hm.2.2.2.2.1).2, kz_ws hK hm.1, (by rw [kz_code0 hh]; exact List.mem_cons_self)⟩, hK.1 _ hlink rfl args, va_any rfl hW.1, va_any rfl hW.2.1, hK.1 _ hsel rfl args, hK.1 _ him rfl args, va_any rfl hW.2.2.1, va_any rfl hW.2.2.2.1, va_any rfl hW.2.2.2.2, hK.1 _ hm.2.1 rfl args, (by have h9 := hK.1 _ hm.1 (kz_codeOk μ') args; rw [kz_code0 hh] at h9; exact h9), kz_facesOk _ hf, kz_par hxp⟩ ⟨kz_blind G M _, kz_cell hK hH he hc, kz_pre hK hH⟩ rfl (by rw [List.length_map]; exact hn) hl.1 (by show List.map (kz_v G) (As.reverse ++ .ref b :: st) = _; rw [List.map_append, List.map_reverse]; rfl) (by show 2 * 0 + _ ≤ _; rw [kz_cat0]; omega) hd ⟨hc1, hs1⟩
/-- a cast to the object's own class -/
theorem kz_castS {a ci index : Nat} {q : vw_C} {fs : List Value} (hc : vwCl[ci]? = some q) (hw : Cond.classLink μ.1.cls index q.1 ∈ lw_tbl) (he : M.1 a = some (.inl (ci, fs))) (hd : decode μ.2.1 pc = .ok (.checkcast index, 3)) (kk : kz_Z G d mc ms μ Qr Qx (pc + 3) ls (.ref a :: st) M c sl) : kz_Z G d mc ms μ Qr Qx pc ls (.ref a :: st) M c sl := by
  intro p e R s m args below meth cd H locs la hF hl hH hL
  have kk := kk p e R s m args below meth cd H locs la hF hl hH hL
  obtain ⟨hx, hb, -, -, hown, -, -, -, hK, -⟩ := hF
  exact va_castS hx hb hown (hK.1 _ hw rfl args) (hK.2.1.1 ci q hc).2 (kz_cell hK hH he hc) hd kk
/-- a store into a row of objects of a class above the object's -/
theorem kz_aastO {a b n ci : Nat} {E : String} {r : vw_C} {vs : List Value} {f : Nat → Option Nat} {i : Int32} (hc : vwCl[ci]? = some r) (hca : Cond.castable r.1 E ∈ lw_tbl) (he : M.1 a = some (.inr (.object E, n, .inr (.inr (.inr (.inr f)))))) (hv : M.1 b = some (.inl (ci, vs))) (hin : vp_in i n) (hd : decode μ.2.1 pc = .ok (.aastore, 1)) (kk : kz_Z G d mc ms μ Qr Qx (pc + 1) ls st (kz_up M a (.inr (.object E, n, .inr (.inr (.inr (.inr (va_up f i.toNatClampNeg (some b)))))))) c sl) : kz_Z G d mc ms μ Qr Qx pc ls (.ref b :: .int i :: .ref a :: st) M c sl := by
  intro p e R s m args below meth cd H locs la hF hl hH hL
  have hF0 := hF
  obtain ⟨hx, hb, -, -, hown, -, -, -, hK, -⟩ := hF
  obtain ⟨cA, g1, g2, g3⟩ := (hH.2.2.1 a _ he).2
  obtain ⟨r', hr', cellV, f1, f2, f3, -⟩ := (hH.2.2.1 b _ hv).2
  have hrr : r' = r := Option.some.inj (hr'.symm.trans hc)
  subst hrr
  have hlt : i.toNatClampNeg < n := Nat.not_le.mp fun q => hin (Or.inr q)
  have h0 : ¬ i < 0 := fun q => hin (Or.inl q)
  have hcls := (hK.2.1.1 ci r' hc).2
  obtain ⟨kA, comp, k1, k2, k3, -⟩ := ((kz_arrK hK g2 g3).2 0 _ rfl).2
  obtain ⟨kE, hkE, -⟩ := Vm.findClass_spec k3
  obtain ⟨c0, t1, w1, w2, w3⟩ := Cond.castable_spec (hK.1 _ hca rfl args)
  cases hcls.1.symm.trans w1
  cases k3.symm.trans w2
  obtain ⟨kC, hkC, -⟩ := hcls.2
  refine W.aast hx hb g1 (fun q h => by cases h) (fun h => by cases h) k1 k2 rfl hkE ⟨h0, by show _ < (arrV _ _ _).slots.size; rw [arrV_size]; exact hlt⟩ f1 (fun q h => by rw [f3] at h; cases h) (by rw [f2]; exact hkC) (by rw [f2]; exact w3) rfl rfl hd fun H1 e1 z oq => ?_
  refine kk p e R s m args below meth cd H1 _ la hF0 hl (hH.put he ?_ z oq) (fun x hx => ?_)
  · refine ⟨cA, ?_, g2, g3⟩
    show H1[_]? = some (vp_cell cA (n, _))
    rw [e1]
    show some (Cell.setSlot (vp_cell cA (n, .inr (.inr (.inr (.inr (fun j => (f j).map (kz_ad G))))))) _ _) = _
    show _ = some (vp_cell cA (n, .inr (.inr (.inr (.inr (fun j => (va_up f i.toNatClampNeg (some b) j).map (kz_ad G)))))))
    rw [vp_cell_q, vp_cell_q, arrV_store]
    congr 2
    funext q
    by_cases hq : q = i.toNatClampNeg
    · subst hq
      simp [updV, va_up, va_rf]
    · simp [updV, va_up, hq]
  · rcases List.mem_append.mp hx with h | h
    · exact hL x h
    · rw [List.mem_singleton.mp h]
      exact Nat.le_add_right _ _
/-- the class constant of rows of objects -/
theorem kz_ldcM {index : Nat} (hw : Cond.classLink μ.1.cls index "[Ljava/lang/Object;" ∈ lw_tbl) (hd : decode μ.2.1 pc = .ok (.ldc index, 2)) (kk : kz_Z G d mc ms μ Qr Qx (pc + 2) ls (.retAddr 3001 :: st) M c sl) : kz_Z G d mc ms μ Qr Qx pc ls st M c sl := by
  intro p e R s m args below meth cd H locs la hF hl hH hL
  have kk := kk p e R s m args below meth cd H locs la hF hl hH hL
  obtain ⟨hx, hb, -, -, hown, -, -, -, hK, -⟩ := hF
  exact va_ldcM hx hb hown (hK.1 _ hw rfl args) hK.2.2.1.1.2.2 hd kk
abbrev kz_gcN : MethodName := ⟨"java/lang/Object", "getClass", "()Ljava/lang/Class;"⟩
/-- getClass() of a row of objects -/
theorem kz_getC {a index n : Nat} {f : Nat → Option Nat} (h1 : Cond.methodLink μ.1.cls index kz_gcN ∈ lw_tbl) (h2 : Cond.declares kz_gcN ∈ lw_tbl) (h3 : Cond.selects "[Ljava/lang/Object;" kz_gcN kz_gcN ∈ lw_tbl) (h4 : Cond.instanceMethod kz_gcN ∈ lw_tbl) (h5 : Cond.native kz_gcN ∈ lw_tbl) (he : M.1 a = some (.inr (.object "java/lang/Object", n, .inr (.inr (.inr (.inr f)))))) (hdd : 1 ≤ d) (hst : (st.map fun v => v.category).sum ≤ 8) (hd : decode μ.2.1 pc = .ok (.invokevirtual index, 3)) (kk : kz_Z G d mc ms μ Qr Qx (pc + 3) ls (.retAddr 3001 :: st) M c sl) : kz_Z G d mc ms μ Qr Qx pc ls (.ref a :: st) M c sl := by
  intro p e R s m args below meth cd H locs la hF hl hH hL
  have kk := kk p e R s m args below meth cd H locs la hF hl hH hL
  obtain ⟨hx, hb, -, hml, hown, -, -, -, hK, -, hR⟩ := hF
  subst hR
  obtain ⟨cA, g1, g2, g3⟩ := (hH.2.2.1 a _ he).2
  refine va_getC hx hb (hml.trans hl.1.symm) hown (hK.1 _ h1 rfl args) (hK.1 _ h2 rfl args) (hK.1 _ h3 rfl args) (hK.1 _ h4 rfl args) (hK.1 _ h5 rfl args) hK.2.2.1.1.2.2 ⟨_, g1, rfl, ?_⟩ hdd (by rw [kz_cat0]; show _ + 14 ≤ 37 * d; omega) hd kk
  have := kz_RAcls (g3.moved hK.2.2.2)
  exact this
/-- one and the same reference on both sides -/
theorem kz_acmp_eqT {v : Value} {off : Int} {tgt : Nat} (hv : kz_isr v = true) (ht : (pc : Int) + off = (tgt : Int)) (hd : decode μ.2.1 pc = .ok (.if_acmp .eq off, 3)) (kk : kz_Z G d mc ms μ Qr Qx tgt ls st M c sl) : kz_Z G d mc ms μ Qr Qx pc ls (v :: v :: st) M c sl := by
  intro p e R s m args below meth cd H locs la hF hl hH hL
  have kk := kk p e R s m args below meth cd H locs la hF hl hH hL
  obtain ⟨hx, hb, -⟩ := hF
  cases v with
  | ref a => exact lv_acmp_eq (rx := some _) (ry := some _) hx hb hd ht (fun _ => kk) (fun h => absurd rfl h)
  | retAddr a => exact lv_acmp_eq (rx := some _) (ry := some _) hx hb hd ht (fun _ => kk) (fun h => absurd rfl h)
  | null => exact lv_acmp_eq (rx := none) (ry := none) hx hb hd ht (fun _ => kk) (fun h => absurd rfl h)
  | _ => cases hv
theorem kz_acmp_neT {v : Value} {off : Int} {tgt : Nat} (hv : kz_isr v = true) (ht : (pc : Int) + off = (tgt : Int)) (hd : decode μ.2.1 pc = .ok (.if_acmp .ne off, 3)) (kk : kz_Z G d mc ms μ Qr Qx (pc + 3) ls st M c sl) : kz_Z G d mc ms μ Qr Qx pc ls (v :: v :: st) M c sl := by
  intro p e R s m args below meth cd H locs la hF hl hH hL
  have kk := kk p e R s m args below meth cd H locs la hF hl hH hL
  obtain ⟨hx, hb, -⟩ := hF
  cases v with
  | ref a => exact lv_acmp_ne (rx := some _) (ry := some _) hx hb hd ht (fun h => absurd rfl h) (fun _ => kk)
  | retAddr a => exact lv_acmp_ne (rx := some _) (ry := some _) hx hb hd ht (fun h => absurd rfl h) (fun _ => kk)
  | null => exact lv_acmp_ne (rx := none) (ry := none) hx hb hd ht (fun h => absurd rfl h) (fun _ => kk)
  | _ => cases hv
theorem kz_dup_x1 {v w : Value} (hv : v.category = 1) (hw : w.category = 1) (hd : decode μ.2.1 pc = .ok (.dup_x1, 1)) (k : kz_Z G d mc ms μ Qr Qx (pc + 1) ls (v :: w :: v :: st) M c sl) : kz_Z G d mc ms μ Qr Qx pc ls (v :: w :: st) M c sl := by
  intro p e R s m args below meth cd H locs la hF hl hH hL
  exact lv_dup_x1 hF.1 hF.2.1 hd ((kz_cat G v).trans hv) ((kz_cat G w).trans hw) (k p e R s m args below meth cd H locs la hF hl hH hL)
theorem kz_iushr {x y : Int32} (hd : decode μ.2.1 pc = .ok (.iushr, 1)) (k : kz_Z G d mc ms μ Qr Qx (pc + 1) ls (.int (x.toUInt32 >>> (y.toUInt32 &&& Int32.toUInt32 31)).toInt32 :: st) M c sl) : kz_Z G d mc ms μ Qr Qx pc ls (.int y :: .int x :: st) M c sl := by
  intro p e R s m args below meth cd H locs la hF hl hH hL
  exact lv_iushr hF.1 hF.2.1 hd rfl (k p e R s m args below meth cd H locs la hF hl hH hL)
theorem kz_i2c {x : Int32} (hd : decode μ.2.1 pc = .ok (.i2c, 1)) (k : kz_Z G d mc ms μ Qr Qx (pc + 1) ls (.int (x.toUInt32 % 65536).toInt32 :: st) M c sl) : kz_Z G d mc ms μ Qr Qx pc ls (.int x :: st) M c sl := by
  intro p e R s m args below meth cd H locs la hF hl hH hL
  exact lv_i2c hF.1 hF.2.1 hd rfl (k p e R s m args below meth cd H locs la hF hl hH hL)
/-- a row's element that is read, and whatever it is -/
theorem kz_copyb {index a b n0 n1 : Nat} {f g : Nat → Int32} {sp dp n : Int32} (hw : kz_cpW μ index) (ha : M.1 a = some (.inr (.byte, n0, .inl f))) (hb : M.1 b = some (.inr (.byte, n1, .inl g))) (hfit : ∀ i, i < n0 → fits .byte (.int (f i)) = true) (h1 : ¬ sp < 0) (h2 : ¬ dp < 0) (h3 : ¬ n < 0) (h4 : sp.toNatClampNeg + n.toNatClampNeg ≤ n0) (h5 : dp.toNatClampNeg + n.toNatClampNeg ≤ n1) (hdd : 1 ≤ d) (hst : (st.map fun v => v.category).sum ≤ 8) (hd : decode μ.2.1 pc = .ok (.invokestatic index, 3)) (kk : kz_Z G d mc ms μ Qr Qx (pc + 3) ls st (kz_up M b (.inr (.byte, n1, .inl (va_cpy f g sp.toNatClampNeg dp.toNatClampNeg n.toNatClampNeg)))) c sl) : kz_Z G d mc ms μ Qr Qx pc ls (.int n :: .int dp :: .ref b :: .int sp :: .ref a :: st) M c sl := by
  intro p e R s m args below meth cd H locs la hF0 hl hH hL
  obtain ⟨c0, g1, g2, g3⟩ := (hH.2.2.1 a _ ha).2
  obtain ⟨c1, f1, f2, f3⟩ := (hH.2.2.1 b _ hb).2
  have u1 : va_RA G.2.2.1 c0 .byte := g3
  have u2 : va_RA G.2.2.1 c1 .byte := f3
  have ec : c0 = c1 := Option.some.inj (Eq.trans (Eq.symm u1) u2)
  subst ec
  refine kz_copyV (G := G) (x0 := (n0, .inl f)) (V0 := fun j => .int (f j)) (V1 := fun j => .int (g j)) (F := .inr (.byte, n1, .inl (va_cpy f g sp.toNatClampNeg dp.toNatClampNeg n.toNatClampNeg))) hw (fun H9 hH9 => ?_) (fun H9 hH9 => ?_) g2 g2 h1 h2 h3 h4 h5 (fun s T vm' cm k _ _ _ _ _ i hi => ⟨hfit _ (by omega), trivial⟩) hb (fun H1 h9 => ⟨c0, ?_, g2, g3⟩) hdd hst hd kk p e R s m args below meth cd H locs la hF0 hl hH hL
  · obtain ⟨c9, q1, -, q3⟩ := (hH9.2.2.1 a _ ha).2
    have u3 : va_RA G.2.2.1 c9 .byte := q3
    have : c9 = c0 := Option.some.inj (Eq.trans (Eq.symm u3) u1)
    subst this
    exact q1
  · obtain ⟨c9, q1, -, q3⟩ := (hH9.2.2.1 b _ hb).2
    have u3 : va_RA G.2.2.1 c9 .byte := q3
    have : c9 = c0 := Option.some.inj (Eq.trans (Eq.symm u3) u1)
    subst this
    exact q1
  · refine h9.trans (congrArg some (congrArg (arrV c0 n1) (funext fun j => ?_) : arrV c0 n1 _ = arrV c0 n1 (fun j => .int (va_cpy f g sp.toNatClampNeg dp.toNatClampNeg n.toNatClampNeg j))))
    simp only [va_cpy]
    split <;> rfl
end KZ7
