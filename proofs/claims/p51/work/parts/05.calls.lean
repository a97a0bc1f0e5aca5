/-! Part 05: a method's entry, and calls -/
theorem kz_blind (G : kz_G) (M : kz_M) (as : List Value) : FrameBlind (va_Pc as (kz_B G M)) := fun _ U _ _ h => ⟨h.1, h.2.1, kz_K.moved (s := U) (State.WarmedH.refl U) h.2.2⟩
/-- what a method is, by the tables: its code's word, its class; how it is called -/
def kz_m (μ : kz_Y) (n : Nat) : Prop := kz_code μ ∈ lw_tbl ∧ Cond.initialized μ.1.cls ∈ lw_tbl ∧ (μ.1.cls ≠ "java/lang/invoke/MethodHandle" ∧ μ.1.cls ≠ "java/lang/invoke/VarHandle") ∧ (parseMethodDescriptor μ.1.desc).map (fun d => d.parameters.length) = some n ∧ μ.2.2.1 ≤ 18 ∧ plainName μ.1.cls = true
def kz_mV (μ : kz_Y) (n : Nat) : Prop := kz_m μ n ∧ μ.2.2.2.2 = [] ∧ Cond.instanceMethod μ.1 ∈ lw_tbl ∧ Cond.selects μ.1.cls μ.1 μ.1 ∈ lw_tbl
def kz_mS (μ : kz_Y) (n : Nat) : Prop := kz_m μ n ∧ μ.2.2.2.2 = [] ∧ Cond.static μ.1 ∈ lw_tbl
def kz_mI (μ : kz_Y) (n : Nat) : Prop := kz_m μ n ∧ μ.2.2.2.2 = [] ∧ μ.2.2.2.1 = none ∧ μ.1.name = "<init>" ∧ Cond.instanceMethod μ.1 ∈ lw_tbl
def kz_mX (μ : kz_Y) (n : Nat) : Prop := kz_m μ n ∧ (∃ x l, μ.2.2.2.2 = x :: l) ∧ Cond.static μ.1 ∈ lw_tbl
theorem kz_code0 {μ : kz_Y} (h : μ.2.2.2.2 = []) : kz_code μ = .code μ.1 μ.2.1 μ.2.2.1 μ.2.2.2.1 := by unfold kz_code; rw [h]
theorem kz_codeX {μ : kz_Y} {x : Nat × Nat × Nat × Nat} {l : List (Nat × Nat × Nat × Nat)} (h : μ.2.2.2.2 = x :: l) : kz_code μ = .codeWith μ.1 μ.2.1 μ.2.2.1 μ.2.2.2.1 μ.2.2.2.2 := by unfold kz_code; rw [h]
theorem kz_codeOk (μ : kz_Y) : kz_ok (kz_code μ) = true := by
  unfold kz_code
  cases μ.2.2.2.2 <;> rfl
theorem kz_codeGood (μ : kz_Y) : ((kz_code μ).onTables && (kz_code μ).keeps) = true := by
  unfold kz_code
  cases μ.2.2.2.2 <;> rfl
section KZE
variable {G : kz_G} {d mc ms : Nat} {μ : kz_Y} {Qr : Option Value → kz_M → Prop} {Qx : String → kz_M → Prop} {M : kz_M}
theorem kz_args (G : kz_G) : ∀ (i : Nat) (as : List Value), lv_args i (as.map (kz_v G)) = (lv_args i as).map fun q => (q.1, kz_v G q.2)
  | _, [] => rfl
  | i, v :: vs => by
    rw [List.map_cons]
    unfold lv_args
    rw [kz_cat, kz_args G _ vs]
    rfl
theorem kz_slLen (G : kz_G) (as : List Value) : (lg_sl (as.map (kz_v G))).length = (lg_sl as).length := by
  induction as with
  | nil => rfl
  | cons v vs ih =>
    have h1 : lg_sl ((v :: vs).map (kz_v G)) = (if (kz_v G v).category = 2 then [Slot.val (kz_v G v), .second] else [.val (kz_v G v)]) ++ lg_sl (vs.map (kz_v G)) := rfl
    have h2 : lg_sl (v :: vs) = (if v.category = 2 then [Slot.val v, .second] else [.val v]) ++ lg_sl vs := rfl
    rw [h1, h2, List.length_append, List.length_append, ih, kz_cat]
    by_cases h : v.category = 2 <;> simp [h]
/-- a method's contract, out of its body -/
theorem kz_enter {n : Nat} (hm : kz_m μ n) {as : List Value} (hlen : (lg_sl as).length ≤ μ.2.2.1) {ls : List (Nat × Value)} (hls : lv_args 0 as = ls) (k : kz_Z G d mc ms μ Qr Qx 0 ls [] M 0 0) : kz_C G d mc ms μ as M Qr Qx := by
  have core : ∀ p e s m args below meth c s₁, BodyLoose p G.1 μ.1 (headSpec [kz_code μ] (kz_rm d mc ms)) μ.2.1 μ.2.2.1 μ.2.2.2.1 e s m args below meth c s₁ → c.maxLocals = μ.2.2.1 → c.exceptionTable.toList = tableOf μ.2.2.2.2 → va_Pc (as.map (kz_v G)) (kz_B G M) args s →
      W p G.1 e (headSpec [kz_code μ] (kz_rm d mc ms)).room s m args below meth c s.heap [] 0 0 (vx_MQ below (kz_Qc G Qr) (kz_Xc G Qx) args s mc ms (fun q => G.2.2.1.heap.size ≤ q)) (entryFrame m args μ.2.2.1) := by
    intro p e s m args below meth c s₁ B hml htab hv
    obtain ⟨rfl, hH, hK⟩ := hv
    have hl := lv_entry (as.map (kz_v G)) (n := μ.2.2.1) (by rw [kz_slLen]; exact hlen)
    rw [lg_entry_eq]
    rw [kz_args, hls] at hl
    refine k p e _ s m _ below meth c s.heap [] _ ⟨B.exec, B.bytes, B.returns, hml, findClass_of_methodNamed B.named, B.notSynchronized, (name_of_methodNamed B.named B.method).1, htab, hK, ⟨?_, hH.2.1⟩, rfl⟩ hl hH (fun q hq => by cases hq)
    have := hH.1
    omega
  cases hh : μ.2.2.2.2 with
  | nil =>
    refine vx_ofW (cc := μ.2.1) (maxL := μ.2.2.1) (ret := μ.2.2.2.1) hm.2.2.2.2.2 (by rw [kz_code0 hh]) ?_
    intro p e s m args below meth c s₁ B hml ht hv
    refine core p e s m args below meth c s₁ B hml ?_ hv
    rw [hh]
    have e2 : tableOf [] = ([] : List ExceptionTableEntry) := rfl
    rw [e2]
    exact List.eq_nil_iff_forall_not_mem.mpr ht
  | cons x l =>
    refine vx_ofWH (cc := μ.2.1) (maxL := μ.2.2.1) (ret := μ.2.2.2.1) (hh := μ.2.2.2.2) hm.2.2.2.2.2 (by rw [kz_codeX hh]) ?_
    intro p e s m args below meth c s₁ B hml hv
    refine core p e s m args below meth c s₁ B hml ?_ hv
    exact vx_table (x := μ.1) B (atoms_spec (ws := [kz_code μ]) B.pre _ (by rw [kz_codeX hh]; exact List.mem_cons_self))
end KZE
section KZL
variable {G : kz_G} {d mc ms : Nat} {μ : kz_Y} {Qr : Option Value → kz_M → Prop} {Qx : String → kz_M → Prop} {pc : Nat} {ls : List (Nat × Value)} {st : List Value} {M : kz_M} {c sl : Nat}
/-- the frame with something thrown over it -/
def kz_T (G : kz_G) (d mc ms : Nat) (μ : kz_Y) (Qr : Option Value → kz_M → Prop) (Qx : String → kz_M → Prop) (pc : Nat) (ls : List (Nat × Value)) (st : List Value) (E : String) (M : kz_M) (c sl : Nat) : Prop :=
  ∀ (p : Program) (e : Env) (R : Room) (s : State) (m : MethodId) (args : Array Value) (below : List Frame) (meth : Method) (cd : Code) (H : Heap) (locs : List Loc) (la : Array Slot) (q9 : Addr) (ce : Cell),
    kz_F G d mc ms μ p R s m meth cd → lv_has la μ.2.2.1 (ls.map fun q => (q.1, kz_v G q.2)) → kz_H G M H → (∀ q ∈ locs, G.2.2.1.heap.size ≤ q.base) → H[q9]? = some ce → ce.vm = .none → s.vm.findClass E = some ce.cls →
    vx_W p G.1 e R s m args below meth cd H locs c sl (vx_MQ below (kz_Qc G Qr) (kz_Xc G Qx) args s mc ms (fun q => G.2.2.1.heap.size ≤ q)) (F0 m pc la (st.map (kz_v G))) q9
/-- a method without handlers: what is thrown over it goes on -/
theorem kz_Tout {E : String} (hh : μ.2.2.2.2 = []) (hc : c ≤ mc) (hs : sl ≤ ms) (hq : Qx E M) : kz_T G d mc ms μ Qr Qx pc ls st E M c sl := by
  intro p e R s m args below meth cd H locs la q9 ce hF hl hH hL h1 h2 h3
  obtain ⟨hx, hb, hr, -, hown, hlk, -, htab, hK, -, hR⟩ := hF
  refine vx_out (fun x hx => ?_) hlk h1 h2 h3 (fun t ht _ => ⟨M, hq, by rw [ht]; exact hH⟩) hL hc hs
  rw [htab, hh] at hx
  cases hx
theorem kz_cat0 (G : kz_G) (st : List Value) : ((st.map (kz_v G)).map fun v => v.category) = st.map fun v => v.category := by
  rw [List.map_map]
  exact List.map_congr_left fun v _ => kz_cat G v
theorem kz_opt (G : kz_G) (v : Option Value) (st : List Value) : (v.map (kz_v G)).toList ++ st.map (kz_v G) = (v.toList ++ st).map (kz_v G) := by cases v <;> rfl
/-- out of the kit's run of a call -/
theorem kz_run {p : Program} {e : Env} {R : Room} {s : State} {m : MethodId} {args : Array Value} {below : List Frame} {meth : Method} {cd : Code} {H : Heap} {locs : List Loc} {la : Array Slot} {mc' ms' : Nat} {st0 : List Value} {a : Array Value} {Qx' : String → kz_M → Prop}
    (hF : kz_F G d mc ms μ p R s m meth cd) (hl : lv_has la μ.2.2.1 (ls.map fun q => (q.1, kz_v G q.2))) (hL : ∀ q ∈ locs, G.2.2.1.heap.size ≤ q.base)
    (hr : vx_Run p G.1 e R s m args below meth cd H locs c sl mc' ms' (F0 m pc la st0) (st.map (kz_v G)) (kz_Qc G (fun v M1 => kz_Z G d mc ms μ Qr Qx (pc + 3) ls (v.toList ++ st) M1 (c + mc') (sl + ms')) a) (kz_Xc G Qx') (fun q => G.2.2.1.heap.size ≤ q))
    (kx : ∀ E M1, Qx' E M1 → kz_T G d mc ms μ Qr Qx pc ls st E M1 (c + mc') (sl + ms')) :
    W p G.1 e R s m args below meth cd H locs c sl (vx_MQ below (kz_Qc G Qr) (kz_Xc G Qx) args s mc ms (fun q => G.2.2.1.heap.size ≤ q)) (F0 m pc la st0) := by
  intro T hT X
  rcases hr T hT X with ⟨v, st₀, t, T', L, h0, X', hL', e1, e2, ⟨v2, M1, hv, hp, hH1⟩, stp⟩ | ⟨q, st₀, t, T', L, E, ce, h0, X', hL', e1, e2, ⟨M1, hp, hH1⟩, hce, hcv, hcl, stp⟩
  · cases hv
    rw [kz_opt] at stp
    obtain ⟨t2, a1, b1⟩ := hp p e R s m args below meth cd T'.heap (locs ++ L) la hF hl (by rw [e1]; exact hH1) (fun q hq => (List.mem_append.mp hq).elim (hL q) (hL' q)) T' rfl X'
    exact ⟨t2, stp t2 a1, b1⟩
  · obtain ⟨t2, a1, b1⟩ := kx E M1 hp p e R s m args below meth cd T'.heap (locs ++ L) la q ce hF hl (by rw [e1]; exact hH1) (fun q hq => (List.mem_append.mp hq).elim (hL q) (hL' q)) (by rw [e1]; exact hce) hcv hcl T' rfl X'
    exact ⟨t2, stp.trans a1, b1⟩
theorem kz_pre {s : State} {H : Heap} {As : List Value} (hK : kz_K G s) (hH : kz_H G M H) : ∀ U : State, U.heap = H → s.WarmedH U.vm → va_Pc As (kz_B G M) As.toArray U :=
  fun U hU hW => ⟨rfl, by rw [hU]; exact hH, hK.moved hW⟩
theorem kz_ws {s : State} {μ' : kz_Y} (hK : kz_K G s) (h : kz_code μ' ∈ lw_tbl) : ∀ w ∈ [kz_code μ'], ∀ (a' : Array Value) (U : State), s.WarmedH U.vm → w.before a' U = true := by
  intro w hw a' U hW
  rw [List.mem_singleton.mp hw]
  exact word_at hW (Or.inl (kz_codeGood μ')) (hK.1 _ h (kz_codeOk μ') #[])
theorem kz_par {x : String} {n : Nat} (h : (parseMethodDescriptor x).map (fun d => d.parameters.length) = some n) : ∀ sig, parseMethodDescriptor x = some sig → n = sig.parameters.length := by
  intro sig hs
  rw [hs] at h
  exact (Option.some.inj h).symm
theorem kz_mono37 {d d' x : Nat} (h : d' + 1 ≤ d) (hx : x ≤ 18) : (kz_rm d' 0 0).frames + 1 ≤ d ∧ 8 + (x + 11) + 37 * d' ≤ 37 * d := ⟨h, by omega⟩
theorem kz_callV {μ' : kz_Y} {n d' mc' ms' index : Nat} {As : List Value} (hm : kz_mV μ' n) (hlink : Cond.methodLink μ.1.cls index μ'.1 ∈ lw_tbl) (hdd : d' + 1 ≤ d) (hn : As.length = n) (hst : (st.map fun v => v.category).sum ≤ 8) {ci b : Nat} {q : vw_C} {fs : List Value} (he : M.1 b = some (.inl (ci, fs))) (hc : vwCl[ci]? = some q) (hq : q.1 = μ'.1.cls) (hc1 : c + mc' ≤ mc) (hs1 : sl + ms' ≤ ms) (hd : decode μ.2.1 pc = .ok (.invokevirtual index, 3)) {Qx' : String → kz_M → Prop} (kx : ∀ E M1, Qx' E M1 → kz_T G d mc ms μ Qr Qx pc ls st E M1 (c + mc') (sl + ms')) (k : kz_C G d' mc' ms' μ' (.ref b :: As) M (fun v M1 => kz_Z G d mc ms μ Qr Qx (pc + 3) ls (v.toList ++ st) M1 (c + mc') (sl + ms')) Qx') : kz_Z G d mc ms μ Qr Qx pc ls (As.reverse ++ .ref b :: st) M c sl := by
  intro p e R s m args below meth cd H locs la hF hl hH hL
  have hF0 := hF
  obtain ⟨hx, hb, -, hml, hown, -, -, -, hK, -, hR⟩ := hF
  have hR2 := hR
  subst hR
  refine kz_run (a := (.ref b :: As).map (kz_v G) |>.toArray) hF0 hl hL ?_ kx
  refine vx_runV (Ts := []) (own := μ.1.cls) (C := μ'.1.cls) (b := kz_ad G b) (As := As.map (kz_v G)) (n := n) (bytes := μ'.2.1) (maxL := μ'.2.2.1) (ret := μ'.2.2.2.1) ⟨hx, hb, hml, hown, fun w hw => by cases hw⟩ k ⟨⟨rfl, rfl, hdd, (kz_mono37 hdd hm.1.2.2.2.2.1).2, kz_ws hK hm.1.1, (by rw [kz_code0 hm.2.1]; exact List.mem_cons_self), (by have h9 := hK.1 _ hm.1.1 (kz_codeOk μ') args; rw [kz_code0 hm.2.1] at h9; exact h9), hK.1 _ hm.1.2.1 rfl args, hm.1.2.2.1, kz_par hm.1.2.2.2.1, hK.1 _ hlink rfl args⟩, ⟨hK.1 _ hm.2.2.1 rfl args, hK.1 _ hm.2.2.2 rfl args⟩⟩ ⟨kz_blind G M _, ?_, kz_pre hK hH⟩ rfl (by rw [List.length_map]; exact hn) hl.1 (by show List.map (kz_v G) (As.reverse ++ .ref b :: st) = _; rw [List.map_append, List.map_reverse]; rfl) (by show 2 * 0 + _ ≤ _; rw [kz_cat0]; omega) hd ⟨hc1, hs1⟩
  obtain ⟨r, h1, cell, q1, q2, q3, q4⟩ := (hH.2.2.1 b _ he).2
  refine ⟨cell, q1, by rw [q3]; rfl, ?_⟩
  have hr : r = q := Option.some.inj (h1.symm.trans hc)
  subst hr
  rw [q2, ← hq]
  exact (hK.2.1.1 ci r hc).2.1
theorem kz_callVN {μ' : kz_Y} {n d' mc' ms' index : Nat} {host : String} {As : List Value} (hm : kz_mV μ' n) (hlink : Cond.methodLinkNest μ.1.cls index μ'.1 host ∈ lw_tbl) (hdd : d' + 1 ≤ d) (hn : As.length = n) (hst : (st.map fun v => v.category).sum ≤ 8) {ci b : Nat} {q : vw_C} {fs : List Value} (he : M.1 b = some (.inl (ci, fs))) (hc : vwCl[ci]? = some q) (hq : q.1 = μ'.1.cls) (hc1 : c + mc' ≤ mc) (hs1 : sl + ms' ≤ ms) (hd : decode μ.2.1 pc = .ok (.invokevirtual index, 3)) {Qx' : String → kz_M → Prop} (kx : ∀ E M1, Qx' E M1 → kz_T G d mc ms μ Qr Qx pc ls st E M1 (c + mc') (sl + ms')) (k : kz_C G d' mc' ms' μ' (.ref b :: As) M (fun v M1 => kz_Z G d mc ms μ Qr Qx (pc + 3) ls (v.toList ++ st) M1 (c + mc') (sl + ms')) Qx') : kz_Z G d mc ms μ Qr Qx pc ls (As.reverse ++ .ref b :: st) M c sl := by
  intro p e R s m args below meth cd H locs la hF hl hH hL
  have hF0 := hF
  obtain ⟨hx, hb, -, hml, hown, -, -, -, hK, -, hR⟩ := hF
  have hR2 := hR
  subst hR
  refine kz_run (a := (.ref b :: As).map (kz_v G) |>.toArray) hF0 hl hL ?_ kx
  refine vx_runVN (Ts := []) (own := μ.1.cls) (C := μ'.1.cls) (b := kz_ad G b) (As := As.map (kz_v G)) (n := n) (bytes := μ'.2.1) (maxL := μ'.2.2.1) (ret := μ'.2.2.2.1) ⟨hx, hb, hml, hown, fun w hw => by cases hw⟩ k ⟨⟨⟨rfl, rfl, hdd, (kz_mono37 hdd hm.1.2.2.2.2.1).2, kz_ws hK hm.1.1, (by rw [kz_code0 hm.2.1]; exact List.mem_cons_self)⟩, (by have h9 := hK.1 _ hm.1.1 (kz_codeOk μ') args; rw [kz_code0 hm.2.1] at h9; exact h9), hK.1 _ hm.1.2.1 rfl args, hm.1.2.2.1, kz_par hm.1.2.2.2.1, hK.1 _ hlink rfl args⟩, ⟨hK.1 _ hm.2.2.1 rfl args, hK.1 _ hm.2.2.2 rfl args⟩⟩ ⟨kz_blind G M _, ?_, kz_pre hK hH⟩ rfl (by rw [List.length_map]; exact hn) hl.1 (by show List.map (kz_v G) (As.reverse ++ .ref b :: st) = _; rw [List.map_append, List.map_reverse]; rfl) (by show 2 * 0 + _ ≤ _; rw [kz_cat0]; omega) hd ⟨hc1, hs1⟩
  obtain ⟨r, h1, cell, q1, q2, q3, q4⟩ := (hH.2.2.1 b _ he).2
  refine ⟨cell, q1, by rw [q3]; rfl, ?_⟩
  have hr : r = q := Option.some.inj (h1.symm.trans hc)
  subst hr
  rw [q2, ← hq]
  exact (hK.2.1.1 ci r hc).2.1
theorem kz_callS {μ' : kz_Y} {n d' mc' ms' index : Nat} {As : List Value} (hm : kz_mS μ' n) (hlink : Cond.methodLink μ.1.cls index μ'.1 ∈ lw_tbl) (hdd : d' + 1 ≤ d) (hn : As.length = n) (hst : (st.map fun v => v.category).sum ≤ 8) (hc1 : c + mc' ≤ mc) (hs1 : sl + ms' ≤ ms) (hd : decode μ.2.1 pc = .ok (.invokestatic index, 3)) {Qx' : String → kz_M → Prop} (kx : ∀ E M1, Qx' E M1 → kz_T G d mc ms μ Qr Qx pc ls st E M1 (c + mc') (sl + ms')) (k : kz_C G d' mc' ms' μ' (As) M (fun v M1 => kz_Z G d mc ms μ Qr Qx (pc + 3) ls (v.toList ++ st) M1 (c + mc') (sl + ms')) Qx') : kz_Z G d mc ms μ Qr Qx pc ls (As.reverse ++ st) M c sl := by
  intro p e R s m args below meth cd H locs la hF hl hH hL
  have hF0 := hF
  obtain ⟨hx, hb, -, hml, hown, -, -, -, hK, -, hR⟩ := hF
  have hR2 := hR
  subst hR
  refine kz_run (a := (As).map (kz_v G) |>.toArray) hF0 hl hL ?_ kx
  refine vx_runS (Ts := []) (own := μ.1.cls) (As := As.map (kz_v G)) (n := n) (bytes := μ'.2.1) (maxL := μ'.2.2.1) (ret := μ'.2.2.2.1) ⟨hx, hb, hml, hown, fun w hw => by cases hw⟩ k ⟨⟨rfl, rfl, hdd, (kz_mono37 hdd hm.1.2.2.2.2.1).2, kz_ws hK hm.1.1, (by rw [kz_code0 hm.2.1]; exact List.mem_cons_self), (by have h9 := hK.1 _ hm.1.1 (kz_codeOk μ') args; rw [kz_code0 hm.2.1] at h9; exact h9), hK.1 _ hm.1.2.1 rfl args, hm.1.2.2.1, kz_par hm.1.2.2.2.1, hK.1 _ hlink rfl args⟩, hK.1 _ hm.2.2 rfl args⟩ ⟨kz_blind G M _, kz_pre hK hH⟩ rfl (by rw [List.length_map]; exact hn) hl.1 (by show List.map (kz_v G) (As.reverse ++ st) = _; rw [List.map_append, List.map_reverse]) (by show 2 * 0 + _ ≤ _; rw [kz_cat0]; omega) hd ⟨hc1, hs1⟩
theorem kz_callSN {μ' : kz_Y} {n d' mc' ms' index : Nat} {host : String} {As : List Value} (hm : kz_mS μ' n) (hlink : Cond.methodLinkNest μ.1.cls index μ'.1 host ∈ lw_tbl) (hdd : d' + 1 ≤ d) (hn : As.length = n) (hst : (st.map fun v => v.category).sum ≤ 8) (hc1 : c + mc' ≤ mc) (hs1 : sl + ms' ≤ ms) (hd : decode μ.2.1 pc = .ok (.invokestatic index, 3)) {Qx' : String → kz_M → Prop} (kx : ∀ E M1, Qx' E M1 → kz_T G d mc ms μ Qr Qx pc ls st E M1 (c + mc') (sl + ms')) (k : kz_C G d' mc' ms' μ' (As) M (fun v M1 => kz_Z G d mc ms μ Qr Qx (pc + 3) ls (v.toList ++ st) M1 (c + mc') (sl + ms')) Qx') : kz_Z G d mc ms μ Qr Qx pc ls (As.reverse ++ st) M c sl := by
  intro p e R s m args below meth cd H locs la hF hl hH hL
  have hF0 := hF
  obtain ⟨hx, hb, -, hml, hown, -, -, -, hK, -, hR⟩ := hF
  have hR2 := hR
  subst hR
  refine kz_run (a := (As).map (kz_v G) |>.toArray) hF0 hl hL ?_ kx
  refine vx_runSN (Ts := []) (own := μ.1.cls) (As := As.map (kz_v G)) (n := n) (bytes := μ'.2.1) (maxL := μ'.2.2.1) (ret := μ'.2.2.2.1) ⟨hx, hb, hml, hown, fun w hw => by cases hw⟩ k ⟨⟨⟨rfl, rfl, hdd, (kz_mono37 hdd hm.1.2.2.2.2.1).2, kz_ws hK hm.1.1, (by rw [kz_code0 hm.2.1]; exact List.mem_cons_self)⟩, (by have h9 := hK.1 _ hm.1.1 (kz_codeOk μ') args; rw [kz_code0 hm.2.1] at h9; exact h9), hK.1 _ hm.1.2.1 rfl args, hm.1.2.2.1, kz_par hm.1.2.2.2.1, hK.1 _ hlink rfl args⟩, ⟨hK.1 _ hm.2.2 rfl args, trivial⟩⟩ ⟨kz_blind G M _, kz_pre hK hH⟩ rfl (by rw [List.length_map]; exact hn) hl.1 (by show List.map (kz_v G) (As.reverse ++ st) = _; rw [List.map_append, List.map_reverse]) (by show 2 * 0 + _ ≤ _; rw [kz_cat0]; omega) hd ⟨hc1, hs1⟩
theorem kz_callI {μ' : kz_Y} {n d' mc' ms' index : Nat} {As : List Value} (hm : kz_mI μ' n) (hlink : Cond.methodLink μ.1.cls index μ'.1 ∈ lw_tbl) (hdd : d' + 1 ≤ d) (hn : As.length = n) (hst : (st.map fun v => v.category).sum ≤ 8) {b : Nat} (hc1 : c + mc' ≤ mc) (hs1 : sl + ms' ≤ ms) (hd : decode μ.2.1 pc = .ok (.invokespecial index, 3)) {Qx' : String → kz_M → Prop} (kx : ∀ E M1, Qx' E M1 → kz_T G d mc ms μ Qr Qx pc ls st E M1 (c + mc') (sl + ms')) (k : kz_C G d' mc' ms' μ' (.ref b :: As) M (fun v M1 => kz_Z G d mc ms μ Qr Qx (pc + 3) ls (v.toList ++ st) M1 (c + mc') (sl + ms')) Qx') : kz_Z G d mc ms μ Qr Qx pc ls (As.reverse ++ .ref b :: st) M c sl := by
  intro p e R s m args below meth cd H locs la hF hl hH hL
  have hF0 := hF
  obtain ⟨hx, hb, -, hml, hown, -, -, -, hK, -, hR⟩ := hF
  have hR2 := hR
  subst hR
  refine kz_run (a := (.ref b :: As).map (kz_v G) |>.toArray) hF0 hl hL ?_ kx
  refine vx_runI (Ts := []) (own := μ.1.cls) (b := kz_ad G b) (As := As.map (kz_v G)) (n := n) (bytes := μ'.2.1) (maxL := μ'.2.2.1) ⟨hx, hb, hml, hown, fun w hw => by cases hw⟩ k ⟨⟨rfl, rfl, hdd, (kz_mono37 hdd hm.1.2.2.2.2.1).2, kz_ws hK hm.1.1, (by rw [kz_code0 hm.2.1, hm.2.2.1]; exact List.mem_cons_self), (by have h9 := hK.1 _ hm.1.1 (kz_codeOk μ') args; rw [kz_code0 hm.2.1, hm.2.2.1] at h9; exact h9), hK.1 _ hm.1.2.1 rfl args, hm.1.2.2.1, kz_par hm.1.2.2.2.1, hK.1 _ hlink rfl args⟩, ⟨hm.2.2.2.1, hK.1 _ hm.2.2.2.2 rfl args⟩⟩ ⟨kz_blind G M _, kz_pre hK hH⟩ rfl (by rw [List.length_map]; exact hn) hl.1 (by show List.map (kz_v G) (As.reverse ++ .ref b :: st) = _; rw [List.map_append, List.map_reverse]; rfl) (by show 2 * 0 + _ ≤ _; rw [kz_cat0]; omega) hd ⟨hc1, hs1⟩
theorem kz_callIN {μ' : kz_Y} {n d' mc' ms' index : Nat} {host : String} {As : List Value} (hm : kz_mI μ' n) (hlink : Cond.methodLinkNest μ.1.cls index μ'.1 host ∈ lw_tbl) (hdd : d' + 1 ≤ d) (hn : As.length = n) (hst : (st.map fun v => v.category).sum ≤ 8) {b : Nat} (hc1 : c + mc' ≤ mc) (hs1 : sl + ms' ≤ ms) (hd : decode μ.2.1 pc = .ok (.invokespecial index, 3)) {Qx' : String → kz_M → Prop} (kx : ∀ E M1, Qx' E M1 → kz_T G d mc ms μ Qr Qx pc ls st E M1 (c + mc') (sl + ms')) (k : kz_C G d' mc' ms' μ' (.ref b :: As) M (fun v M1 => kz_Z G d mc ms μ Qr Qx (pc + 3) ls (v.toList ++ st) M1 (c + mc') (sl + ms')) Qx') : kz_Z G d mc ms μ Qr Qx pc ls (As.reverse ++ .ref b :: st) M c sl := by
  intro p e R s m args below meth cd H locs la hF hl hH hL
  have hF0 := hF
  obtain ⟨hx, hb, -, hml, hown, -, -, -, hK, -, hR⟩ := hF
  have hR2 := hR
  subst hR
  refine kz_run (a := (.ref b :: As).map (kz_v G) |>.toArray) hF0 hl hL ?_ kx
  refine vx_runIN (Ts := []) (own := μ.1.cls) (b := kz_ad G b) (As := As.map (kz_v G)) (n := n) (bytes := μ'.2.1) (maxL := μ'.2.2.1) ⟨hx, hb, hml, hown, fun w hw => by cases hw⟩ k ⟨⟨⟨rfl, rfl, hdd, (kz_mono37 hdd hm.1.2.2.2.2.1).2, kz_ws hK hm.1.1, (by rw [kz_code0 hm.2.1, hm.2.2.1]; exact List.mem_cons_self)⟩, (by have h9 := hK.1 _ hm.1.1 (kz_codeOk μ') args; rw [kz_code0 hm.2.1, hm.2.2.1] at h9; exact h9), hK.1 _ hm.1.2.1 rfl args, hm.1.2.2.1, kz_par hm.1.2.2.2.1, hK.1 _ hlink rfl args⟩, ⟨hm.2.2.2.1, hK.1 _ hm.2.2.2.2 rfl args⟩⟩ ⟨kz_blind G M _, kz_pre hK hH⟩ rfl (by rw [List.length_map]; exact hn) hl.1 (by show List.map (kz_v G) (As.reverse ++ .ref b :: st) = _; rw [List.map_append, List.map_reverse]; rfl) (by show 2 * 0 + _ ≤ _; rw [kz_cat0]; omega) hd ⟨hc1, hs1⟩
theorem kz_callSX {μ' : kz_Y} {n d' mc' ms' index : Nat} {As : List Value} (hm : kz_mX μ' n) (hlink : Cond.methodLink μ.1.cls index μ'.1 ∈ lw_tbl) (hdd : d' + 1 ≤ d) (hn : As.length = n) (hst : (st.map fun v => v.category).sum ≤ 8) (hc1 : c + mc' ≤ mc) (hs1 : sl + ms' ≤ ms) (hd : decode μ.2.1 pc = .ok (.invokestatic index, 3)) {Qx' : String → kz_M → Prop} (kx : ∀ E M1, Qx' E M1 → kz_T G d mc ms μ Qr Qx pc ls st E M1 (c + mc') (sl + ms')) (k : kz_C G d' mc' ms' μ' As M (fun v M1 => kz_Z G d mc ms μ Qr Qx (pc + 3) ls (v.toList ++ st) M1 (c + mc') (sl + ms')) Qx') : kz_Z G d mc ms μ Qr Qx pc ls (As.reverse ++ st) M c sl := by
  intro p e R s m args below meth cd H locs la hF hl hH hL
  have hF0 := hF
  obtain ⟨hx, hb, -, hml, hown, -, -, -, hK, -, hR⟩ := hF
  subst hR
  refine kz_run (a := As.map (kz_v G) |>.toArray) hF0 hl hL ?_ kx
  obtain ⟨hm0, ⟨x0, l0, hh⟩, hst0⟩ := hm
  refine vx_runSX (Ts := []) (own := μ.1.cls) (As := As.map (kz_v G)) (n := n) (bytes := μ'.2.1) (maxL := μ'.2.2.1) (ret := μ'.2.2.2.1) (hh := μ'.2.2.2.2) ⟨hx, hb, hml, hown, fun w hw => by cases hw⟩ k ⟨⟨rfl, rfl, hdd, (kz_mono37 hdd hm0.2.2.2.2.1).2, kz_ws hK hm0.1, (by rw [kz_codeX hh]; exact List.mem_cons_self)⟩, (by have h9 := hK.1 _ hm0.1 (kz_codeOk μ') args; rw [kz_codeX hh] at h9; exact h9), hK.1 _ hm0.2.1 rfl args, hm0.2.2.1, kz_par hm0.2.2.2.1, hK.1 _ hlink rfl args, hK.1 _ hst0 rfl args⟩ ⟨kz_blind G M _, kz_pre hK hH⟩ rfl (by rw [List.length_map]; exact hn) hl.1 (by show List.map (kz_v G) (As.reverse ++ st) = _; rw [List.map_append, List.map_reverse]) (by show 2 * 0 + _ ≤ _; rw [kz_cat0]; omega) hd ⟨hc1, hs1⟩
end KZL
