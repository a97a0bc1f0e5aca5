/-! Part 59q: 'throw new NoSuchElementException(text)', as the kit's law of other classes; its words -/
theorem ow_throwV {p : Program} {l : Launch} {e : Env} {R : Room} {s : State} {m : MethodId} {args : Array Value} {below : List Frame} {meth : Method} {c : Code} {H : Heap} {locs : List Loc} {cells slots : Nat} {rest : List Value} {ls : Array Slot} {free : Addr → Prop} {Qc : Array Value → State → Outcome → State → Prop} {XC : String → State → State → Prop} {cc : ByteArray} {pc : Nat} (hexec : p.tables.exec = Jvm.exec) (hb : c.code = cc) (hl : l.stackTraces = false) {own cls Y1 text : String} {names : List String} {ik is ic ix mc ms sa : Nat} {bytes : ByteArray}
    (b0 : decode bytes 0 = .ok (.aload_n 0, 1)) (b1 : decode bytes 1 = .ok (.aload_n 1, 1)) (b2 : decode bytes 2 = .ok (.invokespecial ix, 3)) (b5 : decode bytes 5 = .ok (.return_, 1))
    {A : Nat → Prop}
    (hown : s.vm.findClass own = some m.cls) (hcls : Bundle.fit cls = true) (hY1 : Bundle.fit Y1 = true) (hnames : ∀ n ∈ names, Bundle.fit n = true)
    (hk : (Cond.classLink own ik cls).before args s = true) (hini : (Cond.initialized cls).before args s = true) (hstr : vk_R own is text sa s) (hat : ∀ w ∈ (ow_thA own ic cls Y1 ix bytes names).filter vx_no, w.before args s = true)
    (hgood : ∀ w ∈ Cond.classLink own ik cls :: Cond.initialized cls :: (ow_thA own ic cls Y1 ix bytes names).filter vx_no, vx_ot w = true)
    (hU : vx_Zq Bundle.tN "UNASSIGNED_STACK" Bundle.steD A s s.heap) (hN : vx_Zq Bundle.tN "SUPPRESSED_SENTINEL" Bundle.listD A s s.heap) (hS : va_S A s.heap H locs) (hsize : ls.size = c.maxLocals)
    (d0 : decode cc pc = .ok (.new ik, 3)) (d3 : decode cc (pc + 3) = .ok (.dup, 1)) (d4 : decode cc (pc + 4) = .ok (.ldc_w is, 3)) (d7 : decode cc (pc + 7) = .ok (.invokespecial ic, 3)) (d10 : decode cc (pc + 10) = .ok (.athrow, 1))
    (hout : ∀ x ∈ c.exceptionTable.toList, covers x (pc + 10) = false)
    (hRframes : names.length + 4 < R.frames) (hRlocals : (rest.map fun v => v.category).sum + (13 * (names.length + 2) + 43) ≤ R.locals) (hRcells : cells + 1 ≤ R.cells) (hRslots : slots + 6 ≤ R.slots) (hlocks : meth.locks = false)
    (hx : ∀ t : State, s.vm.Alike t.vm → H.size ≤ t.heap.size → (∀ q : Nat, q < H.size → t.heap[q]? = H[q]?) → XC cls s t)
    (hf : ∀ z ∈ locs, free z.base) (hc : cells + 1 ≤ mc) (hs : slots + 6 ≤ ms) :
    W p l e R s m args below meth c H locs cells slots (vx_MQ below Qc XC args s mc ms free) (F0 m pc ls rest) := by
  intro T hT X
  have htr : e.platform.stackTraces = false := (show e.platform.stackTraces = l.stackTraces by rw [X.admits.platform]).trans hl
  have Y := vx_rebase X (R' := { frames := R.frames, locals := R.locals, cells := 1, slots := 6 }) (Nat.le_refl _) (Nat.le_refl _) hRcells hRslots
  obtain ⟨s', hA⟩ : ∃ z, z = (T.setVm s.vm).setFrames (.invoking m args :: below) := ⟨_, rfl⟩
  rw [← hA] at Y
  have hvm : s'.vm = s.vm := by rw [hA]; rfl
  have hhp : s'.heap = H := by rw [hA]; exact hT
  have hW0 : s.WarmedH s'.vm := by rw [hvm]; exact State.WarmedH.refl s
  have hat' : ∀ w ∈ (ow_thA own ic cls Y1 ix bytes names).filter vx_no, w.before args s' = true := fun w hw => vx_ot_at hW0 hvm.symm (hgood w (List.mem_cons_of_mem _ (List.mem_cons_of_mem _ hw))) (hat w hw)
  have hk' : (Cond.classLink own ik cls).before args s' = true := vx_ot_at hW0 hvm.symm (hgood _ List.mem_cons_self) hk
  have hini' : (Cond.initialized cls).before args s' = true := vx_ot_at hW0 hvm.symm (hgood _ (List.mem_cons_of_mem _ List.mem_cons_self)) hini
  have hU' : vx_Zq Bundle.tN "UNASSIGNED_STACK" Bundle.steD A s' s'.heap := by rw [hhp]; exact vx_Zq.moved hW0.alike (hU.kept hS.2.1)
  have hN' : vx_Zq Bundle.tN "SUPPRESSED_SENTINEL" Bundle.listD A s' s'.heap := by rw [hhp]; exact vx_Zq.moved hW0.alike (hN.kept hS.2.1)
  have h : ∀ w ∈ ow_thA own ic cls Y1 ix bytes names, w.before args s' = true := vx_own hat' (vx_isRefq hU'.1) (vx_isRefq hN'.1) hU'.2.word hN'.2.word
  have hown' : s'.vm.findClass own = some m.cls := by rw [hvm]; exact hown
  have hins : (Cond.instantiable cls 6).before args s' = true := h _ (by simp [ow_thA])
  obtain ⟨vm₁, cX, kX, hfX, hkX, -, -, X₁, st1⟩ := Y.newCold hexec (own := own) (C := cls) (index := ik) (n := 6) hown' hk' hins hini'
    (g := F0 m pc ls rest) rfl (by rw [hb]; exact d0) (Nat.le_refl _) (Nat.le_refl _)
  generalize hT1 : (T.setVm vm₁).pushCell { cls := cX, slots := kX.instanceTypes.map defaultValue, vm := .none } = T1 at X₁ st1
  have hcat : (Value.ref T.heap.size).category = 1 := rfl
  have hcellA : T1.heap[T.heap.size]? = some (freshCell cX kX) := by rw [← hT1]; exact State.heap_pushCell_size _ _
  have d3' : decode c.code (pc + 3) = .ok (.dup, 1) := by rw [hb]; exact d3
  have d4' : decode c.code (pc + 4) = .ok (.ldc_w is, 3) := by rw [hb]; exact d4
  have hstr' : vk_R own is text sa s' := vk_R.warm hW0 hstr
  obtain ⟨U, hsteps, hrun, hend, hW, hsame, ce, hce, hOv, hOc⟩ := ow_ctorThrow X₁ hexec htr (own := own) (cls := cls) (Y1 := Y1) (names := names) (ic := ic) b0 b1 b2 b5 hown' hcls hY1 hnames h (fun x hx => nomatch hx) hfX hkX hcellA (by rw [hhp, hT]; exact Nat.le_refl _) (msg := .ref sa) rfl
    (g := { method := m, pc := pc + 7, locals := ls, stack := .ref sa :: .ref T.heap.size :: .ref T.heap.size :: rest, locked := none }) rfl hsize rfl rfl (rest := rest) rfl
    (by rw [hb]; exact d7) (by rw [hb]; exact d10) hout hRframes (by
      show 2 * 0 + ((Value.ref T.heap.size).category + (rest.map fun v => v.category).sum) + (13 * (names.length + 2) + 42) ≤ R.locals
      rw [hcat]
      omega) hlocks
  obtain ⟨f1, f2⟩ := vx_frame hsame
  rw [hhp] at f1 f2
  have hWs : s.WarmedH U.vm := State.WarmedH.trans hW0 hW
  have hcl : s.vm.findClass cls = some ce.cls := by
    rw [hvm] at hOc
    exact hOc
  have hall : s.sameButNew ({ U with vm := s.vm } : State) locs mc ms := by
    subst hA
    obtain ⟨e1, e2⟩ := hsame
    rw [State.setFrames_setFrames] at e1
    have h2 : (T.setVm s.vm).sameButNew ({ U with vm := s.vm } : State) [] (0 + 1) (0 + 6) := ⟨e1, e2⟩
    have h3 := X.same.trans h2
    rw [List.append_nil] at h3
    exact h3.mono hc hs
  refine ⟨U, ?_, .threw T.heap.size, hrun, hend, Or.inr ⟨T.heap.size, rfl, cls, ce, locs, hx U hWs.alike f1 (fun q hq => f2 q hq (fun z hz => nomatch hz)), hce, hOv, hcl, hWs, hall, hf⟩⟩
  refine st1 _ ?_
  show Steps p.tables e below (T1.setTop { method := m, pc := pc + 3, locals := ls, stack := .ref T.heap.size :: rest, locked := none }) _
  jvm_step X₁.here [X₁.here.top, hexec, d3', Value.category]
  exact X₁.ldcStringW hexec (own := own) (text := text) (index := is) (a := sa) hown' hstr'.1 hstr'.2
    (g := { method := m, pc := pc + 4, locals := ls, stack := .ref T.heap.size :: .ref T.heap.size :: rest, locked := none }) rfl d4' _ hsteps
abbrev ow_NS : String := "java/util/NoSuchElementException"
theorem ow_nsw : ∀ w ∈ (ow_thA "LineOffice" 413 ow_NS "java/lang/RuntimeException" 13 prog_33_method_4_code ["java/lang/Exception"]).filter vx_no, w ∈ lw_tbl ∧ kz_ok w = true := by
  have h : ((ow_thA "LineOffice" 413 ow_NS "java/lang/RuntimeException" 13 prog_33_method_4_code ["java/lang/Exception"]).filter vx_no).all (fun w => decide (w ∈ lw_tbl) && kz_ok w) = true := by decide +kernel
  intro w hw
  have h2 := List.all_eq_true.mp h w hw
  simpa only [Bool.and_eq_true, decide_eq_true_eq] using h2
theorem ow_nsg : ∀ w ∈ Cond.classLink "LineOffice" 409 ow_NS :: Cond.initialized ow_NS :: (ow_thA "LineOffice" 413 ow_NS "java/lang/RuntimeException" 13 prog_33_method_4_code ["java/lang/Exception"]).filter vx_no, vx_ot w = true := by decide +kernel
/-- 'throw new NoSuchElementException(text)' -/
theorem kz_throwN {G : kz_G} {d mc ms : Nat} {μ : kz_Y} {Qr : Option Value → kz_M → Prop} {Qx : String → kz_M → Prop} {pc : Nat} {ls : List (Nat × Value)} {st : List Value} {M : kz_M} {c sl : Nat} {text : String} {is j : Nat} (hst9 : G.1.stackTraces = false) (hU : vx_Zq Bundle.tN "UNASSIGNED_STACK" Bundle.steD (kz_old G) G.2.2.1 G.2.2.1.heap) (hN : vx_Zq Bundle.tN "SUPPRESSED_SENTINEL" Bundle.listD (kz_old G) G.2.2.1 G.2.2.1.heap)
    (hcls : μ.1.cls = "LineOffice") (hq : ("LineOffice", is, text, j) ∈ kz_strs) (hh : μ.2.2.2.2 = []) (hdd : 5 < d) (hst : (st.map fun v => v.category).sum ≤ 8) (hc : c + 1 ≤ mc) (hs : sl + 6 ≤ ms)
    (d0 : decode μ.2.1 pc = .ok (.new 409, 3)) (d3 : decode μ.2.1 (pc + 3) = .ok (.dup, 1)) (d4 : decode μ.2.1 (pc + 4) = .ok (.ldc_w is, 3)) (d7 : decode μ.2.1 (pc + 7) = .ok (.invokespecial 413, 3)) (d10 : decode μ.2.1 (pc + 10) = .ok (.athrow, 1)) (kk : ∀ g, Qx ow_NS (M.1, M.2 + g)) : kz_Z G d mc ms μ Qr Qx pc ls st M c sl := by
  intro p e R s m args below meth cd H locs la hF hl hH hL T hT X
  obtain ⟨hx, hb, -, hml, hown, hlk, -, htab, hK, hlow, hR⟩ := hF
  subst hR
  rw [hcls] at hown
  refine ow_throwV (own := "LineOffice") (cls := ow_NS) (Y1 := "java/lang/RuntimeException") (names := ["java/lang/Exception"]) (bytes := prog_33_method_4_code) (ix := 13) hx hb hst9 (by decide +kernel) (by decide +kernel) (by decide +kernel) (by decide +kernel) hown (by decide +kernel) (by decide +kernel) (by decide +kernel) (hK.1 _ kw_1319 rfl args) (hK.1 _ kw_27 rfl args) (hK.2.2.1.2 _ hq) (fun w hw => hK.1 w (ow_nsw w hw).1 (ow_nsw w hw).2 args) ow_nsg ((hU.moved hK.2.2.2).kept (kz_low hlow)) ((hN.moved hK.2.2.2).kept (kz_low hlow)) (kz_vaS hlow hH hL hT X) (hl.1.trans hml.symm) d0 d3 d4 d7 d10 (fun x hx => ?_) hdd (by rw [kz_cat0]; show _ + (13 * 3 + 43) ≤ 37 * d; omega) hc hs hlk (fun t _ hz hq => ⟨_, kk _, hH.gap hz hq⟩) hL hc hs T hT X
  rw [htab, hh] at hx
  cases hx
