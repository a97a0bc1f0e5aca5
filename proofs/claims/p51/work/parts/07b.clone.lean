/-! Part 07b: a row's clone, and the cast behind it -/
section KZN
variable {G : kz_G} {d mc ms : Nat} {μ : kz_Y} {Qr : Option Value → kz_M → Prop} {Qx : String → kz_M → Prop} {pc : Nat} {ls : List (Nat × Value)} {st : List Value} {M : kz_M} {c sl : Nat}
theorem kz_RAcls {s : State} {cA : ClassId} {ty : FieldType} (h : va_RA s cA ty) : s.vm.findClass ("[" ++ ty.toString) = some cA := by
  cases ty with
  | object C =>
    obtain ⟨kA, comp, h1, h2, h3, h4⟩ := h
    exact h4
  | _ => exact h
def kz_clW (μ : kz_Y) (index : Nat) (ad : String) : Prop := Cond.methodLink μ.1.cls index ⟨ad, "clone", "()Ljava/lang/Object;"⟩ ∈ lw_tbl ∧ Cond.sameMethod ad "java/lang/Object" "clone" "()Ljava/lang/Object;" ∈ lw_tbl ∧ Cond.native ⟨"java/lang/Object", "clone", "()Ljava/lang/Object;"⟩ ∈ lw_tbl ∧ Cond.instanceMethod ⟨"java/lang/Object", "clone", "()Ljava/lang/Object;"⟩ ∈ lw_tbl ∧ Cond.selects ad ⟨ad, "clone", "()Ljava/lang/Object;"⟩ ⟨"java/lang/Object", "clone", "()Ljava/lang/Object;"⟩ ∈ lw_tbl ∧ Cond.castable ad "java/lang/Cloneable" ∈ lw_tbl
theorem kz_clone {a index : Nat} {ad : String} {ty : FieldType} {x : vp_A} (hw : kz_clW μ index ad) (had : "[" ++ ty.toString = ad) (he : M.1 a = some (.inr (ty, x))) (hfit : ∀ (cA : ClassId) (i : Nat) (v : Value), (vp_cell cA (kz_x G x)).slots[i]? = some v → fits ty v = true) (hsz : ∀ cA, (vp_cell cA (kz_x G x)).slots.size = x.1) (hdd : 1 ≤ d) (hst : (st.map fun v => v.category).sum ≤ 8) (hc : c + 1 ≤ mc) (hs : sl + x.1 ≤ ms) (hd : decode μ.2.1 pc = .ok (.invokevirtual index, 3)) (kk : kz_Z G d mc ms μ Qr Qx (pc + 3) ls (.ref M.2 :: st) (kz_nw M (.inr (ty, x))) (c + 1) (sl + x.1)) : kz_Z G d mc ms μ Qr Qx pc ls (.ref a :: st) M c sl := by
  intro p e R s m args below meth cd H locs la hF0 hl hH hL T hT X
  have hF9 := hF0
  obtain ⟨hx, hb, -, hml, hown, -, -, -, hK, hlow, hR⟩ := hF0
  subst hR
  obtain ⟨cA, g1, g2, g3⟩ := (hH.2.2.1 a _ he).2
  have hvm0 : (vp_cell cA (kz_x G x)).vm = .none := by
    unfold vp_cell
    split <;> rfl
  have hcl0 : (vp_cell cA (kz_x G x)).cls = cA := by
    unfold vp_cell
    split <;> rfl
  have hcE : ({ cls := (vp_cell cA (kz_x G x)).cls, slots := (vp_cell cA (kz_x G x)).slots } : Cell) = vp_cell cA (kz_x G x) := by
    unfold vp_cell
    split <;> rfl
  have hnm : s.vm.findClass ad = some cA := by rw [← had]; exact kz_RAcls (g3.moved hK.2.2.2)
  obtain ⟨c1, c2, f1, f2, f3⟩ := Cond.castable_spec (hK.1 _ hw.2.2.2.2.2 rfl args)
  cases Option.some.inj (f1.symm.trans hnm)
  have hArr := arrOfT_moved hK.2.2.2 g2
  obtain ⟨-, kS, hkS, compS, hkindS⟩ := hArr 0 (fun _ => .null)
  obtain ⟨-, kA, hkA, comp, hkind⟩ := State.isArrayOf_alike X.warmed.alike (hArr 0 (fun _ => .null))
  obtain ⟨vm', X', stp⟩ := X.cloneArray hx hown (hK.1 _ hw.1 rfl args) (hK.1 _ hw.2.1 rfl args) (hK.1 _ hw.2.2.1 rfl args) (hK.1 _ hw.2.2.2.1 rfl args) (hK.1 _ hw.2.2.2.2.1 rfl args) (a := kz_ad G a) (cell := vp_cell cA (kz_x G x)) (by rw [hT]; exact g1) (fun k h => by rw [hvm0] at h; cases h) (by rw [hvm0]; exact fun h => by cases h) (by rw [hcl0]; exact hnm) f2 (by rw [hcl0]; exact f3)
    (fun i v hv => by
      rw [hcl0]
      have hk' : T.vm.classes[cA]? = some kA := hkA
      simpa [State.fitsSlot, State.slotType?, hk', hkind] using hfit cA i v hv)
    (g := F0 m pc la (.ref (kz_ad G a) :: st.map (kz_v G))) rfl (hl.1.trans hml.symm) rfl (by rw [hb]; exact hd) hdd (by show 2 * 0 + _ + 14 ≤ 37 * d; rw [kz_cat0]; omega) hc (by rw [hsz]; exact hs) (hloader := by rw [hcl0]; exact Vm.clonesLoader_of_array hkS hkindS)
  rw [hcE, hsz] at X'
  rw [hcE, hT, hH.sz] at stp
  have e2 : (T.setVm vm').heap.size = kz_ad G M.2 := by rw [← hH.sz]; exact congrArg Array.size hT
  have e3 : ((T.setVm vm').pushCell (vp_cell cA (kz_x G x))).heap[kz_ad G M.2]? = some (vp_cell cA (kz_x G x)) := by rw [← e2]; exact State.heap_pushCell_size _ _
  have e4 : ((T.setVm vm').pushCell (vp_cell cA (kz_x G x))).heap.size = H.size + 1 := by rw [size_pushCell]; exact congrArg (fun (h : Heap) => h.size + 1) hT
  have e5 : ∀ q, q < H.size → ((T.setVm vm').pushCell (vp_cell cA (kz_x G x))).heap[q]? = H[q]? := fun q hq => by
    rw [State.heap_pushCell_of_lt _ _ (show q < (T.setVm vm').heap.size by show q < T.heap.size; rw [hT]; exact hq)]
    exact congrArg (fun (h : Heap) => h[q]?) hT
  obtain ⟨t, a1, b1⟩ := kk p e _ s m args below meth cd ((T.setVm vm').pushCell (vp_cell cA (kz_x G x))).heap locs la hF9 hl (hH.new ⟨cA, e3, g2, g3⟩ e4 e5) hL _ rfl X'
  exact ⟨t, stp t a1, b1⟩
theorem kz_castA {a index : Nat} {ad : String} {ty : FieldType} {x : vp_A} (hw : Cond.classLink μ.1.cls index ad ∈ lw_tbl) (had : "[" ++ ty.toString = ad) (he : M.1 a = some (.inr (ty, x))) (hd : decode μ.2.1 pc = .ok (.checkcast index, 3)) (kk : kz_Z G d mc ms μ Qr Qx (pc + 3) ls (.ref a :: st) M c sl) : kz_Z G d mc ms μ Qr Qx pc ls (.ref a :: st) M c sl := by
  intro p e R s m args below meth cd H locs la hF0 hl hH hL
  have kk := kk p e R s m args below meth cd H locs la hF0 hl hH hL
  obtain ⟨hx, hb, -, hml, hown, -, -, -, hK, hlow, hR⟩ := hF0
  obtain ⟨cA, g1, g2, g3⟩ := (hH.2.2.1 a _ he).2
  exact va_castA hx hb hown (hK.1 _ hw rfl args) (kz_one (D := G.2.1) (q := (kz_ad G a, .inl (cA, kz_x G x))) g1) 0 rfl (by rw [← had]; exact kz_RAcls (g3.moved hK.2.2.2)) hd kk
end KZN
