/-! Part 59u: private methods of the class above; a field by another class's name; the law's script -/
def mL_law : kz_Y := (⟨"LineOfficeLaw", "law", "([I)Z"⟩, code, 4, ret, [])
def kz_privs : List MethodName := [yJ5_ensureCapacityInternal_d00df, yJ5_newCapacity_0f7a4, yJ5_putStringAt_47b60, yJ5_inflateIfNeededFor_a7421]
def kz_statP (G : kz_G) : Prop := ∀ y ∈ kz_privs, (Cond.privateMethod y).before #[] G.2.2.1 = true
theorem kz_priv {G : kz_G} {s : State} {args : Array Value} {y : MethodName} (hP : kz_statP G) (hy : y ∈ kz_privs) (hK : kz_K G s) : (Cond.privateMethod y).before args s = true := by
  refine va_any (A := #[]) rfl ?_
  have e := Cond.onTables_vm (A := #[]) (A' := #[]) (U := G.2.2.1) (U' := s) s.vm (Cond.privateMethod y) rfl
  have hU : s.setVm s.vm = s := rfl
  rw [hU] at e
  rw [← e, Cond.privateMethod_setVm hK.2.2.2]
  exact hP y hy
theorem kz_same {s : State} {args : Array Value} {ref owner name desc : String} (h : (Cond.sameField ref owner name desc).before args s = true) : ∀ x, s.fieldFound? owner name desc = some x → s.fieldFound? ref name desc = some x := by
  intro x hx
  cases hi : s.fieldFound? ref name desc with
  | none => simp [Cond.before, Cond.holds, Cond.value, hi] at h
  | some y =>
    obtain ⟨c, k, i, f⟩ := y
    have h2 := Cond.sameField_spec hi h
    rw [hx] at h2
    exact h2.symm
section KZL
variable {G : kz_G} {d mc ms : Nat} {μ : kz_Y} {Qr : Option Value → kz_M → Prop} {Qx : String → kz_M → Prop} {pc : Nat} {ls : List (Nat × Value)} {st : List Value} {M : kz_M} {c sl : Nat}
theorem kz_getfS {a ci k index : Nat} {q : vw_C} {ty : Nat → FieldType} {fs : List Value} {v : Value} {ref : String} (hC : kz_cl ci q ty) (he : M.1 a = some (.inl (ci, fs))) (hv : fs[k]? = some v) (hk : k < q.2.2) (hsm : Cond.sameField ref (q.2.1 k).1 (q.2.1 k).2.1 (q.2.1 k).2.2.1 ∈ lw_tbl) (hw : Cond.fieldLink μ.1.cls index ref (q.2.1 k).2.1 (q.2.1 k).2.2.1 ∈ lw_tbl) (hd : decode μ.2.1 pc = .ok (.getfield index, 3)) (kk : kz_Z G d mc ms μ Qr Qx (pc + 3) ls (v :: st) M c sl) : kz_Z G d mc ms μ Qr Qx pc ls (.ref a :: st) M c sl := by
  intro p e R s m args below meth cd H locs la hF hl hH hL
  have kk := kk p e R s m args below meth cd H locs la hF hl hH hL
  obtain ⟨hx, hb, -, -, hown, -, -, -, hK, -⟩ := hF
  have hat := (hH.2.2.1 a _ he).2
  refine va_get (Ts := u_ws q.1 q.2.1 q.2.2) hx hb (fun w hw => hK.1 w (hC.2.1 w hw).1 (hC.2.1 w hw).2 args) (fun w hw => hw) hown hK.2.1 (kz_one (q := (kz_ad G a, .inr (ci, fs.map (kz_v G)))) hat) 0 rfl hC.1 k hk (hK.1 _ hw rfl args) (kz_same (hK.1 _ hsm rfl args)) (v := kz_v G v) (by rw [List.getElem?_map, hv]; rfl) hd kk
theorem kz_putfS {a ci k index : Nat} {q : vw_C} {ty : Nat → FieldType} {fs : List Value} {v : Value} {ref : String} (hC : kz_cl ci q ty) (he : M.1 a = some (.inl (ci, fs))) (hk : k < q.2.2) (hlen : k < fs.length) (hsm : Cond.sameField ref (q.2.1 k).1 (q.2.1 k).2.1 (q.2.1 k).2.2.1 ∈ lw_tbl) (hw : Cond.fieldLink μ.1.cls index ref (q.2.1 k).2.1 (q.2.1 k).2.2.1 ∈ lw_tbl) (hfin : (q.2.1 k).2.2.2 = false) (hn : narrow (ty k) (kz_v G v) = kz_v G v) (hfit : fits (ty k) (kz_v G v) = true) (hd : decode μ.2.1 pc = .ok (.putfield index, 3)) (kk : kz_Z G d mc ms μ Qr Qx (pc + 3) ls st (kz_up M a (.inl (ci, fs.set k v))) c sl) : kz_Z G d mc ms μ Qr Qx pc ls (v :: .ref a :: st) M c sl := by
  intro p e R s m args below meth cd H locs la hF hl hH hL
  have hF0 := hF
  obtain ⟨hx, hb, -, -, hown, -, hnm, -, hK, -⟩ := hF
  have hat := (hH.2.2.1 a _ he).2
  have hts : ∀ w ∈ u_ws q.1 q.2.1 q.2.2, w.before args s = true := fun w hw => hK.1 w (hC.2.1 w hw).1 (hC.2.1 w hw).2 args
  have hin : ∀ w ∈ u_ws q.1 q.2.1 q.2.2, w ∈ u_ws q.1 q.2.1 q.2.2 := fun w hw => hw
  have hap := va_apart (own := μ.1.cls) hts hin ty hC.2.2.1 hC.2.2.2 hK.2.1 hC.1
  obtain ⟨r, h1, cell, q1, q2, q3, q4⟩ := hat
  have hr : r = q := Option.some.inj (h1.symm.trans hC.1)
  subst hr
  obtain ⟨hS, hfc, kC, hkC, hkind⟩ := hK.2.1.1 ci _ hC.1
  obtain ⟨cf, kf, fi, f, hi, hsl⟩ := hS k hk
  have hlay := hts _ (hin _ (u_in_lay hk))
  unfold u_lay at hlay
  have hst := (u_facts hfc hkC (u_lays hts hin hk) hi).1
  have hlm : k < (fs.map (kz_v G)).length := by rw [List.length_map]; exact hlen
  rw [if_neg (by rw [hfin]; decide)] at hlay
  have h6 := u_store hfc hkC hkind hlay hi (hC.2.2.1 k hk) hn hfit
  refine W.putK hx hb (f := f) ⟨hown, hK.1 _ hw rfl args, ⟨_, _, _, kz_same (hK.1 _ hsm rfl args) _ hi⟩, hst⟩ (by rw [q2]; exact h6) q1 q3 (by rw [hsl]; exact k2_hasslot (q4 k hk)) rfl rfl hd fun H' e1 e2 e3 => ?_
  rw [hsl] at e1 ⊢
  refine kk p e R s m args below meth cd H' _ la hF0 hl (hH.put he (e := .inl (ci, fs.set k v)) ?_ e2 e3) (fun x hx => ?_)
  · refine ⟨_, hC.1, t_OB.to (V := updV (vp_V (fs.map (kz_v G))) k (kz_v G v)) ⟨_, e1, q2, q3, t_set q4 hap hk (kz_v G v)⟩ (fun j _ => ?_)⟩
    rw [List.map_set]
    exact vp_updV_set hlm (kz_v G v) j
  · rcases List.mem_append.mp hx with h | h
    · exact hL x h
    · rw [List.mem_singleton.mp h]
      exact Nat.le_add_right _ _
theorem kz_sld {j N : Nat} {xs : Nat → Int32} {i : Int32} (hX : va_X (G.2.2.2 j) N xs G.2.2.1 G.2.2.1.heap) (hb : G.2.2.2 j < G.2.2.1.heap.size) (hin : vp_in i N) (hd : decode μ.2.1 pc = .ok (.iaload, 1)) (kk : kz_Z G d mc ms μ Qr Qx (pc + 1) ls (.int (xs i.toNatClampNeg) :: st) M c sl) : kz_Z G d mc ms μ Qr Qx pc ls (.int i :: .retAddr j :: st) M c sl := by
  intro p e R s m args below meth cd H locs la hF hl hH hL T hT X
  have kk := kk p e R s m args below meth cd H locs la hF hl hH hL
  obtain ⟨hx, hb', -, -, hown, -, -, -, hK, hlow, -⟩ := hF
  exact va_sld hx hb' ((hX.moved hK.2.2.2).kept (hlow.2 _ hb)) (Nat.lt_of_lt_of_le hb hlow.1) (Nat.not_le.mpr hb) (kz_vaS hlow hH hL hT X) hin hd kk T hT X
theorem kz_slen {j N : Nat} {xs : Nat → Int32} (hX : va_X (G.2.2.2 j) N xs G.2.2.1 G.2.2.1.heap) (hb : G.2.2.2 j < G.2.2.1.heap.size) (hd : decode μ.2.1 pc = .ok (.arraylength, 1)) (kk : kz_Z G d mc ms μ Qr Qx (pc + 1) ls (.int (Int32.ofNat N) :: st) M c sl) : kz_Z G d mc ms μ Qr Qx pc ls (.retAddr j :: st) M c sl := by
  intro p e R s m args below meth cd H locs la hF hl hH hL T hT X
  have kk := kk p e R s m args below meth cd H locs la hF hl hH hL
  obtain ⟨hx, hb', -, -, hown, -, -, -, hK, hlow, -⟩ := hF
  exact va_slen hx hb' ((hX.moved hK.2.2.2).kept (hlow.2 _ hb)) (Nat.lt_of_lt_of_le hb hlow.1) (Nat.not_le.mpr hb) (kz_vaS hlow hH hL hT X) hd kk T hT X
end KZL
