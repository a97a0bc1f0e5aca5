/-! Part 07: System.arraycopy, and a row's clone -/
theorem kz_nn {z : Int32} (hz : ¬ z < 0) : z.toInt = (z.toNatClampNeg : Int) := by
  have h0 : (0 : Int) ≤ z.toInt := by
    have := Int32.not_lt.mp hz
    simpa using Int32.le_iff_toInt_le.mp this
  show z.toInt = ((z.toInt.toNat : Nat) : Int)
  omega
section KZC
variable {G : kz_G} {d mc ms : Nat} {μ : kz_Y} {Qr : Option Value → kz_M → Prop} {Qx : String → kz_M → Prop} {pc : Nat} {ls : List (Nat × Value)} {st : List Value} {M : kz_M} {c sl : Nat}
/-- the words of arraycopy -/
def kz_cpW (μ : kz_Y) (index : Nat) : Prop := Cond.methodLink μ.1.cls index arraycopyName ∈ lw_tbl ∧ Cond.native arraycopyName ∈ lw_tbl ∧ Cond.static arraycopyName ∈ lw_tbl ∧ Cond.initialized "java/lang/System" ∈ lw_tbl
theorem kz_copyV {index a b n0 n1 : Nat} {c0 c1 : ClassId} {V0 V1 : Nat → Value} {sp dp n : Int32} {ty : FieldType} {x0 : vp_A} {e1 : kz_E} {F : kz_E} (hw : kz_cpW μ index) (he0 : ∀ H, kz_H G M H → H[kz_ad G a]? = some (arrV c0 n0 V0)) (he1 : ∀ H, kz_H G M H → H[kz_ad G b]? = some (arrV c1 n1 V1)) (hA0 : ArrOfT G.2.2.1 c0 ty) (hA1 : ArrOfT G.2.2.1 c1 ty)
    (h1 : ¬ sp < 0) (h2 : ¬ dp < 0) (h3 : ¬ n < 0) (h4 : sp.toNatClampNeg + n.toNatClampNeg ≤ n0) (h5 : dp.toNatClampNeg + n.toNatClampNeg ≤ n1) (hv : ∀ (s : State) (T : State) (vm' : Vm) (cm : ClassId) (k : Class), kz_K G s → kz_H G M T.heap → s.vm.Alike vm' → s.vm.classes[c1]? = some k → k.kind = .array cm ty → ∀ i, i < n.toNatClampNeg → fits ty (V0 (sp.toNatClampNeg + i)) = true ∧ (T.setVm vm').takes cm (V0 (sp.toNatClampNeg + i)))
    (hb1 : M.1 b = some e1) (hF : ∀ H1, H1[kz_ad G b]? = some (arrV c1 n1 (va_cpy V0 V1 sp.toNatClampNeg dp.toNatClampNeg n.toNatClampNeg)) → kz_at G b F H1) (hdd : 1 ≤ d) (hst : (st.map fun v => v.category).sum ≤ 8) (hd : decode μ.2.1 pc = .ok (.invokestatic index, 3)) (kk : kz_Z G d mc ms μ Qr Qx (pc + 3) ls st (kz_up M b F) c sl) : kz_Z G d mc ms μ Qr Qx pc ls (.int n :: .int dp :: .ref b :: .int sp :: .ref a :: st) M c sl := by
  intro p e R s m args below meth cd H locs la hF0 hl hH hL T hT X
  have hF9 := hF0
  obtain ⟨hx, hb, -, hml, hown, -, -, -, hK, hlow, hR⟩ := hF0
  subst hR
  have g0 := he0 H hH
  have g1 := he1 H hH
  obtain ⟨-, k0, hk0, cm0, hkk0⟩ := arrOfT_moved hK.2.2.2 hA0 n0 V0
  obtain ⟨-, k1, hk1, cm1, hkk1⟩ := arrOfT_moved hK.2.2.2 hA1 n1 V1
  obtain ⟨vm', X', stp⟩ := X.arraycopy hx hown (hK.1 _ hw.1 rfl args) (hK.1 _ hw.2.1 rfl args) (hK.1 _ hw.2.2.1 rfl args) (hK.1 _ hw.2.2.2 rfl args) (src := kz_ad G a) (dst := kz_ad G b) (cs := arrV c0 n0 V0) (cd := arrV c1 n1 V1) (srcPos := sp) (destPos := dp) (n := n) (by rw [hT]; exact g0) (by rw [hT]; exact g1)
    (fun _ h => by cases h) (fun _ h => by cases h) (fun h => by cases h) (fun h => by cases h) hk0 hk1 hkk0 hkk1 (by simp) h1 h2 h3
    (by rw [kz_nn h1, kz_nn h3, arrV_size]; omega) (by rw [kz_nn h2, kz_nn h3, arrV_size]; omega)
    (fun vm₁ hal i hi => by
      rw [Array.getD_eq_getD_getElem?, arrV_read _ _ (by omega)]
      exact hv s T vm₁ cm1 k1 hK (by rw [hT]; exact hH) hal hk1 hkk1 i hi)
    (g := F0 m pc la (.int n :: .int dp :: .ref (kz_ad G b) :: .int sp :: .ref (kz_ad G a) :: st.map (kz_v G))) rfl (hl.1.trans hml.symm) (rest := st.map (kz_v G)) rfl (by rw [hb]; exact hd) hdd (by have h28 : nativeFrameWords "java/lang/System" "arraycopy" 5 + 11 ≤ 28 := (by decide +kernel); show 2 * 0 + _ + _ ≤ 37 * d; rw [kz_cat0]; omega)
  rw [show copied (arrV c0 n0 V0) (arrV c1 n1 V1) sp dp n = arrV c1 n1 (va_cpy V0 V1 sp.toNatClampNeg dp.toNatClampNeg n.toNatClampNeg) from va_copied (fun z => z) c0 c1 V0 V1 h4] at X' stp
  have hlt : kz_ad G b < T.heap.size := by rw [hT]; exact (Array.getElem?_eq_some_iff.mp g1).1
  obtain ⟨t, a1, b1⟩ := kk p e _ s m args below meth cd ((T.setVm vm').setCell (kz_ad G b) (arrV c1 n1 (va_cpy V0 V1 sp.toNatClampNeg dp.toNatClampNeg n.toNatClampNeg))).heap _ la hF9 hl (hH.put hb1 (hF _ (heapAt_setCell_self (s := T.setVm vm') _ hlt)) (by rw [size_setCell]; exact congrArg Array.size hT) (fun q hq => by rw [heapAt_setCell_ne _ (Ne.symm hq)]; exact congrArg (fun (h : Heap) => h[q]?) hT)) (fun q hq => by
      rcases List.mem_append.mp hq with h | h
      · exact hL q h
      · obtain ⟨z, -, hz⟩ := List.mem_map.mp h
        rw [← hz]
        exact Nat.le_add_right _ _) _ rfl X'
  exact ⟨t, stp t a1, b1⟩
theorem kz_copyi {index a b n0 n1 : Nat} {f g : Nat → Int32} {sp dp n : Int32} (hw : kz_cpW μ index) (ha : M.1 a = some (.inr (.int, n0, .inl f))) (hb : M.1 b = some (.inr (.int, n1, .inl g))) (h1 : ¬ sp < 0) (h2 : ¬ dp < 0) (h3 : ¬ n < 0) (h4 : sp.toNatClampNeg + n.toNatClampNeg ≤ n0) (h5 : dp.toNatClampNeg + n.toNatClampNeg ≤ n1) (hdd : 1 ≤ d) (hst : (st.map fun v => v.category).sum ≤ 8) (hd : decode μ.2.1 pc = .ok (.invokestatic index, 3)) (kk : kz_Z G d mc ms μ Qr Qx (pc + 3) ls st (kz_up M b (.inr (.int, n1, .inl (va_cpy f g sp.toNatClampNeg dp.toNatClampNeg n.toNatClampNeg)))) c sl) : kz_Z G d mc ms μ Qr Qx pc ls (.int n :: .int dp :: .ref b :: .int sp :: .ref a :: st) M c sl := by
  intro p e R s m args below meth cd H locs la hF0 hl hH hL
  obtain ⟨c0, g1, g2, g3⟩ := (hH.2.2.1 a _ ha).2
  obtain ⟨c1, f1, f2, f3⟩ := (hH.2.2.1 b _ hb).2
  have u1 : va_RA G.2.2.1 c0 .int := g3
  have u2 : va_RA G.2.2.1 c1 .int := f3
  have ec : c0 = c1 := Option.some.inj (Eq.trans (Eq.symm u1) u2)
  subst ec
  refine kz_copyV (G := G) (x0 := (n0, .inl f)) (V0 := fun j => .int (f j)) (V1 := fun j => .int (g j)) (F := .inr (.int, n1, .inl (va_cpy f g sp.toNatClampNeg dp.toNatClampNeg n.toNatClampNeg))) hw (fun H9 hH9 => ?_) (fun H9 hH9 => ?_) g2 g2 h1 h2 h3 h4 h5 (fun s T vm' cm k _ _ _ _ _ i hi => ⟨rfl, trivial⟩) hb (fun H1 h9 => ⟨c0, ?_, g2, g3⟩) hdd hst hd kk p e R s m args below meth cd H locs la hF0 hl hH hL
  · obtain ⟨c9, q1, -, q3⟩ := (hH9.2.2.1 a _ ha).2
    have u3 : va_RA G.2.2.1 c9 .int := q3
    have : c9 = c0 := Option.some.inj (Eq.trans (Eq.symm u3) u1)
    subst this
    exact q1
  · obtain ⟨c9, q1, -, q3⟩ := (hH9.2.2.1 b _ hb).2
    have u3 : va_RA G.2.2.1 c9 .int := q3
    have : c9 = c0 := Option.some.inj (Eq.trans (Eq.symm u3) u1)
    subst this
    exact q1
  · refine h9.trans (congrArg some (congrArg (arrV c0 n1) (funext fun j => ?_) : arrV c0 n1 _ = arrV c0 n1 (fun j => .int (va_cpy f g sp.toNatClampNeg dp.toNatClampNeg n.toNatClampNeg j))))
    simp only [va_cpy]
    split <;> rfl
theorem kz_copyl {index a b n0 n1 : Nat} {f g : Nat → Int64} {sp dp n : Int32} (hw : kz_cpW μ index) (ha : M.1 a = some (.inr (.long, n0, .inr (.inl f)))) (hb : M.1 b = some (.inr (.long, n1, .inr (.inl g)))) (h1 : ¬ sp < 0) (h2 : ¬ dp < 0) (h3 : ¬ n < 0) (h4 : sp.toNatClampNeg + n.toNatClampNeg ≤ n0) (h5 : dp.toNatClampNeg + n.toNatClampNeg ≤ n1) (hdd : 1 ≤ d) (hst : (st.map fun v => v.category).sum ≤ 8) (hd : decode μ.2.1 pc = .ok (.invokestatic index, 3)) (kk : kz_Z G d mc ms μ Qr Qx (pc + 3) ls st (kz_up M b (.inr (.long, n1, .inr (.inl (va_cpy f g sp.toNatClampNeg dp.toNatClampNeg n.toNatClampNeg))))) c sl) : kz_Z G d mc ms μ Qr Qx pc ls (.int n :: .int dp :: .ref b :: .int sp :: .ref a :: st) M c sl := by
  intro p e R s m args below meth cd H locs la hF0 hl hH hL
  obtain ⟨c0, g1, g2, g3⟩ := (hH.2.2.1 a _ ha).2
  obtain ⟨c1, f1, f2, f3⟩ := (hH.2.2.1 b _ hb).2
  have u1 : va_RA G.2.2.1 c0 .long := g3
  have u2 : va_RA G.2.2.1 c1 .long := f3
  have ec : c0 = c1 := Option.some.inj (Eq.trans (Eq.symm u1) u2)
  subst ec
  refine kz_copyV (G := G) (x0 := (n0, .inr (.inl f))) (V0 := fun j => .long (f j)) (V1 := fun j => .long (g j)) (F := .inr (.long, n1, .inr (.inl (va_cpy f g sp.toNatClampNeg dp.toNatClampNeg n.toNatClampNeg)))) hw (fun H9 hH9 => ?_) (fun H9 hH9 => ?_) g2 g2 h1 h2 h3 h4 h5 (fun s T vm' cm k _ _ _ _ _ i hi => ⟨rfl, trivial⟩) hb (fun H1 h9 => ⟨c0, ?_, g2, g3⟩) hdd hst hd kk p e R s m args below meth cd H locs la hF0 hl hH hL
  · obtain ⟨c9, q1, -, q3⟩ := (hH9.2.2.1 a _ ha).2
    have u3 : va_RA G.2.2.1 c9 .long := q3
    have : c9 = c0 := Option.some.inj (Eq.trans (Eq.symm u3) u1)
    subst this
    exact q1
  · obtain ⟨c9, q1, -, q3⟩ := (hH9.2.2.1 b _ hb).2
    have u3 : va_RA G.2.2.1 c9 .long := q3
    have : c9 = c0 := Option.some.inj (Eq.trans (Eq.symm u3) u1)
    subst this
    exact q1
  · refine h9.trans (congrArg some (congrArg (arrV c0 n1) (funext fun j => ?_) : arrV c0 n1 _ = arrV c0 n1 (fun j => .long (va_cpy f g sp.toNatClampNeg dp.toNatClampNeg n.toNatClampNeg j))))
    simp only [va_cpy]
    split <;> rfl
theorem kz_copyq {index a b n0 n1 ci : Nat} {q : vw_C} {f g : Nat → Option Nat} {sp dp n : Int32} (hw : kz_cpW μ index) (hc : vwCl[ci]? = some q) (ha : M.1 a = some (.inr (.object q.1, n0, .inr (.inr (.inr (.inr f)))))) (hb : M.1 b = some (.inr (.object q.1, n1, .inr (.inr (.inr (.inr g)))))) (hel : ∀ i, i < n0 → ∀ y, f i = some y → ∃ fs, M.1 y = some (.inl (ci, fs))) (h1 : ¬ sp < 0) (h2 : ¬ dp < 0) (h3 : ¬ n < 0) (h4 : sp.toNatClampNeg + n.toNatClampNeg ≤ n0) (h5 : dp.toNatClampNeg + n.toNatClampNeg ≤ n1) (hdd : 1 ≤ d) (hst : (st.map fun v => v.category).sum ≤ 8) (hd : decode μ.2.1 pc = .ok (.invokestatic index, 3)) (kk : kz_Z G d mc ms μ Qr Qx (pc + 3) ls st (kz_up M b (.inr (.object q.1, n1, .inr (.inr (.inr (.inr (va_cpy f g sp.toNatClampNeg dp.toNatClampNeg n.toNatClampNeg))))))) c sl) : kz_Z G d mc ms μ Qr Qx pc ls (.int n :: .int dp :: .ref b :: .int sp :: .ref a :: st) M c sl := by
  intro p e R s m args below meth cd H locs la hF0 hl hH hL
  obtain ⟨c0, g1, g2, g3⟩ := (hH.2.2.1 a _ ha).2
  obtain ⟨c1, f1, f2, f3⟩ := (hH.2.2.1 b _ hb).2
  obtain ⟨kA, comp, u1, u2, u3, u4⟩ := g3
  have g3 : va_RA G.2.2.1 c0 (.object q.1) := ⟨kA, comp, u1, u2, u3, u4⟩
  have same : ∀ c9, va_RA G.2.2.1 c9 (.object q.1) → c9 = c0 := fun c9 h => by
    obtain ⟨kB, comp2, v1, v2, v3, v4⟩ := h
    exact Option.some.inj (v4.symm.trans u4)
  have ec : c1 = c0 := same c1 f3
  subst ec
  refine kz_copyV (G := G) (x0 := (n0, .inr (.inr (.inr (.inr f))))) (V0 := fun j => va_rf ((f j).map (kz_ad G))) (V1 := fun j => va_rf ((g j).map (kz_ad G))) (F := .inr (.object q.1, n1, .inr (.inr (.inr (.inr (va_cpy f g sp.toNatClampNeg dp.toNatClampNeg n.toNatClampNeg)))))) hw (fun H9 hH9 => ?_) (fun H9 hH9 => ?_) g2 g2 h1 h2 h3 h4 h5 (fun s T vm' cm k hK9 hH9 hal hk hkk i hi => ?_) hb (fun H1 h9 => ⟨c1, ?_, g2, g3⟩) hdd hst hd kk p e R s m args below meth cd H locs la hF0 hl hH hL
  · obtain ⟨c9, q1, -, q3⟩ := (hH9.2.2.1 a _ ha).2
    have := same c9 q3
    subst this
    exact q1
  · obtain ⟨c9, q1, -, q3⟩ := (hH9.2.2.1 b _ hb).2
    have := same c9 q3
    subst this
    exact q1
  · cases hy : f (sp.toNatClampNeg + i) with
    | none => exact ⟨rfl, trivial⟩
    | some y =>
      obtain ⟨fs, hfs⟩ := hel _ (by omega) y hy
      obtain ⟨r, r1, cell, q1, q2, q3, -⟩ := (hH9.2.2.1 y _ hfs).2
      have hr : r = q := Option.some.inj (r1.symm.trans hc)
      subst hr
      have hcls := (hK9.2.1.1 ci r hc).2
      obtain ⟨kA2, comp2, w1, w2, w3, -⟩ := g3.moved hK9.2.2.2
      cases hk.symm.trans w1
      cases hkk.symm.trans w2
      have hcm : cm = G.2.1.1 ci := Option.some.inj (w3.symm.trans hcls.1)
      subst hcm
      obtain ⟨kC, hkC, -⟩ := hcls.2
      obtain ⟨kC', hkC', -⟩ := hal.2.2 _ _ hkC
      refine ⟨rfl, cell, q1, (fun z h => by rw [q3] at h; cases h), ⟨kC', by rw [q2]; exact hkC'⟩, ⟨kC', hkC'⟩, ?_⟩
      show vm'.assignable _ _ = true
      rw [hal.assignable, q2]
      exact va_assign hcls
  · refine h9.trans (congrArg some (congrArg (arrV c1 n1) (funext fun j => ?_) : arrV c1 n1 _ = arrV c1 n1 (fun j => va_rf ((va_cpy f g sp.toNatClampNeg dp.toNatClampNeg n.toNatClampNeg j).map (kz_ad G)))))
    simp only [va_cpy]
    split <;> rfl
end KZC
