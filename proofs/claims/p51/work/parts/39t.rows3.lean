/-! Part 39t: literals of the law, copies out of them, copies of rows of objects, nest mates' fields that are written -/
def kz_lit (G : kz_G) (j : Nat) : Prop := va_O "java/lang/String" (G.2.2.2 j) (kz_old G) G.2.2.1 G.2.2.1.heap ∧ va_OF "java/lang/String" "coder" "B" (.int 0) (G.2.2.2 j) (kz_old G) G.2.2.1 G.2.2.1.heap ∧ va_OF "java/lang/String" "value" "[B" (.ref (G.2.2.2 (j + 1000))) (G.2.2.2 j) (kz_old G) G.2.2.1 G.2.2.1.heap ∧ va_T .byte (G.2.2.2 (j + 1000)) (kz_txt j).length (fun k => .int ((kz_txt j).getD k 0)) (kz_old G) G.2.2.1 G.2.2.1.heap
theorem kz_fitB {G : kz_G} (n : Nat) (f : Nat → Int32) (G' : kz_G) (hf : ∀ i, i < n → fits .byte (.int (f i)) = true) : ∀ (cA : ClassId) (i : Nat) (v : Value), (vp_cell cA (kz_x G (n, .inl f))).slots[i]? = some v → fits .byte v = true := by
  intro cA i v h
  have h : (arrV cA n (fun j => .int (f j))).slots[i]? = some v := h
  have hi : i < n := by have := (Array.getElem?_eq_some_iff.mp h).1; rwa [arrV_size] at this
  rw [arrV_read _ _ hi] at h
  cases h
  exact hf i hi
section KZ9
variable {G : kz_G} {d mc ms : Nat} {μ : kz_Y} {Qr : Option Value → kz_M → Prop} {Qx : String → kz_M → Prop} {pc : Nat} {ls : List (Nat × Value)} {st : List Value} {M : kz_M} {c sl : Nat}
theorem kz_coderL {j : Nat} (hG : kz_stat G) (hS : kz_lit G j) (q : Qr (some (.int 0)) M) : kz_C G d 0 0 mJ0_coder_7d493 [.retAddr j] M Qr Qx := by
  have hC := hG.2.2.2.2.2.2.2.1.1
  refine kz_enter (n := 0) kmJ0_coder_7d493.1 (Nat.le_of_ble_eq_true rfl) (ls := [(0, .retAddr j)]) rfl ?_
  refine kz_gets (v := .int 1) hC kw_235 dJ0_coder_7d493_0 ?_
  refine kz_if_eq (pc := 3) (tgt := 13) (by decide) dJ0_coder_7d493_3 (fun hb => absurd hb (by decide)) (fun _ => ?_)
  refine kz_aload_n (pc := 6) 0 (v := .retAddr j) (i := 0) rfl rfl rfl dJ0_coder_7d493_6 ?_
  refine kz_sgetf (pc := 7) (v := .int 0) hS.2.1 kw_1061 dJ0_coder_7d493_7 ?_
  refine kz_goto (pc := 10) (tgt := 14) (by decide) dJ0_coder_7d493_10 ?_
  exact kz_zret (pc := 14) (ty := .byte) rfl (by decide) (Nat.le_refl _) (Nat.le_refl _) dJ0_coder_7d493_14 q
theorem kz_lengthL {j : Nat} (hG : kz_stat G) (hS : kz_lit G j) (q : Qr (some (.int (Int32.ofNat (kz_txt j).length))) M) : kz_C G (d + 1) 0 0 mJ0_length_8abf5 [.retAddr j] M Qr Qx := by
  refine kz_enter (n := 0) kmJ0_length_8abf5.1 (Nat.le_of_ble_eq_true rfl) (ls := [(0, .retAddr j)]) rfl ?_
  refine kz_aload_n (pc := 0) 0 (v := .retAddr j) (i := 0) rfl rfl rfl dJ0_length_8abf5_0 ?_
  refine kz_sgetf (pc := 1) (v := .retAddr (j + 1000)) hS.2.2.1 kw_1060 dJ0_length_8abf5_1 ?_
  refine kz_salen (pc := 4) hS.2.2.2 rfl dJ0_length_8abf5_4 ?_
  refine kz_aload_n (pc := 5) 0 (v := .retAddr j) (i := 0) rfl rfl rfl dJ0_length_8abf5_5 ?_
  refine kz_callVO (pc := 6) (As := []) (μ' := mJ0_coder_7d493) (d' := d) (mc' := 0) (ms' := 0) kmJ0_coder_7d493 kw_231 (by omega) rfl (Nat.le_of_ble_eq_true rfl) hS.1 (Nat.le_refl _) (Nat.le_refl _) dJ0_length_8abf5_6 (fun E M9 hx => kz_Tout rfl (Nat.le_refl _) (Nat.le_refl _) hx) (kz_coderL hG hS ?_)
  refine kz_ishr (pc := 9) dJ0_length_8abf5_9 ?_
  refine kz_iret (pc := 10) rfl (Nat.le_refl _) (Nat.le_refl _) dJ0_length_8abf5_10 ?_
  have e : (Int32.ofNat (kz_txt j).length) >>> ((0 : Int32) &&& 31) = Int32.ofNat (kz_txt j).length := by
    rw [show ((0 : Int32) &&& 31) = 0 from by decide]
    apply Int32.toInt_inj.mp
    rw [pk_shr _ 0 0 (by decide)]
    simp
  rw [e]
  exact q
/-- a copy out of a literal's bytes -/
theorem kz_copySB {index j b N n1 : Nat} {f g : Nat → Int32} {sp dp n : Int32} (hw : kz_cpW μ index) (hT9 : va_T .byte (G.2.2.2 j) N (fun k => .int (f k)) (kz_old G) G.2.2.1 G.2.2.1.heap) (hb : M.1 b = some (.inr (.byte, n1, .inl g))) (hfit : ∀ i, i < N → fits .byte (.int (f i)) = true) (h1 : ¬ sp < 0) (h2 : ¬ dp < 0) (h3 : ¬ n < 0) (h4 : sp.toNatClampNeg + n.toNatClampNeg ≤ N) (h5 : dp.toNatClampNeg + n.toNatClampNeg ≤ n1) (hdd : 1 ≤ d) (hst : (st.map fun v => v.category).sum ≤ 8) (hd : decode μ.2.1 pc = .ok (.invokestatic index, 3)) (kk : kz_Z G d mc ms μ Qr Qx (pc + 3) ls st (kz_up M b (.inr (.byte, n1, .inl (va_cpy f g sp.toNatClampNeg dp.toNatClampNeg n.toNatClampNeg)))) c sl) : kz_Z G d mc ms μ Qr Qx pc ls (.int n :: .int dp :: .ref b :: .int sp :: .retAddr j :: st) M c sl := by
  intro p e R s m args below meth cd H locs la hF0 hl hH hL T hT X
  have hF9 := hF0
  obtain ⟨hx, hb2, -, hml, hown, -, -, -, hK, hlow, hR⟩ := hF0
  subst hR
  obtain ⟨c1, g1, f2, f3⟩ := (hH.2.2.1 b _ hb).2
  obtain ⟨scr, t1, t2, t3, t4, t5, t6, t7⟩ := (hT9.moved hK.2.2.2).kept (kz_low hlow)
  have hc0 : H[G.2.2.2 j]? = some scr := by
    rw [(kz_vaS hlow hH hL hT X).2.1 _ (Array.getElem?_eq_some_iff.mp t1).1 t7]
    exact t1
  obtain ⟨hs6, k0, hk0, cm0, hkk0⟩ := t2
  have g1' : H[kz_ad G b]? = some (arrV c1 n1 (fun j => .int (g j))) := g1
  obtain ⟨-, k1, hk1, cm1, hkk1⟩ := arrOfT_moved hK.2.2.2 f2 n1 (fun j => .int (g j))
  have hgd : ∀ i, i < n.toNatClampNeg → scr.slots.getD (sp.toNatClampNeg + i) .null = .int (f (sp.toNatClampNeg + i)) := fun i hi => by
    rw [Array.getD_eq_getD_getElem?, t6 _ (by omega)]
    rfl
  obtain ⟨vm', X', stp⟩ := X.arraycopy hx hown (hK.1 _ hw.1 rfl args) (hK.1 _ hw.2.1 rfl args) (hK.1 _ hw.2.2.1 rfl args) (hK.1 _ hw.2.2.2 rfl args) (src := G.2.2.2 j) (dst := kz_ad G b) (cs := scr) (cd := arrV c1 n1 (fun j => .int (g j))) (srcPos := sp) (destPos := dp) (n := n) (by rw [hT]; exact hc0) (by rw [hT]; exact g1')
    hs6 (fun _ h => by cases h) t3 (fun h => by cases h) hk0 hk1 hkk0 hkk1 (by simp) h1 h2 h3
    (by rw [kz_nn h1, kz_nn h3]; omega) (by rw [kz_nn h2, kz_nn h3, arrV_size]; omega)
    (fun vm₁ hal i hi => by
      rw [hgd i hi]
      exact ⟨hfit _ (by omega), trivial⟩)
    (g := F0 m pc la (.int n :: .int dp :: .ref (kz_ad G b) :: .int sp :: .ref (G.2.2.2 j) :: st.map (kz_v G))) rfl (hl.1.trans hml.symm) (rest := st.map (kz_v G)) rfl (by rw [hb2]; exact hd) hdd (by have h28 : nativeFrameWords "java/lang/System" "arraycopy" 5 + 11 ≤ 28 := (by decide +kernel); show 2 * 0 + _ + _ ≤ 37 * d; rw [kz_cat0]; omega)
  rw [show copied scr (arrV c1 n1 (fun j => .int (g j))) sp dp n = arrV c1 n1 (fun j => .int (va_cpy f g sp.toNatClampNeg dp.toNatClampNeg n.toNatClampNeg j)) from va_copiedX (fun z => .int z) scr c1 f g t6 h4] at X' stp
  have hlt : kz_ad G b < T.heap.size := by rw [hT]; exact (Array.getElem?_eq_some_iff.mp g1').1
  obtain ⟨t, a1, b1⟩ := kk p e _ s m args below meth cd ((T.setVm vm').setCell (kz_ad G b) (arrV c1 n1 (fun j => .int (va_cpy f g sp.toNatClampNeg dp.toNatClampNeg n.toNatClampNeg j)))).heap _ la hF9 hl (hH.put hb ⟨c1, (heapAt_setCell_self (s := T.setVm vm') _ hlt), f2, f3⟩ (by rw [size_setCell]; exact congrArg Array.size hT) (fun q hq => by rw [heapAt_setCell_ne _ (Ne.symm hq)]; exact congrArg (fun (h : Heap) => h[q]?) hT)) (fun q hq => by
      rcases List.mem_append.mp hq with h | h
      · exact hL q h
      · obtain ⟨z, -, hz⟩ := List.mem_map.mp h
        rw [← hz]
        exact kz_ad_le G b) _ rfl X'
  exact ⟨t, stp t a1, b1⟩
/-- a copy of a row of objects -/
theorem kz_copyO {index a b n0 n1 : Nat} {E : String} {f g : Nat → Option Nat} {sp dp n : Int32} (hw : kz_cpW μ index) (ha : M.1 a = some (.inr (.object E, n0, .inr (.inr (.inr (.inr f)))))) (hb : M.1 b = some (.inr (.object E, n1, .inr (.inr (.inr (.inr g)))))) (hel : ∀ i, i < n0 → ∀ y, f i = some y → ∃ ci q fs, vwCl[ci]? = some q ∧ Cond.castable q.1 E ∈ lw_tbl ∧ M.1 y = some (.inl (ci, fs))) (h1 : ¬ sp < 0) (h2 : ¬ dp < 0) (h3 : ¬ n < 0) (h4 : sp.toNatClampNeg + n.toNatClampNeg ≤ n0) (h5 : dp.toNatClampNeg + n.toNatClampNeg ≤ n1) (hdd : 1 ≤ d) (hst : (st.map fun v => v.category).sum ≤ 8) (hd : decode μ.2.1 pc = .ok (.invokestatic index, 3)) (kk : kz_Z G d mc ms μ Qr Qx (pc + 3) ls st (kz_up M b (.inr (.object E, n1, .inr (.inr (.inr (.inr (va_cpy f g sp.toNatClampNeg dp.toNatClampNeg n.toNatClampNeg))))))) c sl) : kz_Z G d mc ms μ Qr Qx pc ls (.int n :: .int dp :: .ref b :: .int sp :: .ref a :: st) M c sl := by
  intro p e R s m args below meth cd H locs la hF0 hl hH hL
  obtain ⟨c0, g1, g2, g3⟩ := (hH.2.2.1 a _ ha).2
  obtain ⟨c1, f1, f2, f3⟩ := (hH.2.2.1 b _ hb).2
  obtain ⟨kA, comp, u1, u2, u3, u4⟩ := g3
  have g3 : va_RA G.2.2.1 c0 (.object E) := ⟨kA, comp, u1, u2, u3, u4⟩
  have same : ∀ c9, va_RA G.2.2.1 c9 (.object E) → c9 = c0 := fun c9 h => by
    obtain ⟨kB, comp2, v1, v2, v3, v4⟩ := h
    exact Option.some.inj (v4.symm.trans u4)
  have ec : c1 = c0 := same c1 f3
  subst ec
  refine kz_copyV (G := G) (x0 := (n0, .inr (.inr (.inr (.inr f))))) (V0 := fun j => va_rf ((f j).map (kz_ad G))) (V1 := fun j => va_rf ((g j).map (kz_ad G))) (F := .inr (.object E, n1, .inr (.inr (.inr (.inr (va_cpy f g sp.toNatClampNeg dp.toNatClampNeg n.toNatClampNeg)))))) hw (fun H9 hH9 => ?_) (fun H9 hH9 => ?_) g2 g2 h1 h2 h3 h4 h5 (fun s T vm' cm k hK9 hH9 hal hk hkk i hi => ?_) hb (fun H1 h9 => ⟨c1, ?_, g2, g3⟩) hdd hst hd kk p e R s m args below meth cd H locs la hF0 hl hH hL
  · obtain ⟨c9, q1, -, q3⟩ := (hH9.2.2.1 a _ ha).2
    have := same c9 q3
    subst this
    exact q1
  · obtain ⟨c9, q1, -, q3⟩ := (hH9.2.2.1 b _ hb).2
    have := same c9 q3
    subst this
    exact q1
  · cases hy : f (sp.toNatClampNeg + i) with
    | none => exact ⟨rfl, trivial⟩
    | some y =>
      obtain ⟨ci, q, fs, hc, hca, hfs⟩ := hel _ (by omega) y hy
      obtain ⟨r, r1, cell, q1, q2, q3, -⟩ := (hH9.2.2.1 y _ hfs).2
      have hr : r = q := Option.some.inj (r1.symm.trans hc)
      subst hr
      have hcls := (hK9.2.1.1 ci r hc).2
      obtain ⟨kA2, comp2, w1, w2, w3, -⟩ := g3.moved hK9.2.2.2
      cases hk.symm.trans w1
      cases hkk.symm.trans w2
      obtain ⟨c2, t2, z1, z2, z3⟩ := Cond.castable_spec (hK9.1 _ hca rfl #[])
      cases hcls.1.symm.trans z1
      cases w3.symm.trans z2
      obtain ⟨kC, hkC, -⟩ := hcls.2
      obtain ⟨kE, hkE, -⟩ := Vm.findClass_spec w3
      obtain ⟨kC', hkC', -⟩ := hal.2.2 _ _ hkC
      obtain ⟨kE', hkE', -⟩ := hal.2.2 _ _ hkE
      refine ⟨rfl, cell, q1, (fun z h => by rw [q3] at h; cases h), ⟨kC', by rw [q2]; exact hkC'⟩, ⟨kE', hkE'⟩, ?_⟩
      show vm'.assignable _ _ = true
      rw [hal.assignable, q2]
      exact z3
  · refine h9.trans (congrArg some (congrArg (arrV c1 n1) (funext fun j => ?_) : arrV c1 n1 _ = arrV c1 n1 (fun j => va_rf ((va_cpy f g sp.toNatClampNeg dp.toNatClampNeg n.toNatClampNeg j).map (kz_ad G)))))
    simp only [va_cpy]
    split <;> rfl
/-- a private field of a nest mate is written -/
theorem kz_putfN {a ci k index : Nat} {q : vw_C} {ty : Nat → FieldType} {fs : List Value} {v : Value} {host : String} (hC : kz_cl ci q ty) (he : M.1 a = some (.inl (ci, fs))) (hk : k < q.2.2) (hlen : k < fs.length) (hw : Cond.fieldLinkNest μ.1.cls index (q.2.1 k).1 (q.2.1 k).2.1 (q.2.1 k).2.2.1 host ∈ lw_tbl) (hfin : (q.2.1 k).2.2.2 = false) (hn : narrow (ty k) (kz_v G v) = kz_v G v) (hfit : fits (ty k) (kz_v G v) = true) (hd : decode μ.2.1 pc = .ok (.putfield index, 3)) (kk : kz_Z G d mc ms μ Qr Qx (pc + 3) ls st (kz_up M a (.inl (ci, fs.set k v))) c sl) : kz_Z G d mc ms μ Qr Qx pc ls (v :: .ref a :: st) M c sl := by
  intro p e R s m args below meth cd H locs la hF hl hH hL
  have hF0 := hF
  obtain ⟨hx, hb, -, -, hown, -, hnm, -, hK, -⟩ := hF
  have hat := (hH.2.2.1 a _ he).2
  have hts : ∀ w ∈ u_ws q.1 q.2.1 q.2.2, w.before args s = true := fun w hw => hK.1 w (hC.2.1 w hw).1 (hC.2.1 w hw).2 args
  have hin : ∀ w ∈ u_ws q.1 q.2.1 q.2.2, w ∈ u_ws q.1 q.2.1 q.2.2 := fun w hw => hw
  have hap := va_apart (own := μ.1.cls) hts hin ty hC.2.2.1 hC.2.2.2 hK.2.1 hC.1
  obtain ⟨r, h1, cell, q1, q2, q3, q4⟩ := hat
  have hr : r = q := Option.some.inj (h1.symm.trans hC.1)
  subst hr
  obtain ⟨hS, hfc, kC, hkC, hkind⟩ := hK.2.1.1 ci _ hC.1
  obtain ⟨cf, kf, fi, f, hi, hsl⟩ := hS k hk
  have hlay := hts _ (hin _ (u_in_lay hk))
  unfold u_lay at hlay
  have hst := (u_facts hfc hkC (u_lays hts hin hk) hi).1
  have hlm : k < (fs.map (kz_v G)).length := by rw [List.length_map]; exact hlen
  rw [if_neg (by rw [hfin]; decide)] at hlay
  have h6 := u_store hfc hkC hkind hlay hi (hC.2.2.1 k hk) hn hfit
  refine va_WputK hx hb (f := f) hown (hK.1 _ hw rfl args) hi hst (by rw [q2]; exact h6) q1 q3 (by rw [hsl]; exact k2_hasslot (q4 k hk)) rfl rfl hd fun H' e1 e2 e3 => ?_
  rw [hsl] at e1 ⊢
  refine kk p e R s m args below meth cd H' _ la hF0 hl (hH.put he (e := .inl (ci, fs.set k v)) ?_ e2 e3) (fun x hx => ?_)
  · refine ⟨_, hC.1, t_OB.to (V := updV (vp_V (fs.map (kz_v G))) k (kz_v G v)) ⟨_, e1, q2, q3, t_set q4 hap hk (kz_v G v)⟩ (fun j _ => ?_)⟩
    rw [List.map_set]
    exact vp_updV_set hlm (kz_v G v) j
  · rcases List.mem_append.mp hx with h | h
    · exact hL x h
    · rw [List.mem_singleton.mp h]
      exact Nat.le_add_right _ _
/-- a row's cell may be told apart by what stands behind its end -/
theorem kz_tag {a n : Nat} {f f' : Nat → Int32} (hn : ∀ i, i < n → f' i = f i) (he : M.1 a = some (.inr (.int, n, .inl f))) (kk : kz_Z G d mc ms μ Qr Qx pc ls st (kz_up M a (.inr (.int, n, .inl f'))) c sl) : kz_Z G d mc ms μ Qr Qx pc ls st M c sl := by
  intro p e R s m args below meth cd H locs la hF hl hH hL
  refine kk p e R s m args below meth cd H locs la hF hl (hH.put he ?_ rfl (fun _ _ => rfl)) hL
  obtain ⟨cA, g1, g2, g3⟩ := (hH.2.2.1 a _ he).2
  refine ⟨cA, ?_, g2, g3⟩
  rw [g1]
  show some (arrV cA n (fun j => .int (f j))) = some (arrV cA n (fun j => .int (f' j)))
  unfold arrV
  congr 2
  congr 1
  funext i
  show Value.int (f i.val) = Value.int (f' i.val)
  rw [hn i.val i.isLt]
end KZ9
