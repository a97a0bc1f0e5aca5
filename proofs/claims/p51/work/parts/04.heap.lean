/-! Part 04: rows of the judgement for the heap, and a method's ends -/
def kz_up (M : kz_M) (a : Nat) (e : kz_E) : kz_M := (fun j => if j = a then some e else M.1 j, M.2)
def kz_nw (M : kz_M) (e : kz_E) : kz_M := (fun j => if j = M.2 then some e else M.1 j, M.2 + 1)
theorem kz_at.kept {G : kz_G} {k : Nat} {e : kz_E} {H H1 : Heap} (h : kz_at G k e H) (hq : H1[kz_ad G k]? = H[kz_ad G k]?) : kz_at G k e H1 := by
  cases e with
  | inl o =>
    obtain ⟨r, h1, h2⟩ := h
    exact ⟨r, h1, h2.kept hq⟩
  | inr a =>
    obtain ⟨cA, h1, h2⟩ := h
    exact ⟨cA, by rw [hq]; exact h1, h2⟩
theorem kz_H.sz {G : kz_G} {M : kz_M} {H : Heap} (h : kz_H G M H) : H.size = kz_ad G M.2 := h.1.trans (kz_ad_top h.2.2.2).symm
theorem kz_H.put {G : kz_G} {M : kz_M} {H H1 : Heap} {a : Nat} {e0 e : kz_E} (h : kz_H G M H) (he : M.1 a = some e0) (e1 : kz_at G a e H1) (z : H1.size = H.size) (oq : ∀ q, q ≠ kz_ad G a → H1[q]? = H[q]?) : kz_H G (kz_up M a e) H1 := by
  obtain ⟨h1, h2, h3, h4⟩ := h
  refine ⟨z.trans h1, fun q hq => (oq q (by have := kz_ad_le G a; omega)).trans (h2 q hq), fun k e2 hk => ?_, h4⟩
  have hk' : (if k = a then some e else M.1 k) = some e2 := hk
  by_cases hka : k = a
  · rw [if_pos hka] at hk'
    cases hk'
    subst hka
    exact ⟨(h3 k e0 he).1, e1⟩
  · rw [if_neg hka] at hk'
    exact ⟨(h3 k e2 hk').1, (h3 k e2 hk').2.kept (oq _ (fun z => hka (kz_ad_inj z)))⟩
theorem kz_H.new {G : kz_G} {M : kz_M} {H H1 : Heap} {e : kz_E} (h : kz_H G M H) (e1 : kz_at G M.2 e H1) (z : H1.size = H.size + 1) (oq : ∀ q, q < H.size → H1[q]? = H[q]?) : kz_H G (kz_nw M e) H1 := by
  obtain ⟨h1, h2, h3, h4⟩ := h
  refine ⟨by show H1.size = _ + (M.2 + 1); omega, fun q hq => (oq q (by omega)).trans (h2 q hq), fun k e2 hk => ?_, h4.mono (Nat.le_succ _)⟩
  have hk' : (if k = M.2 then some e else M.1 k) = some e2 := hk
  by_cases hka : k = M.2
  · rw [if_pos hka] at hk'
    cases hk'
    subst hka
    exact ⟨by show M.2 < M.2 + 1; omega, e1⟩
  · rw [if_neg hka] at hk'
    have h5 := h3 k e2 hk'
    exact ⟨by show k < M.2 + 1; omega, h5.2.kept (oq _ (by have := kz_ad_lt h4 h5.1; omega))⟩
theorem kz_H.gap {G : kz_G} {M : kz_M} {H H1 : Heap} (h : kz_H G M H) (z : H.size ≤ H1.size) (oq : ∀ q, q < H.size → H1[q]? = H[q]?) : kz_H G (M.1, M.2 + (H1.size - H.size)) H1 := by
  obtain ⟨h1, h2, h3, h4⟩ := h
  refine ⟨by show H1.size = _ + (M.2 + (H1.size - H.size)); omega, fun q hq => (oq q (by omega)).trans (h2 q hq), fun k e2 hk => ?_, h4.mono (Nat.le_add_right _ _)⟩
  have h5 := h3 k e2 hk
  exact ⟨by show k < M.2 + (H1.size - H.size); omega, h5.2.kept (oq _ (by have := kz_ad_lt h4 h5.1; omega))⟩
/-- a class of objects: its number, name, fields, their number; its fields' types; its words -/
def kz_cl (ci : Nat) (q : vw_C) (ty : Nat → FieldType) : Prop := vwCl[ci]? = some q ∧ (∀ w ∈ u_ws q.1 q.2.1 q.2.2, w ∈ lw_tbl ∧ kz_ok w = true) ∧ (∀ k, k < q.2.2 → parseFieldDescriptor (q.2.1 k).2.2.1 = some (ty k)) ∧ ∀ a, a < q.2.2 → ∀ b, b < q.2.2 → a ≠ b → (q.2.1 a).2.1 ≠ (q.2.1 b).2.1
def kz_rf (r : Option Nat) : Value := match r with
  | none => .null
  | some a => .ref a
theorem kz_rf_v (G : kz_G) (r : Option Nat) : kz_v G (kz_rf r) = va_rf (r.map (kz_ad G)) := by cases r <;> rfl
theorem kz_arrK {G : kz_G} {s : State} {cA : ClassId} {ty : FieldType} (h : kz_K G s) (h1 : ArrOfT G.2.2.1 cA ty) (h2 : va_RA G.2.2.1 cA ty) : va_K G.2.1 vwCl [(cA, ty)] s :=
  ⟨h.2.1.1, fun k q hk => by
    cases k with
    | zero => cases hk; exact ⟨arrOfT_moved h.2.2.2 h1, h2.moved h.2.2.2⟩
    | succ k => cases hk⟩
theorem kz_one {D : va_G} {q : Nat × va_E} {H : Heap} (h : va_at D vwCl q H) : va_P D vwCl [q] H := fun k x hk => by
  cases k with
  | zero => cases hk; exact h
  | succ k => cases hk
section KZH
variable {G : kz_G} {d mc ms : Nat} {μ : kz_Y} {Qr : Option Value → kz_M → Prop} {Qx : String → kz_M → Prop} {pc : Nat} {ls : List (Nat × Value)} {st : List Value} {M : kz_M} {c sl : Nat}
theorem kz_getf {a ci k index : Nat} {q : vw_C} {ty : Nat → FieldType} {fs : List Value} {v : Value} (hC : kz_cl ci q ty) (he : M.1 a = some (.inl (ci, fs))) (hv : fs[k]? = some v) (hk : k < q.2.2) (hw : Cond.fieldLink μ.1.cls index (q.2.1 k).1 (q.2.1 k).2.1 (q.2.1 k).2.2.1 ∈ lw_tbl) (hd : decode μ.2.1 pc = .ok (.getfield index, 3)) (kk : kz_Z G d mc ms μ Qr Qx (pc + 3) ls (v :: st) M c sl) : kz_Z G d mc ms μ Qr Qx pc ls (.ref a :: st) M c sl := by
  intro p e R s m args below meth cd H locs la hF hl hH hL
  have kk := kk p e R s m args below meth cd H locs la hF hl hH hL
  obtain ⟨hx, hb, -, -, hown, -, -, -, hK, -⟩ := hF
  have hat := (hH.2.2.1 a _ he).2
  refine va_get (Ts := u_ws q.1 q.2.1 q.2.2) hx hb (fun w hw => hK.1 w (hC.2.1 w hw).1 (hC.2.1 w hw).2 args) (fun w hw => hw) hown hK.2.1 (kz_one (q := (kz_ad G a, .inr (ci, fs.map (kz_v G)))) hat) 0 rfl hC.1 k hk (hK.1 _ hw rfl args) (fun x hx => hx) (v := kz_v G v) (by rw [List.getElem?_map, hv]; rfl) hd kk
theorem kz_getfN {a ci k index : Nat} {q : vw_C} {ty : Nat → FieldType} {fs : List Value} {v : Value} {host : String} (hC : kz_cl ci q ty) (he : M.1 a = some (.inl (ci, fs))) (hv : fs[k]? = some v) (hk : k < q.2.2) (hw : Cond.fieldLinkNest μ.1.cls index (q.2.1 k).1 (q.2.1 k).2.1 (q.2.1 k).2.2.1 host ∈ lw_tbl) (hd : decode μ.2.1 pc = .ok (.getfield index, 3)) (kk : kz_Z G d mc ms μ Qr Qx (pc + 3) ls (v :: st) M c sl) : kz_Z G d mc ms μ Qr Qx pc ls (.ref a :: st) M c sl := by
  intro p e R s m args below meth cd H locs la hF hl hH hL
  have kk := kk p e R s m args below meth cd H locs la hF hl hH hL
  obtain ⟨hx, hb, -, -, hown, -, -, -, hK, -⟩ := hF
  have hat := (hH.2.2.1 a _ he).2
  refine va_getN (Ts := u_ws q.1 q.2.1 q.2.2) hx hb (fun w hw => hK.1 w (hC.2.1 w hw).1 (hC.2.1 w hw).2 args) (fun w hw => hw) hown hK.2.1 (kz_one (q := (kz_ad G a, .inr (ci, fs.map (kz_v G)))) hat) 0 rfl hC.1 k hk (hK.1 _ hw rfl args) (fun x hx => hx) (v := kz_v G v) (by rw [List.getElem?_map, hv]; rfl) hd kk
theorem kz_putf {a ci k index : Nat} {q : vw_C} {ty : Nat → FieldType} {fs : List Value} {v : Value} (hC : kz_cl ci q ty) (he : M.1 a = some (.inl (ci, fs))) (hk : k < q.2.2) (hlen : k < fs.length) (hw : Cond.fieldLink μ.1.cls index (q.2.1 k).1 (q.2.1 k).2.1 (q.2.1 k).2.2.1 ∈ lw_tbl) (hfin : (q.2.1 k).2.2.2 = false) (hn : narrow (ty k) (kz_v G v) = kz_v G v) (hfit : fits (ty k) (kz_v G v) = true) (hd : decode μ.2.1 pc = .ok (.putfield index, 3)) (kk : kz_Z G d mc ms μ Qr Qx (pc + 3) ls st (kz_up M a (.inl (ci, fs.set k v))) c sl) : kz_Z G d mc ms μ Qr Qx pc ls (v :: .ref a :: st) M c sl := by
  intro p e R s m args below meth cd H locs la hF hl hH hL
  have hF0 := hF
  obtain ⟨hx, hb, -, -, hown, -, hnm, -, hK, -⟩ := hF
  have hat := (hH.2.2.1 a _ he).2
  have hts : ∀ w ∈ u_ws q.1 q.2.1 q.2.2, w.before args s = true := fun w hw => hK.1 w (hC.2.1 w hw).1 (hC.2.1 w hw).2 args
  have hin : ∀ w ∈ u_ws q.1 q.2.1 q.2.2, w ∈ u_ws q.1 q.2.1 q.2.2 := fun w hw => hw
  have hap := va_apart (own := μ.1.cls) hts hin ty hC.2.2.1 hC.2.2.2 hK.2.1 hC.1
  obtain ⟨r, h1, cell, q1, q2, q3, q4⟩ := hat
  have hr : r = q := Option.some.inj (h1.symm.trans hC.1)
  subst hr
  obtain ⟨hS, hfc, kC, hkC, hkind⟩ := hK.2.1.1 ci _ hC.1
  obtain ⟨cf, kf, fi, f, hi, hsl⟩ := hS k hk
  have hlay := hts _ (hin _ (u_in_lay hk))
  unfold u_lay at hlay
  have hst := (u_facts hfc hkC (u_lays hts hin hk) hi).1
  have hlm : k < (fs.map (kz_v G)).length := by rw [List.length_map]; exact hlen
  rw [if_neg (by rw [hfin]; decide)] at hlay
  have h6 := u_store hfc hkC hkind hlay hi (hC.2.2.1 k hk) hn hfit
  refine W.putK hx hb (f := f) ⟨hown, hK.1 _ hw rfl args, ⟨_, _, _, hi⟩, hst⟩ (by rw [q2]; exact h6) q1 q3 (by rw [hsl]; exact k2_hasslot (q4 k hk)) rfl rfl hd fun H' e1 e2 e3 => ?_
  rw [hsl] at e1 ⊢
  refine kk p e R s m args below meth cd H' _ la hF0 hl (hH.put he (e := .inl (ci, fs.set k v)) ?_ e2 e3) (fun x hx => ?_)
  · refine ⟨_, hC.1, t_OB.to (V := updV (vp_V (fs.map (kz_v G))) k (kz_v G v)) ⟨_, e1, q2, q3, t_set q4 hap hk (kz_v G v)⟩ (fun j _ => ?_)⟩
    rw [List.map_set]
    exact vp_updV_set hlm (kz_v G v) j
  · rcases List.mem_append.mp hx with h | h
    · exact hL x h
    · rw [List.mem_singleton.mp h]
      exact Nat.le_add_right _ _
theorem kz_putF {a ci k index : Nat} {q : vw_C} {ty : Nat → FieldType} {fs : List Value} {v : Value} (hC : kz_cl ci q ty) (he : M.1 a = some (.inl (ci, fs))) (hk : k < q.2.2) (hlen : k < fs.length) (hin2 : μ.1.name = "<init>") (hdecl : (q.2.1 k).1 = μ.1.cls) (hw : Cond.fieldLink μ.1.cls index (q.2.1 k).1 (q.2.1 k).2.1 (q.2.1 k).2.2.1 ∈ lw_tbl) (hfin : (q.2.1 k).2.2.2 = true) (hn : narrow (ty k) (kz_v G v) = kz_v G v) (hfit : fits (ty k) (kz_v G v) = true) (hd : decode μ.2.1 pc = .ok (.putfield index, 3)) (kk : kz_Z G d mc ms μ Qr Qx (pc + 3) ls st (kz_up M a (.inl (ci, fs.set k v))) c sl) : kz_Z G d mc ms μ Qr Qx pc ls (v :: .ref a :: st) M c sl := by
  intro p e R s m args below meth cd H locs la hF hl hH hL
  have hF0 := hF
  obtain ⟨hx, hb, -, -, hown, -, hnm, -, hK, -⟩ := hF
  have hat := (hH.2.2.1 a _ he).2
  have hts : ∀ w ∈ u_ws q.1 q.2.1 q.2.2, w.before args s = true := fun w hw => hK.1 w (hC.2.1 w hw).1 (hC.2.1 w hw).2 args
  have hin : ∀ w ∈ u_ws q.1 q.2.1 q.2.2, w ∈ u_ws q.1 q.2.1 q.2.2 := fun w hw => hw
  have hap := va_apart (own := μ.1.cls) hts hin ty hC.2.2.1 hC.2.2.2 hK.2.1 hC.1
  obtain ⟨r, h1, cell, q1, q2, q3, q4⟩ := hat
  have hr : r = q := Option.some.inj (h1.symm.trans hC.1)
  subst hr
  obtain ⟨hS, hfc, kC, hkC, hkind⟩ := hK.2.1.1 ci _ hC.1
  obtain ⟨cf, kf, fi, f, hi, hsl⟩ := hS k hk
  have hlay := hts _ (hin _ (u_in_lay hk))
  unfold u_lay at hlay
  have hst := (u_facts hfc hkC (u_lays hts hin hk) hi).1
  have hlm : k < (fs.map (kz_v G)).length := by rw [List.length_map]; exact hlen
  rw [if_pos hfin] at hlay
  have hcf : m.cls = cf := by
    obtain ⟨_, _, c', _, _, _, -, -, hf', -, -, -, hown2, -⟩ := Cond.laysFinal_spec hlay
    have e1 : c' = cf := by have := hi.symm.trans hf'; simp at this; exact this.1.symm
    rw [hdecl] at hown2
    rw [← e1]; exact Option.some.inj (hown.symm.trans hown2)
  have h6 := u_fits hfc hkC hkind (Or.inr hlay) hi (hC.2.2.1 k hk) hn hfit
  refine W.putFinK hx hb hown (hK.1 _ hw rfl args) hi hst hcf (hnm.trans hin2) (by rw [q2]; exact h6) q1 q3 (by rw [hsl]; exact k2_hasslot (q4 k hk)) rfl rfl hd fun H' e1 e2 e3 => ?_
  rw [hsl] at e1 ⊢
  refine kk p e R s m args below meth cd H' _ la hF0 hl (hH.put he (e := .inl (ci, fs.set k v)) ?_ e2 e3) (fun x hx => ?_)
  · refine ⟨_, hC.1, t_OB.to (V := updV (vp_V (fs.map (kz_v G))) k (kz_v G v)) ⟨_, e1, q2, q3, t_set q4 hap hk (kz_v G v)⟩ (fun j _ => ?_)⟩
    rw [List.map_set]
    exact vp_updV_set hlm (kz_v G v) j
  · rcases List.mem_append.mp hx with h | h
    · exact hL x h
    · rw [List.mem_singleton.mp h]
      exact Nat.le_add_right _ _
theorem kz_iald {a n : Nat} {f : Nat → Int32} {i : Int32} (he : M.1 a = some (.inr (.int, n, .inl f))) (hin : vp_in i n) (hd : decode μ.2.1 pc = .ok (.iaload, 1)) (kk : kz_Z G d mc ms μ Qr Qx (pc + 1) ls (.int (f i.toNatClampNeg) :: st) M c sl) : kz_Z G d mc ms μ Qr Qx pc ls (.int i :: .ref a :: st) M c sl := by
  intro p e R s m args below meth cd H locs la hF hl hH hL
  have kk := kk p e R s m args below meth cd H locs la hF hl hH hL
  obtain ⟨hx, hb, -, -, hown, -, -, -, hK, -⟩ := hF
  obtain ⟨cA, g1, g2, g3⟩ := (hH.2.2.1 a _ he).2
  exact va_iald hx hb (kz_arrK hK g2 g3) (kz_one (D := G.2.1) (q := (kz_ad G a, .inl (cA, n, .inl f))) g1) 0 0 rfl rfl hin hd kk
theorem kz_bald {a n : Nat} {f : Nat → Int32} {i : Int32} (he : M.1 a = some (.inr (.byte, n, .inl f))) (hin : vp_in i n) (hd : decode μ.2.1 pc = .ok (.baload, 1)) (kk : kz_Z G d mc ms μ Qr Qx (pc + 1) ls (.int (f i.toNatClampNeg) :: st) M c sl) : kz_Z G d mc ms μ Qr Qx pc ls (.int i :: .ref a :: st) M c sl := by
  intro p e R s m args below meth cd H locs la hF hl hH hL
  have kk := kk p e R s m args below meth cd H locs la hF hl hH hL
  obtain ⟨hx, hb, -, -, hown, -, -, -, hK, -⟩ := hF
  obtain ⟨cA, g1, g2, g3⟩ := (hH.2.2.1 a _ he).2
  exact va_bald hx hb (kz_arrK hK g2 g3) (kz_one (D := G.2.1) (q := (kz_ad G a, .inl (cA, n, .inl f))) g1) 0 0 rfl rfl hin hd kk
theorem kz_zald {a n : Nat} {f : Nat → Int32} {i : Int32} (he : M.1 a = some (.inr (.boolean, n, .inl f))) (hin : vp_in i n) (hd : decode μ.2.1 pc = .ok (.baload, 1)) (kk : kz_Z G d mc ms μ Qr Qx (pc + 1) ls (.int (f i.toNatClampNeg) :: st) M c sl) : kz_Z G d mc ms μ Qr Qx pc ls (.int i :: .ref a :: st) M c sl := by
  intro p e R s m args below meth cd H locs la hF hl hH hL
  have kk := kk p e R s m args below meth cd H locs la hF hl hH hL
  obtain ⟨hx, hb, -, -, hown, -, -, -, hK, -⟩ := hF
  obtain ⟨cA, g1, g2, g3⟩ := (hH.2.2.1 a _ he).2
  exact va_zald hx hb (kz_arrK hK g2 g3) (kz_one (D := G.2.1) (q := (kz_ad G a, .inl (cA, n, .inl f))) g1) 0 0 rfl rfl hin hd kk
theorem kz_lald {a n : Nat} {f : Nat → Int64} {i : Int32} (he : M.1 a = some (.inr (.long, n, .inr (.inl f)))) (hin : vp_in i n) (hd : decode μ.2.1 pc = .ok (.laload, 1)) (kk : kz_Z G d mc ms μ Qr Qx (pc + 1) ls (.long (f i.toNatClampNeg) :: st) M c sl) : kz_Z G d mc ms μ Qr Qx pc ls (.int i :: .ref a :: st) M c sl := by
  intro p e R s m args below meth cd H locs la hF hl hH hL
  have kk := kk p e R s m args below meth cd H locs la hF hl hH hL
  obtain ⟨hx, hb, -, -, hown, -, -, -, hK, -⟩ := hF
  obtain ⟨cA, g1, g2, g3⟩ := (hH.2.2.1 a _ he).2
  exact va_lald hx hb (kz_arrK hK g2 g3) (kz_one (D := G.2.1) (q := (kz_ad G a, .inl (cA, n, .inr (.inl f)))) g1) 0 0 rfl rfl hin hd kk
theorem kz_dald {a n : Nat} {f : Nat → UInt64} {i : Int32} (he : M.1 a = some (.inr (.double, n, .inr (.inr (.inr (.inl f)))))) (hin : vp_in i n) (hd : decode μ.2.1 pc = .ok (.daload, 1)) (kk : kz_Z G d mc ms μ Qr Qx (pc + 1) ls (.double (f i.toNatClampNeg) :: st) M c sl) : kz_Z G d mc ms μ Qr Qx pc ls (.int i :: .ref a :: st) M c sl := by
  intro p e R s m args below meth cd H locs la hF hl hH hL
  have kk := kk p e R s m args below meth cd H locs la hF hl hH hL
  obtain ⟨hx, hb, -, -, hown, -, -, -, hK, -⟩ := hF
  obtain ⟨cA, g1, g2, g3⟩ := (hH.2.2.1 a _ he).2
  exact va_dald hx hb (kz_arrK hK g2 g3) (kz_one (D := G.2.1) (q := (kz_ad G a, .inl (cA, n, .inr (.inr (.inr (.inl f)))))) g1) 0 0 rfl rfl hin hd kk
theorem kz_aald {a n : Nat} {C : String} {f : Nat → Option Nat} {i : Int32} (he : M.1 a = some (.inr (.object C, n, .inr (.inr (.inr (.inr f)))))) (hin : vp_in i n) (hd : decode μ.2.1 pc = .ok (.aaload, 1)) (kk : kz_Z G d mc ms μ Qr Qx (pc + 1) ls (kz_rf (f i.toNatClampNeg) :: st) M c sl) : kz_Z G d mc ms μ Qr Qx pc ls (.int i :: .ref a :: st) M c sl := by
  intro p e R s m args below meth cd H locs la hF hl hH hL
  have kk := kk p e R s m args below meth cd H locs la hF hl hH hL
  rw [List.map_cons, kz_rf_v] at kk
  obtain ⟨hx, hb, -, -, hown, -, -, -, hK, -⟩ := hF
  obtain ⟨cA, g1, g2, g3⟩ := (hH.2.2.1 a _ he).2
  exact va_aldq hx hb (kz_arrK hK g2 g3) (kz_one (D := G.2.1) (q := (kz_ad G a, .inl (cA, n, .inr (.inr (.inr (.inr (fun j => (f j).map (kz_ad G)))))))) g1) 0 0 rfl rfl hin hd kk
theorem kz_alen {a : Nat} {ty : FieldType} {x : vp_A} {v : Int32} (he : M.1 a = some (.inr (ty, x))) (hv : Int32.ofNat x.1 = v) (hd : decode μ.2.1 pc = .ok (.arraylength, 1)) (kk : kz_Z G d mc ms μ Qr Qx (pc + 1) ls (.int v :: st) M c sl) : kz_Z G d mc ms μ Qr Qx pc ls (.ref a :: st) M c sl := by
  intro p e R s m args below meth cd H locs la hF hl hH hL
  have kk := kk p e R s m args below meth cd H locs la hF hl hH hL
  obtain ⟨hx, hb, -, -, hown, -, -, -, hK, -⟩ := hF
  obtain ⟨cA, g1, g2, g3⟩ := (hH.2.2.1 a _ he).2
  exact va_alen hx hb (kz_arrK hK g2 g3) (kz_one (D := G.2.1) (q := (kz_ad G a, .inl (cA, kz_x G x))) g1) 0 0 rfl rfl hv hd kk
theorem kz_iast {a n : Nat} {f : Nat → Int32} {i : Int32} {x : Int32} (he : M.1 a = some (.inr (.int, n, .inl f))) (hin : vp_in i n) (hd : decode μ.2.1 pc = .ok (.iastore, 1)) (kk : kz_Z G d mc ms μ Qr Qx (pc + 1) ls st (kz_up M a (.inr (.int, n, .inl (upd f i.toNatClampNeg x)))) c sl) : kz_Z G d mc ms μ Qr Qx pc ls (.int x :: .int i :: .ref a :: st) M c sl := by
  intro p e R s m args below meth cd H locs la hF hl hH hL
  have hF0 := hF
  obtain ⟨hx, hb, -, -, hown, -, -, -, hK, -⟩ := hF
  obtain ⟨cA, g1, g2, g3⟩ := (hH.2.2.1 a _ he).2
  refine W.iast hx hb g1 ((kz_arrK hK g2 g3).2 0 _ rfl |>.1 n (fun j => .int (f j))) (fun q => by cases q) (by show ¬ (i < 0 ∨ (arrV _ _ _).slots.size ≤ _); rw [arrV_size]; exact hin) rfl rfl hd fun H1 e1 z oq => ?_
  refine kk p e R s m args below meth cd H1 _ la hF0 hl (hH.put he ?_ z oq) (fun x hx => ?_)
  · refine ⟨cA, ?_, g2, g3⟩
    show H1[_]? = some (vp_cell cA (n, _))
    rw [e1]
    show some (Cell.setSlot (vp_cell cA (n, .inl f)) _ _) = _
    rw [vp_cell_i, vp_cell_i, arrV_store]
    congr 2
    funext q
    by_cases hq : q = i.toNatClampNeg
    · subst hq
      simp [updV, upd]
      try rfl
    · simp [updV, upd, hq]
  · rcases List.mem_append.mp hx with h | h
    · exact hL x h
    · rw [List.mem_singleton.mp h]
      exact Nat.le_add_right _ _
theorem kz_bast {a n : Nat} {f : Nat → Int32} {i : Int32} {x : Int32} (he : M.1 a = some (.inr (.byte, n, .inl f))) (hin : vp_in i n) (hd : decode μ.2.1 pc = .ok (.bastore, 1)) (kk : kz_Z G d mc ms μ Qr Qx (pc + 1) ls st (kz_up M a (.inr (.byte, n, .inl (upd f i.toNatClampNeg (vp_nar .byte x))))) c sl) : kz_Z G d mc ms μ Qr Qx pc ls (.int x :: .int i :: .ref a :: st) M c sl := by
  intro p e R s m args below meth cd H locs la hF hl hH hL
  have hF0 := hF
  obtain ⟨hx, hb, -, -, hown, -, -, -, hK, -⟩ := hF
  obtain ⟨cA, g1, g2, g3⟩ := (hH.2.2.1 a _ he).2
  refine W.bast hx hb g1 ((kz_arrK hK g2 g3).2 0 _ rfl |>.1 n (fun j => .int (f j))) (fun q => by cases q) (by show ¬ (i < 0 ∨ (arrV _ _ _).slots.size ≤ _); rw [arrV_size]; exact hin) rfl rfl hd fun H1 e1 z oq => ?_
  refine kk p e R s m args below meth cd H1 _ la hF0 hl (hH.put he ?_ z oq) (fun x hx => ?_)
  · refine ⟨cA, ?_, g2, g3⟩
    show H1[_]? = some (vp_cell cA (n, _))
    rw [e1]
    show some (Cell.setSlot (vp_cell cA (n, .inl f)) _ _) = _
    rw [vp_cell_i, vp_cell_i, arrV_store]
    congr 2
    funext q
    by_cases hq : q = i.toNatClampNeg
    · subst hq
      simp [updV, upd, vp_nar]
      try rfl
    · simp [updV, upd, vp_nar, hq]
  · rcases List.mem_append.mp hx with h | h
    · exact hL x h
    · rw [List.mem_singleton.mp h]
      exact Nat.le_add_right _ _
theorem kz_zast {a n : Nat} {f : Nat → Int32} {i : Int32} {x : Int32} (he : M.1 a = some (.inr (.boolean, n, .inl f))) (hin : vp_in i n) (hd : decode μ.2.1 pc = .ok (.bastore, 1)) (kk : kz_Z G d mc ms μ Qr Qx (pc + 1) ls st (kz_up M a (.inr (.boolean, n, .inl (upd f i.toNatClampNeg (vp_nar .boolean x))))) c sl) : kz_Z G d mc ms μ Qr Qx pc ls (.int x :: .int i :: .ref a :: st) M c sl := by
  intro p e R s m args below meth cd H locs la hF hl hH hL
  have hF0 := hF
  obtain ⟨hx, hb, -, -, hown, -, -, -, hK, -⟩ := hF
  obtain ⟨cA, g1, g2, g3⟩ := (hH.2.2.1 a _ he).2
  refine W.zast hx hb g1 ((kz_arrK hK g2 g3).2 0 _ rfl |>.1 n (fun j => .int (f j))) (fun q => by cases q) (by show ¬ (i < 0 ∨ (arrV _ _ _).slots.size ≤ _); rw [arrV_size]; exact hin) rfl rfl hd fun H1 e1 z oq => ?_
  refine kk p e R s m args below meth cd H1 _ la hF0 hl (hH.put he ?_ z oq) (fun x hx => ?_)
  · refine ⟨cA, ?_, g2, g3⟩
    show H1[_]? = some (vp_cell cA (n, _))
    rw [e1]
    show some (Cell.setSlot (vp_cell cA (n, .inl f)) _ _) = _
    rw [vp_cell_i, vp_cell_i, arrV_store]
    congr 2
    funext q
    by_cases hq : q = i.toNatClampNeg
    · subst hq
      simp [updV, upd, vp_nar]
      try rfl
    · simp [updV, upd, vp_nar, hq]
  · rcases List.mem_append.mp hx with h | h
    · exact hL x h
    · rw [List.mem_singleton.mp h]
      exact Nat.le_add_right _ _
theorem kz_last {a n : Nat} {f : Nat → Int64} {i : Int32} {x : Int64} (he : M.1 a = some (.inr (.long, n, .inr (.inl f)))) (hin : vp_in i n) (hd : decode μ.2.1 pc = .ok (.lastore, 1)) (kk : kz_Z G d mc ms μ Qr Qx (pc + 1) ls st (kz_up M a (.inr (.long, n, .inr (.inl (vp_updL f i.toNatClampNeg x))))) c sl) : kz_Z G d mc ms μ Qr Qx pc ls (.long x :: .int i :: .ref a :: st) M c sl := by
  intro p e R s m args below meth cd H locs la hF hl hH hL
  have hF0 := hF
  obtain ⟨hx, hb, -, -, hown, -, -, -, hK, -⟩ := hF
  obtain ⟨cA, g1, g2, g3⟩ := (hH.2.2.1 a _ he).2
  refine W.last hx hb g1 ((kz_arrK hK g2 g3).2 0 _ rfl |>.1 n (fun j => .long (f j))) (fun q => by cases q) (by show ¬ (i < 0 ∨ (arrV _ _ _).slots.size ≤ _); rw [arrV_size]; exact hin) rfl rfl hd fun H1 e1 z oq => ?_
  refine kk p e R s m args below meth cd H1 _ la hF0 hl (hH.put he ?_ z oq) (fun x hx => ?_)
  · refine ⟨cA, ?_, g2, g3⟩
    show H1[_]? = some (vp_cell cA (n, _))
    rw [e1]
    show some (Cell.setSlot (vp_cell cA (n, .inr (.inl f))) _ _) = _
    rw [vp_cell_l, vp_cell_l, arrV_store]
    congr 2
    funext q
    by_cases hq : q = i.toNatClampNeg
    · subst hq
      simp [updV, vp_updL]
      try rfl
    · simp [updV, vp_updL, hq]
  · rcases List.mem_append.mp hx with h | h
    · exact hL x h
    · rw [List.mem_singleton.mp h]
      exact Nat.le_add_right _ _
theorem kz_dast {a n : Nat} {f : Nat → UInt64} {i : Int32} {x : UInt64} (he : M.1 a = some (.inr (.double, n, .inr (.inr (.inr (.inl f)))))) (hin : vp_in i n) (hd : decode μ.2.1 pc = .ok (.dastore, 1)) (kk : kz_Z G d mc ms μ Qr Qx (pc + 1) ls st (kz_up M a (.inr (.double, n, .inr (.inr (.inr (.inl (vf_upd f i.toNatClampNeg x))))))) c sl) : kz_Z G d mc ms μ Qr Qx pc ls (.double x :: .int i :: .ref a :: st) M c sl := by
  intro p e R s m args below meth cd H locs la hF hl hH hL
  have hF0 := hF
  obtain ⟨hx, hb, -, -, hown, -, -, -, hK, -⟩ := hF
  obtain ⟨cA, g1, g2, g3⟩ := (hH.2.2.1 a _ he).2
  refine W.dast hx hb g1 ((kz_arrK hK g2 g3).2 0 _ rfl |>.1 n (fun j => .double (f j))) (fun q => by cases q) (by show ¬ (i < 0 ∨ (arrV _ _ _).slots.size ≤ _); rw [arrV_size]; exact hin) rfl rfl hd fun H1 e1 z oq => ?_
  refine kk p e R s m args below meth cd H1 _ la hF0 hl (hH.put he ?_ z oq) (fun x hx => ?_)
  · refine ⟨cA, ?_, g2, g3⟩
    show H1[_]? = some (vp_cell cA (n, _))
    rw [e1]
    show some (Cell.setSlot (vp_cell cA (n, .inr (.inr (.inr (.inl f))))) _ _) = _
    rw [vp_cell_d, vp_cell_d, arrV_store]
    congr 2
    funext q
    by_cases hq : q = i.toNatClampNeg
    · subst hq
      simp [updV, vf_upd]
      try rfl
    · simp [updV, vf_upd, hq]
  · rcases List.mem_append.mp hx with h | h
    · exact hL x h
    · rw [List.mem_singleton.mp h]
      exact Nat.le_add_right _ _
theorem kz_aast {a b n ci : Nat} {r : vw_C} {vs : List Value} {f : Nat → Option Nat} {i : Int32} (hc : vwCl[ci]? = some r) (he : M.1 a = some (.inr (.object r.1, n, .inr (.inr (.inr (.inr f)))))) (hv : M.1 b = some (.inl (ci, vs))) (hin : vp_in i n) (hd : decode μ.2.1 pc = .ok (.aastore, 1)) (kk : kz_Z G d mc ms μ Qr Qx (pc + 1) ls st (kz_up M a (.inr (.object r.1, n, .inr (.inr (.inr (.inr (va_up f i.toNatClampNeg (some b)))))))) c sl) : kz_Z G d mc ms μ Qr Qx pc ls (.ref b :: .int i :: .ref a :: st) M c sl := by
  intro p e R s m args below meth cd H locs la hF hl hH hL
  have hF0 := hF
  obtain ⟨hx, hb, -, -, hown, -, -, -, hK, -⟩ := hF
  obtain ⟨cA, g1, g2, g3⟩ := (hH.2.2.1 a _ he).2
  obtain ⟨r', hr', cellV, f1, f2, f3, -⟩ := (hH.2.2.1 b _ hv).2
  have hlt : i.toNatClampNeg < n := Nat.not_le.mp fun q => hin (Or.inr q)
  have h0 : ¬ i < 0 := fun q => hin (Or.inl q)
  have hcls := (hK.2.1.1 ci r hc).2
  obtain ⟨kA, comp, k1, k2, k3, -⟩ := ((kz_arrK hK g2 g3).2 0 _ rfl).2
  have hcomp : comp = G.2.1.1 ci := Option.some.inj (k3.symm.trans hcls.1)
  subst hcomp
  obtain ⟨kC, hkC, -⟩ := hcls.2
  refine W.aast hx hb g1 (fun q h => by cases h) (fun h => by cases h) k1 k2 rfl hkC ⟨h0, by show _ < (arrV _ _ _).slots.size; rw [arrV_size]; exact hlt⟩ f1 (fun q h => by rw [f3] at h; cases h) (by rw [f2]; exact hkC) (by rw [f2]; exact va_assign hcls) rfl rfl hd fun H1 e1 z oq => ?_
  refine kk p e R s m args below meth cd H1 _ la hF0 hl (hH.put he ?_ z oq) (fun x hx => ?_)
  · refine ⟨cA, ?_, g2, g3⟩
    show H1[_]? = some (vp_cell cA (n, _))
    rw [e1]
    show some (Cell.setSlot (vp_cell cA (n, .inr (.inr (.inr (.inr (fun j => (f j).map (kz_ad G))))))) _ _) = _
    show _ = some (vp_cell cA (n, .inr (.inr (.inr (.inr (fun j => (va_up f i.toNatClampNeg (some b) j).map (kz_ad G)))))))
    rw [vp_cell_q, vp_cell_q, arrV_store]
    congr 2
    funext q
    by_cases hq : q = i.toNatClampNeg
    · subst hq
      simp [updV, va_up, va_rf]
    · simp [updV, va_up, hq]
  · rcases List.mem_append.mp hx with h | h
    · exact hL x h
    · rw [List.mem_singleton.mp h]
      exact Nat.le_add_right _ _
theorem kz_newaI {n : Int32} (N : Nat) (hw : Cond.arrayClass .int ∈ lw_tbl) (hn : ¬ n < 0) (hN : n.toNatClampNeg = N) (hb8 : N ≤ 60000000) (hc : c + 1 ≤ mc) (hs : sl + N ≤ ms) (hd : decode μ.2.1 pc = .ok (.newarray .int, 2)) (kk : kz_Z G d mc ms μ Qr Qx (pc + 2) ls (.ref M.2 :: st) (kz_nw M (.inr (.int, N, .inl (fun _ => 0)))) (c + 1) (sl + N)) : kz_Z G d mc ms μ Qr Qx pc ls (.int n :: st) M c sl := by
  intro p e R s m args below meth cd H locs la hF hl hH hL
  have hF0 := hF
  obtain ⟨hx, hb, -, -, hown, -, -, -, hK, -, hR⟩ := hF
  subst hR
  refine va_newaK hx hb (atype := .int) (hK.1 _ hw rfl args) rfl hd rfl hn hN (by show N * _ ≤ _; simp only [componentBytes, newarray.typeOf]; omega) hc hs hH.sz fun H1 cA e1 z oq hA hfc => ?_
  refine kk p e _ s m args below meth cd H1 locs la hF0 hl (hH.new ⟨cA, e1, ?_, ?_⟩ (by rw [z, hH.sz]) (fun q hq => oq q (by have := hH.sz; omega))) hL
  · exact arrOfT_moved hK.2.2.2.symm hA
  · show G.2.2.1.vm.findClass _ = some cA
    rw [hK.2.2.2.symm.findClass]
    exact hfc
theorem kz_newaB {n : Int32} (N : Nat) (hw : Cond.arrayClass .byte ∈ lw_tbl) (hn : ¬ n < 0) (hN : n.toNatClampNeg = N) (hb8 : N ≤ 60000000) (hc : c + 1 ≤ mc) (hs : sl + N ≤ ms) (hd : decode μ.2.1 pc = .ok (.newarray .byte, 2)) (kk : kz_Z G d mc ms μ Qr Qx (pc + 2) ls (.ref M.2 :: st) (kz_nw M (.inr (.byte, N, .inl (fun _ => 0)))) (c + 1) (sl + N)) : kz_Z G d mc ms μ Qr Qx pc ls (.int n :: st) M c sl := by
  intro p e R s m args below meth cd H locs la hF hl hH hL
  have hF0 := hF
  obtain ⟨hx, hb, -, -, hown, -, -, -, hK, -, hR⟩ := hF
  subst hR
  refine va_newaK hx hb (atype := .byte) (hK.1 _ hw rfl args) rfl hd rfl hn hN (by show N * _ ≤ _; simp only [componentBytes, newarray.typeOf]; omega) hc hs hH.sz fun H1 cA e1 z oq hA hfc => ?_
  refine kk p e _ s m args below meth cd H1 locs la hF0 hl (hH.new ⟨cA, e1, ?_, ?_⟩ (by rw [z, hH.sz]) (fun q hq => oq q (by have := hH.sz; omega))) hL
  · exact arrOfT_moved hK.2.2.2.symm hA
  · show G.2.2.1.vm.findClass _ = some cA
    rw [hK.2.2.2.symm.findClass]
    exact hfc
theorem kz_newaZ {n : Int32} (N : Nat) (hw : Cond.arrayClass .boolean ∈ lw_tbl) (hn : ¬ n < 0) (hN : n.toNatClampNeg = N) (hb8 : N ≤ 60000000) (hc : c + 1 ≤ mc) (hs : sl + N ≤ ms) (hd : decode μ.2.1 pc = .ok (.newarray .boolean, 2)) (kk : kz_Z G d mc ms μ Qr Qx (pc + 2) ls (.ref M.2 :: st) (kz_nw M (.inr (.boolean, N, .inl (fun _ => 0)))) (c + 1) (sl + N)) : kz_Z G d mc ms μ Qr Qx pc ls (.int n :: st) M c sl := by
  intro p e R s m args below meth cd H locs la hF hl hH hL
  have hF0 := hF
  obtain ⟨hx, hb, -, -, hown, -, -, -, hK, -, hR⟩ := hF
  subst hR
  refine va_newaK hx hb (atype := .boolean) (hK.1 _ hw rfl args) rfl hd rfl hn hN (by show N * _ ≤ _; simp only [componentBytes, newarray.typeOf]; omega) hc hs hH.sz fun H1 cA e1 z oq hA hfc => ?_
  refine kk p e _ s m args below meth cd H1 locs la hF0 hl (hH.new ⟨cA, e1, ?_, ?_⟩ (by rw [z, hH.sz]) (fun q hq => oq q (by have := hH.sz; omega))) hL
  · exact arrOfT_moved hK.2.2.2.symm hA
  · show G.2.2.1.vm.findClass _ = some cA
    rw [hK.2.2.2.symm.findClass]
    exact hfc
theorem kz_newaL {n : Int32} (N : Nat) (hw : Cond.arrayClass .long ∈ lw_tbl) (hn : ¬ n < 0) (hN : n.toNatClampNeg = N) (hb8 : N ≤ 60000000) (hc : c + 1 ≤ mc) (hs : sl + N ≤ ms) (hd : decode μ.2.1 pc = .ok (.newarray .long, 2)) (kk : kz_Z G d mc ms μ Qr Qx (pc + 2) ls (.ref M.2 :: st) (kz_nw M (.inr (.long, N, .inr (.inl (fun _ => 0))))) (c + 1) (sl + N)) : kz_Z G d mc ms μ Qr Qx pc ls (.int n :: st) M c sl := by
  intro p e R s m args below meth cd H locs la hF hl hH hL
  have hF0 := hF
  obtain ⟨hx, hb, -, -, hown, -, -, -, hK, -, hR⟩ := hF
  subst hR
  refine va_newaK hx hb (atype := .long) (hK.1 _ hw rfl args) rfl hd rfl hn hN (by show N * _ ≤ _; simp only [componentBytes, newarray.typeOf]; omega) hc hs hH.sz fun H1 cA e1 z oq hA hfc => ?_
  refine kk p e _ s m args below meth cd H1 locs la hF0 hl (hH.new ⟨cA, e1, ?_, ?_⟩ (by rw [z, hH.sz]) (fun q hq => oq q (by have := hH.sz; omega))) hL
  · exact arrOfT_moved hK.2.2.2.symm hA
  · show G.2.2.1.vm.findClass _ = some cA
    rw [hK.2.2.2.symm.findClass]
    exact hfc
theorem kz_newaD {n : Int32} (N : Nat) (hw : Cond.arrayClass .double ∈ lw_tbl) (hn : ¬ n < 0) (hN : n.toNatClampNeg = N) (hb8 : N ≤ 60000000) (hc : c + 1 ≤ mc) (hs : sl + N ≤ ms) (hd : decode μ.2.1 pc = .ok (.newarray .double, 2)) (kk : kz_Z G d mc ms μ Qr Qx (pc + 2) ls (.ref M.2 :: st) (kz_nw M (.inr (.double, N, .inr (.inr (.inr (.inl (fun _ => 0))))))) (c + 1) (sl + N)) : kz_Z G d mc ms μ Qr Qx pc ls (.int n :: st) M c sl := by
  intro p e R s m args below meth cd H locs la hF hl hH hL
  have hF0 := hF
  obtain ⟨hx, hb, -, -, hown, -, -, -, hK, -, hR⟩ := hF
  subst hR
  refine va_newaK hx hb (atype := .double) (hK.1 _ hw rfl args) rfl hd rfl hn hN (by show N * _ ≤ _; simp only [componentBytes, newarray.typeOf]; omega) hc hs hH.sz fun H1 cA e1 z oq hA hfc => ?_
  refine kk p e _ s m args below meth cd H1 locs la hF0 hl (hH.new ⟨cA, e1, ?_, ?_⟩ (by rw [z, hH.sz]) (fun q hq => oq q (by have := hH.sz; omega))) hL
  · exact arrOfT_moved hK.2.2.2.symm hA
  · show G.2.2.1.vm.findClass _ = some cA
    rw [hK.2.2.2.symm.findClass]
    exact hfc
theorem kz_anew {n : Int32} {C : String} {index : Nat} (N : Nat) (hw : Cond.classLink μ.1.cls index C ∈ lw_tbl) (ho : Cond.arrayOver (.object C) ∈ lw_tbl) (hn : ¬ n < 0) (hN : n.toNatClampNeg = N) (hb8 : N ≤ 60000000) (hc : c + 1 ≤ mc) (hs : sl + N ≤ ms) (hd : decode μ.2.1 pc = .ok (.anewarray index, 3)) (kk : kz_Z G d mc ms μ Qr Qx (pc + 3) ls (.ref M.2 :: st) (kz_nw M (.inr (.object C, N, .inr (.inr (.inr (.inr (fun _ => none))))))) (c + 1) (sl + N)) : kz_Z G d mc ms μ Qr Qx pc ls (.int n :: st) M c sl := by
  intro p e R s m args below meth cd H locs la hF hl hH hL
  have hF0 := hF
  obtain ⟨hx, hb, -, -, hown, -, -, -, hK, -, hR⟩ := hF
  subst hR
  subst hN
  have hsz := hH.sz
  refine W.anew hx hb hown (hK.1 _ hw rfl args) (va_AO.use (hK.2.2.1.1.1 C ho)) rfl hd rfl hn (by omega) hc hs fun cA kA comp f1 f2 f3 f4 => ?_
  generalize hH1 : H.push ({ cls := cA, slots := Array.replicate n.toNatClampNeg .null, vm := .none } : Cell) = H1
  have z1 : H1.size = H.size + 1 := by rw [← hH1, Array.size_push]
  have e1 : H1[H.size]? = some (arrV cA n.toNatClampNeg (fun _ => .null)) := by rw [← hH1, Array.getElem?_push_size, ← arrV_new]
  have o1 : ∀ q : Nat, q < H.size → H1[q]? = H[q]? := fun q hq => by rw [← hH1, Array.getElem?_push, if_neg (Nat.ne_of_lt hq)]
  have hAr : ArrOfT s cA (.object C) := fun N z => ⟨(fun k h => by cases h), kA, f2, comp, f3⟩
  have hRA : va_RA s cA (.object C) := ⟨kA, comp, f2, f3, f4, f1⟩
  rw [hsz] at e1 ⊢
  exact kk p e _ s m args below meth cd H1 locs la hF0 hl (hH.new ⟨cA, e1, arrOfT_moved hK.2.2.2.symm hAr, hRA.moved hK.2.2.2.symm⟩ z1 o1) hL
theorem kz_newc {ci index : Nat} {q : vw_C} {ty : Nat → FieldType} {fs : List Value} (hC : kz_cl ci q ty) (hfs : fs = (List.range q.2.2).map (fun j => defaultValue (ty j))) (hw : Cond.classLink μ.1.cls index q.1 ∈ lw_tbl) (hi : Cond.instantiable q.1 q.2.2 ∈ lw_tbl) (hini : Cond.initialized q.1 ∈ lw_tbl) (hc : c + 1 ≤ mc) (hs : sl + q.2.2 ≤ ms) (hd : decode μ.2.1 pc = .ok (.new index, 3)) (kk : kz_Z G d mc ms μ Qr Qx (pc + 3) ls (.ref M.2 :: st) (kz_nw M (.inl (ci, fs))) (c + 1) (sl + q.2.2)) : kz_Z G d mc ms μ Qr Qx pc ls st M c sl := by
  intro p e R s m args below meth cd H locs la hF hl hH hL
  have hF0 := hF
  obtain ⟨hx, hb, -, -, hown, -, -, -, hK, -, hR⟩ := hF
  subst hR
  have hKn := hK.2.1.1 ci _ hC.1
  have hts : ∀ w ∈ u_ws q.1 q.2.1 q.2.2, w.before args s = true := fun w hw => hK.1 w (hC.2.1 w hw).1 (hC.2.1 w hw).2 args
  refine W.newcK hx hb hown (hK.1 _ hw rfl args) (hK.1 _ hi rfl args) (hK.1 _ hini rfl args) rfl hd hc hs hKn.2.1 hH.sz fun H1 kC hkC e1 z1 o1 => ?_
  refine kk p e _ s m args below meth cd H1 locs la hF0 hl (hH.new ⟨q, hC.1, (u_born ty hts (fun w hw => hw) hKn hkC e1 hC.2.2.1).to (fun k hk => ?_)⟩ (by rw [z1, hH.sz]) (fun q hq => o1 q (by have := hH.sz; omega))) hL
  subst hfs
  rw [vp_V, List.getD_eq_getElem?_getD, List.getElem?_map, List.getElem?_map, List.getElem?_range hk]
  show defaultValue (ty k) = kz_v G (defaultValue (ty k))
  cases ty k <;> rfl
theorem kz_iret {x : Int32} (hr2 : μ.2.2.2.1 = some .int) (hc : c ≤ mc) (hs : sl ≤ ms) (hd : decode μ.2.1 pc = .ok (.ireturn, 1)) (hq : Qr (some (.int x)) M) : kz_Z G d mc ms μ Qr Qx pc ls [.int x] M c sl := by
  intro p e R s m args below meth cd H locs la hF hl hH hL
  obtain ⟨hx, hb, hr, -, hown, hlk, -, -, hK, -, hR⟩ := hF
  subst hR
  refine W.widen hc hs (vx_ret ?_)
  exact W.iret hx hb (hr.trans hr2) (fun t ht _ => ⟨some (.int x), M, rfl, hq, by rw [ht]; exact hH⟩) hL hd hlk
theorem kz_zret {x : Int32} {ty : FieldType} (hr2 : μ.2.2.2.1 = some ty) (hn : narrow ty (.int x) = .int x) (hc : c ≤ mc) (hs : sl ≤ ms) (hd : decode μ.2.1 pc = .ok (.ireturn, 1)) (hq : Qr (some (.int x)) M) : kz_Z G d mc ms μ Qr Qx pc ls [.int x] M c sl := by
  intro p e R s m args below meth cd H locs la hF hl hH hL
  obtain ⟨hx, hb, hr, -, hown, hlk, -, -, hK, -, hR⟩ := hF
  subst hR
  refine W.widen hc hs (vx_ret ?_)
  exact W.zret hx hb (hr.trans hr2) hn (fun t ht _ => ⟨some (.int x), M, rfl, hq, by rw [ht]; exact hH⟩) hL hd hlk
theorem kz_lret {x : Int64} (hr2 : μ.2.2.2.1 = some .long) (hc : c ≤ mc) (hs : sl ≤ ms) (hd : decode μ.2.1 pc = .ok (.lreturn, 1)) (hq : Qr (some (.long x)) M) : kz_Z G d mc ms μ Qr Qx pc ls [.long x] M c sl := by
  intro p e R s m args below meth cd H locs la hF hl hH hL
  obtain ⟨hx, hb, hr, -, hown, hlk, -, -, hK, -, hR⟩ := hF
  subst hR
  refine W.widen hc hs (vx_ret ?_)
  exact W.lret hx hb (hr.trans hr2) (fun t ht _ => ⟨some (.long x), M, rfl, hq, by rw [ht]; exact hH⟩) hL hd hlk
theorem kz_fret {x : UInt32} (hr2 : μ.2.2.2.1 = some .float) (hc : c ≤ mc) (hs : sl ≤ ms) (hd : decode μ.2.1 pc = .ok (.freturn, 1)) (hq : Qr (some (.float x)) M) : kz_Z G d mc ms μ Qr Qx pc ls [.float x] M c sl := by
  intro p e R s m args below meth cd H locs la hF hl hH hL
  obtain ⟨hx, hb, hr, -, hown, hlk, -, -, hK, -, hR⟩ := hF
  subst hR
  refine W.widen hc hs (vx_ret ?_)
  exact W.fret hx hb (hr.trans hr2) (fun t ht _ => ⟨some (.float x), M, rfl, hq, by rw [ht]; exact hH⟩) hL hd hlk
theorem kz_dret {x : UInt64} (hr2 : μ.2.2.2.1 = some .double) (hc : c ≤ mc) (hs : sl ≤ ms) (hd : decode μ.2.1 pc = .ok (.dreturn, 1)) (hq : Qr (some (.double x)) M) : kz_Z G d mc ms μ Qr Qx pc ls [.double x] M c sl := by
  intro p e R s m args below meth cd H locs la hF hl hH hL
  obtain ⟨hx, hb, hr, -, hown, hlk, -, -, hK, -, hR⟩ := hF
  subst hR
  refine W.widen hc hs (vx_ret ?_)
  exact W.dret hx hb (hr.trans hr2) (fun t ht _ => ⟨some (.double x), M, rfl, hq, by rw [ht]; exact hH⟩) hL hd hlk
theorem kz_vret (hr2 : μ.2.2.2.1 = none) (hc : c ≤ mc) (hs : sl ≤ ms) (hd : decode μ.2.1 pc = .ok (.return_, 1)) (hq : Qr none M) : kz_Z G d mc ms μ Qr Qx pc ls [] M c sl := by
  intro p e R s m args below meth cd H locs la hF hl hH hL
  obtain ⟨hx, hb, hr, -, hown, hlk, -, -, hK, -, hR⟩ := hF
  subst hR
  refine W.widen hc hs (vx_ret ?_)
  exact W.vret hx hb (hr.trans hr2) (fun t ht _ => ⟨none, M, rfl, hq, by rw [ht]; exact hH⟩) hL hd hlk
theorem kz_aret {v : Value} {rt : FieldType} (hv : kz_isr v = true) (hr2 : μ.2.2.2.1 = some rt) (hrt : (∃ n, rt = .object n) ∨ ∃ t, rt = .array t) (hc : c ≤ mc) (hs : sl ≤ ms) (hd : decode μ.2.1 pc = .ok (.areturn, 1)) (hq : Qr (some v) M) : kz_Z G d mc ms μ Qr Qx pc ls [v] M c sl := by
  intro p e R s m args below meth cd H locs la hF hl hH hL
  obtain ⟨hx, hb, hr, -, hown, hlk, -, -, hK, -, hR⟩ := hF
  subst hR
  refine W.widen hc hs (vx_ret ?_)
  have hv2 : kz_v G v = .null ∨ ∃ a, kz_v G v = .ref a := by
    cases v with
    | ref a => exact Or.inr ⟨_, rfl⟩
    | retAddr a => exact Or.inr ⟨_, rfl⟩
    | null => exact Or.inl rfl
    | _ => cases hv
  exact W.aret hx hb (hr.trans hr2) hrt hv2 (fun t ht _ => ⟨some v, M, rfl, hq, by rw [ht]; exact hH⟩) hL hd hlk
end KZH
