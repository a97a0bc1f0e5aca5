/-! Part 06: rows for what stood there before (statics, constants), the JDK's own, throws and handlers -/
theorem kz_vaS {G : kz_G} {p : Program} {e : Env} {R : Room} {s : State} {m : MethodId} {args : Array Value} {below : List Frame} {meth : Method} {cd : Code} {T : State} {H : Heap} {locs : List Loc} {c sl : Nat} {M : kz_M} (hF : G.2.2.1.heap.size ≤ s.heap.size ∧ ∀ q, q < G.2.2.1.heap.size → s.heap[q]? = G.2.2.1.heap[q]?) (hH : kz_H G M H) (hL : ∀ q ∈ locs, G.2.2.1.heap.size ≤ q.base) (hT : T.heap = H) (X : Stand p G.1 e R s m args below meth cd T locs c sl) : va_S (fun q => G.2.2.1.heap.size ≤ q) s.heap H locs := by
  refine ⟨?_, fun q h1 h2 => ?_, hL⟩
  · obtain ⟨-, h2, -⟩ := X.same
    rw [← hT]; exact h2
  · rw [hH.2.1 q (Nat.lt_of_not_le h2), hF.2 q (Nat.lt_of_not_le h2)]
theorem kz_low {G : kz_G} {s : State} (hF : G.2.2.1.heap.size ≤ s.heap.size ∧ ∀ q, q < G.2.2.1.heap.size → s.heap[q]? = G.2.2.1.heap[q]?) : ∀ a : Nat, a < G.2.2.1.heap.size → ¬ (fun q => G.2.2.1.heap.size ≤ q) a → s.heap[a]? = G.2.2.1.heap[a]? := fun a h _ => hF.2 a h
abbrev kz_old (G : kz_G) : Nat → Prop := fun q => G.2.2.1.heap.size ≤ q
section KZS
variable {G : kz_G} {d mc ms : Nat} {μ : kz_Y} {Qr : Option Value → kz_M → Prop} {Qx : String → kz_M → Prop} {pc : Nat} {ls : List (Nat × Value)} {st : List Value} {M : kz_M} {c sl : Nat}
theorem kz_gets {C n dd : String} {v : Value} {index : Nat} (hZ : va_Z C n dd (kz_v G v) (kz_old G) G.2.2.1 G.2.2.1.heap) (hw : Cond.fieldLink μ.1.cls index C n dd ∈ lw_tbl) (hd : decode μ.2.1 pc = .ok (.getstatic index, 3)) (kk : kz_Z G d mc ms μ Qr Qx (pc + 3) ls (v :: st) M c sl) : kz_Z G d mc ms μ Qr Qx pc ls st M c sl := by
  intro p e R s m args below meth cd H locs la hF hl hH hL T hT X
  have kk := kk p e R s m args below meth cd H locs la hF hl hH hL
  obtain ⟨hx, hb, -, -, hown, -, -, -, hK, hlow, -⟩ := hF
  exact va_gets hx hb ((hZ.moved hK.2.2.2).kept (kz_low hlow)) (kz_vaS hlow hH hL hT X) hown (hK.1 _ hw rfl args) (fun _ h => h) hd kk T hT X
theorem kz_getsN {C n dd host : String} {v : Value} {index : Nat} (hZ : va_Z C n dd (kz_v G v) (kz_old G) G.2.2.1 G.2.2.1.heap) (hw : Cond.fieldLinkNest μ.1.cls index C n dd host ∈ lw_tbl) (hd : decode μ.2.1 pc = .ok (.getstatic index, 3)) (kk : kz_Z G d mc ms μ Qr Qx (pc + 3) ls (v :: st) M c sl) : kz_Z G d mc ms μ Qr Qx pc ls st M c sl := by
  intro p e R s m args below meth cd H locs la hF hl hH hL T hT X
  have kk := kk p e R s m args below meth cd H locs la hF hl hH hL
  obtain ⟨hx, hb, -, -, hown, -, -, -, hK, hlow, -⟩ := hF
  exact va_getsN hx hb ((hZ.moved hK.2.2.2).kept (kz_low hlow)) (kz_vaS hlow hH hL hT X) hown (hK.1 _ hw rfl args) (fun _ h => h) hd kk T hT X
theorem kz_sgetf {C n dd : String} {j : Nat} {v : Value} {index : Nat} (hZ : va_OF C n dd (kz_v G v) (G.2.2.2 j) (kz_old G) G.2.2.1 G.2.2.1.heap) (hw : Cond.fieldLink μ.1.cls index C n dd ∈ lw_tbl) (hd : decode μ.2.1 pc = .ok (.getfield index, 3)) (kk : kz_Z G d mc ms μ Qr Qx (pc + 3) ls (v :: st) M c sl) : kz_Z G d mc ms μ Qr Qx pc ls (.retAddr j :: st) M c sl := by
  intro p e R s m args below meth cd H locs la hF hl hH hL T hT X
  have kk := kk p e R s m args below meth cd H locs la hF hl hH hL
  obtain ⟨hx, hb, -, -, hown, -, -, -, hK, hlow, -⟩ := hF
  exact vk_getf hx hb ((hZ.moved hK.2.2.2).kept (kz_low hlow)) (kz_vaS hlow hH hL hT X) hown (hK.1 _ hw rfl args) (fun _ h => h) hd kk T hT X
theorem kz_saald {C : String} {j N : Nat} {f : Nat → Value} {i : Int32} {v : Value} (hT9 : va_T (.object C) (G.2.2.2 j) N f (kz_old G) G.2.2.1 G.2.2.1.heap) (hin : vp_in i N) (hv : f i.toNatClampNeg = kz_v G v) (hd : decode μ.2.1 pc = .ok (.aaload, 1)) (kk : kz_Z G d mc ms μ Qr Qx (pc + 1) ls (v :: st) M c sl) : kz_Z G d mc ms μ Qr Qx pc ls (.int i :: .retAddr j :: st) M c sl := by
  intro p e R s m args below meth cd H locs la hF hl hH hL T hT X
  have kk := kk p e R s m args below meth cd H locs la hF hl hH hL
  obtain ⟨hx, hb, -, -, hown, -, -, -, hK, hlow, -⟩ := hF
  exact vb_tq hx hb ((hT9.moved hK.2.2.2).kept (kz_low hlow)) (kz_vaS hlow hH hL hT X) hin hv hd kk T hT X
theorem kz_sbald {j N : Nat} {f : Nat → Value} {i x : Int32} (hT9 : va_T .byte (G.2.2.2 j) N f (kz_old G) G.2.2.1 G.2.2.1.heap) (hin : vp_in i N) (hv : f i.toNatClampNeg = .int x) (hd : decode μ.2.1 pc = .ok (.baload, 1)) (kk : kz_Z G d mc ms μ Qr Qx (pc + 1) ls (.int x :: st) M c sl) : kz_Z G d mc ms μ Qr Qx pc ls (.int i :: .retAddr j :: st) M c sl := by
  intro p e R s m args below meth cd H locs la hF hl hH hL T hT X
  have kk := kk p e R s m args below meth cd H locs la hF hl hH hL
  obtain ⟨hx, hb, -, -, hown, -, -, -, hK, hlow, -⟩ := hF
  exact va_tb hx hb ((hT9.moved hK.2.2.2).kept (kz_low hlow)) (kz_vaS hlow hH hL hT X) hin hv hd kk T hT X
theorem kz_salen {ty : FieldType} {j N : Nat} {f : Nat → Value} {v : Int32} (hT9 : va_T ty (G.2.2.2 j) N f (kz_old G) G.2.2.1 G.2.2.1.heap) (hv : Int32.ofNat N = v) (hd : decode μ.2.1 pc = .ok (.arraylength, 1)) (kk : kz_Z G d mc ms μ Qr Qx (pc + 1) ls (.int v :: st) M c sl) : kz_Z G d mc ms μ Qr Qx pc ls (.retAddr j :: st) M c sl := by
  intro p e R s m args below meth cd H locs la hF hl hH hL T hT X
  have kk := kk p e R s m args below meth cd H locs la hF hl hH hL
  obtain ⟨hx, hb, -, -, hown, -, -, -, hK, hlow, -⟩ := hF
  exact va_tlen hx hb ((hT9.moved hK.2.2.2).kept (kz_low hlow)) (kz_vaS hlow hH hL hT X) hv hd kk T hT X
theorem kz_ldcS {index j : Nat} {tx : String} (hq : (μ.1.cls, index, tx, j) ∈ kz_strs) (hd : decode μ.2.1 pc = .ok (.ldc index, 2)) (kk : kz_Z G d mc ms μ Qr Qx (pc + 2) ls (.retAddr j :: st) M c sl) : kz_Z G d mc ms μ Qr Qx pc ls st M c sl := by
  intro p e R s m args below meth cd H locs la hF hl hH hL
  have kk := kk p e R s m args below meth cd H locs la hF hl hH hL
  obtain ⟨hx, hb, -, -, hown, -, -, -, hK, hlow, -⟩ := hF
  exact va_ldcS hx hb hown (hK.2.2.1.2 _ hq) hd kk
theorem kz_objInit {a index : Nat} (h1 : Cond.methodLink μ.1.cls index Lib.objectInit ∈ lw_tbl) (h2 : Cond.instanceMethod Lib.objectInit ∈ lw_tbl) (h3 : Cond.code Lib.objectInit ⟨#[0xb1]⟩ 1 none ∈ lw_tbl) (hdd : 1 ≤ d) (hst : (st.map fun v => v.category).sum ≤ 8) (hd : decode μ.2.1 pc = .ok (.invokespecial index, 3)) (kk : kz_Z G d mc ms μ Qr Qx (pc + 3) ls st M c sl) : kz_Z G d mc ms μ Qr Qx pc ls (.ref a :: st) M c sl := by
  intro p e R s m args below meth cd H locs la hF hl hH hL
  have kk := kk p e R s m args below meth cd H locs la hF hl hH hL
  obtain ⟨hx, hb, -, hml, hown, -, -, -, hK, hlow, hR⟩ := hF
  subst hR
  exact W.objInit hx hb hown (hK.1 _ h1 rfl args) (hK.1 _ h2 rfl args) (hK.1 _ h3 rfl args) rfl (hl.1.trans hml.symm) rfl hd hdd (by show 2 * 0 + _ + 12 ≤ 37 * d; rw [kz_cat0]; omega) kk
theorem kz_mmax {index : Nat} {x y : Int32} (h1 : Cond.methodLink μ.1.cls index Lib.Math.max.name ∈ lw_tbl) (h2 : Cond.static Lib.Math.max.name ∈ lw_tbl) (h3 : Cond.initialized "java/lang/Math" ∈ lw_tbl) (h4 : Cond.code Lib.Math.max.name Lib.Math.max.code 2 (some .int) ∈ lw_tbl) (hdd : 1 ≤ d) (hst : (st.map fun v => v.category).sum ≤ 8) (hc : c ≤ mc) (hs : sl ≤ ms) (hd : decode μ.2.1 pc = .ok (.invokestatic index, 3)) (kk : kz_Z G d mc ms μ Qr Qx (pc + 3) ls (.int (if x < y then y else x) :: st) M c sl) : kz_Z G d mc ms μ Qr Qx pc ls (.int y :: .int x :: st) M c sl := by
  intro p e R s m args below meth cd H locs la hF hl hH hL
  have kk := kk p e R s m args below meth cd H locs la hF hl hH hL
  obtain ⟨hx, hb, -, hml, hown, -, -, -, hK, hlow, hR⟩ := hF
  subst hR
  exact va_mmax hx hb (hml.trans hl.1.symm) hown (hK.1 _ h1 rfl args) (hK.1 _ h2 rfl args) (hK.1 _ h3 rfl args) (hK.1 _ h4 rfl args) hdd (by rw [kz_cat0]; show _ + 13 ≤ 37 * d; omega) hc hs hd kk
theorem kz_mmin {index : Nat} {x y : Int32} (h1 : Cond.methodLink μ.1.cls index Lib.Math.min.name ∈ lw_tbl) (h2 : Cond.static Lib.Math.min.name ∈ lw_tbl) (h3 : Cond.initialized "java/lang/Math" ∈ lw_tbl) (h4 : Cond.code Lib.Math.min.name Lib.Math.min.code 2 (some .int) ∈ lw_tbl) (hdd : 1 ≤ d) (hst : (st.map fun v => v.category).sum ≤ 8) (hc : c ≤ mc) (hs : sl ≤ ms) (hd : decode μ.2.1 pc = .ok (.invokestatic index, 3)) (kk : kz_Z G d mc ms μ Qr Qx (pc + 3) ls (.int (if y < x then y else x) :: st) M c sl) : kz_Z G d mc ms μ Qr Qx pc ls (.int y :: .int x :: st) M c sl := by
  intro p e R s m args below meth cd H locs la hF hl hH hL
  have kk := kk p e R s m args below meth cd H locs la hF hl hH hL
  obtain ⟨hx, hb, -, hml, hown, -, -, -, hK, hlow, hR⟩ := hF
  subst hR
  exact va_mmin hx hb (hml.trans hl.1.symm) hown (hK.1 _ h1 rfl args) (hK.1 _ h2 rfl args) (hK.1 _ h3 rfl args) (hK.1 _ h4 rfl args) hdd (by rw [kz_cat0]; show _ + 13 ≤ 37 * d; omega) hc hs hd kk
theorem kz_mabs {index : Nat} {x : Int32} (h1 : Cond.methodLink μ.1.cls index Lib.Math.abs.name ∈ lw_tbl) (h2 : Cond.static Lib.Math.abs.name ∈ lw_tbl) (h3 : Cond.initialized "java/lang/Math" ∈ lw_tbl) (h4 : Cond.code Lib.Math.abs.name Lib.Math.abs.code 1 (some .int) ∈ lw_tbl) (hdd : 1 ≤ d) (hst : (st.map fun v => v.category).sum ≤ 8) (hc : c ≤ mc) (hs : sl ≤ ms) (hd : decode μ.2.1 pc = .ok (.invokestatic index, 3)) (kk : kz_Z G d mc ms μ Qr Qx (pc + 3) ls (.int (if 0 ≤ x then x else 0 - x) :: st) M c sl) : kz_Z G d mc ms μ Qr Qx pc ls (.int x :: st) M c sl := by
  intro p e R s m args below meth cd H locs la hF hl hH hL
  have kk := kk p e R s m args below meth cd H locs la hF hl hH hL
  obtain ⟨hx, hb, -, hml, hown, -, -, -, hK, hlow, hR⟩ := hF
  subst hR
  exact va_mabs hx hb (hml.trans hl.1.symm) hown (hK.1 _ h1 rfl args) (hK.1 _ h2 rfl args) (hK.1 _ h3 rfl args) (hK.1 _ h4 rfl args) hdd (by rw [kz_cat0]; show _ + 13 ≤ 37 * d; omega) hc hs hd kk
theorem kz_mabsL {index : Nat} {x : Int64} (h1 : Cond.methodLink μ.1.cls index Lib.MathLoose.abs_long.x ∈ lw_tbl) (h2 : Cond.static Lib.MathLoose.abs_long.x ∈ lw_tbl) (h3 : Cond.initialized "java/lang/Math" ∈ lw_tbl) (h4 : Cond.code Lib.MathLoose.abs_long.x Lib.MathLoose.abs_long.code 2 (some .long) ∈ lw_tbl) (hdd : 1 ≤ d) (hst : (st.map fun v => v.category).sum ≤ 8) (hc : c ≤ mc) (hs : sl ≤ ms) (hd : decode μ.2.1 pc = .ok (.invokestatic index, 3)) (kk : kz_Z G d mc ms μ Qr Qx (pc + 3) ls (.long (if 0 < x then x else -x) :: st) M c sl) : kz_Z G d mc ms μ Qr Qx pc ls (.long x :: st) M c sl := by
  intro p e R s m args below meth cd H locs la hF hl hH hL
  have kk := kk p e R s m args below meth cd H locs la hF hl hH hL
  obtain ⟨hx, hb, -, hml, hown, -, -, -, hK, hlow, hR⟩ := hF
  subst hR
  exact va_mabs_long hx hb (hml.trans hl.1.symm) hown (hK.1 _ h1 rfl args) (hK.1 _ h2 rfl args) (hK.1 _ h3 rfl args) (hK.1 _ h4 rfl args) hdd (by rw [kz_cat0]; show _ + 13 ≤ 37 * d; omega) hc hs hd kk
/-- 'throw new X(text)' -/
theorem kz_throwS {cls text : String} {names : List String} {ik is ic j : Nat} (hst9 : G.1.stackTraces = false) (hU : vx_Zq Bundle.tN "UNASSIGNED_STACK" Bundle.steD (kz_old G) G.2.2.1 G.2.2.1.heap) (hN : vx_Zq Bundle.tN "SUPPRESSED_SENTINEL" Bundle.listD (kz_old G) G.2.2.1 G.2.2.1.heap)
    (hcls : Bundle.fit cls = true) (hnames : ∀ n ∈ names, Bundle.fit n = true) (hk : Cond.classLink μ.1.cls ik cls ∈ lw_tbl) (hini : Cond.initialized cls ∈ lw_tbl) (hq : (μ.1.cls, is, text, j) ∈ kz_strs) (hat : ∀ w ∈ vx_atS μ.1.cls ic cls names, w ∈ lw_tbl ∧ kz_ok w = true)
    (hgood : ∀ w ∈ Cond.classLink μ.1.cls ik cls :: Cond.initialized cls :: vx_atS μ.1.cls ic cls names, vx_ot w = true) (hh : μ.2.2.2.2 = []) (hdd : names.length + 3 < d) (hnl : names.length ≤ 4) (hst : (st.map fun v => v.category).sum ≤ 8) (hc : c + 1 ≤ mc) (hs : sl + 6 ≤ ms)
    (d0 : decode μ.2.1 pc = .ok (.new ik, 3)) (d3 : decode μ.2.1 (pc + 3) = .ok (.dup, 1)) (d4 : decode μ.2.1 (pc + 4) = .ok (.ldc is, 2)) (d6 : decode μ.2.1 (pc + 6) = .ok (.invokespecial ic, 3)) (d9 : decode μ.2.1 (pc + 9) = .ok (.athrow, 1)) (kk : ∀ g, Qx cls (M.1, M.2 + g)) : kz_Z G d mc ms μ Qr Qx pc ls st M c sl := by
  intro p e R s m args below meth cd H locs la hF hl hH hL T hT X
  obtain ⟨hx, hb, -, hml, hown, hlk, -, htab, hK, hlow, hR⟩ := hF
  subst hR
  refine vx_throwS hx hb hst9 hown hcls hnames (hK.1 _ hk rfl args) (hK.1 _ hini rfl args) (hK.2.2.1.2 _ hq) (fun w hw => hK.1 w (hat w hw).1 (hat w hw).2 args) hgood ((hU.moved hK.2.2.2).kept (kz_low hlow)) ((hN.moved hK.2.2.2).kept (kz_low hlow)) (kz_vaS hlow hH hL hT X) (hl.1.trans hml.symm) d0 d3 d4 d6 d9 (fun x hx => ?_) hdd (by rw [kz_cat0]; show _ ≤ 37 * d; omega) hc hs hlk (fun t _ hz hq => ⟨_, kk _, hH.gap hz hq⟩) hL hc hs T hT X
  rw [htab, hh] at hx
  cases hx
theorem kz_throwSW {cls text : String} {names : List String} {ik is ic j : Nat} (hst9 : G.1.stackTraces = false) (hU : vx_Zq Bundle.tN "UNASSIGNED_STACK" Bundle.steD (kz_old G) G.2.2.1 G.2.2.1.heap) (hN : vx_Zq Bundle.tN "SUPPRESSED_SENTINEL" Bundle.listD (kz_old G) G.2.2.1 G.2.2.1.heap)
    (hcls : Bundle.fit cls = true) (hnames : ∀ n ∈ names, Bundle.fit n = true) (hk : Cond.classLink μ.1.cls ik cls ∈ lw_tbl) (hini : Cond.initialized cls ∈ lw_tbl) (hq : (μ.1.cls, is, text, j) ∈ kz_strs) (hat : ∀ w ∈ vx_atS μ.1.cls ic cls names, w ∈ lw_tbl ∧ kz_ok w = true)
    (hgood : ∀ w ∈ Cond.classLink μ.1.cls ik cls :: Cond.initialized cls :: vx_atS μ.1.cls ic cls names, vx_ot w = true) (hh : μ.2.2.2.2 = []) (hdd : names.length + 3 < d) (hnl : names.length ≤ 4) (hst : (st.map fun v => v.category).sum ≤ 8) (hc : c + 1 ≤ mc) (hs : sl + 6 ≤ ms)
    (d0 : decode μ.2.1 pc = .ok (.new ik, 3)) (d3 : decode μ.2.1 (pc + 3) = .ok (.dup, 1)) (d4 : decode μ.2.1 (pc + 4) = .ok (.ldc_w is, 3)) (d7 : decode μ.2.1 (pc + 7) = .ok (.invokespecial ic, 3)) (d10 : decode μ.2.1 (pc + 10) = .ok (.athrow, 1)) (kk : ∀ g, Qx cls (M.1, M.2 + g)) : kz_Z G d mc ms μ Qr Qx pc ls st M c sl := by
  intro p e R s m args below meth cd H locs la hF hl hH hL T hT X
  obtain ⟨hx, hb, -, hml, hown, hlk, -, htab, hK, hlow, hR⟩ := hF
  subst hR
  refine vx_throwSW hx hb hst9 hown hcls hnames (hK.1 _ hk rfl args) (hK.1 _ hini rfl args) (hK.2.2.1.2 _ hq) (fun w hw => hK.1 w (hat w hw).1 (hat w hw).2 args) hgood ((hU.moved hK.2.2.2).kept (kz_low hlow)) ((hN.moved hK.2.2.2).kept (kz_low hlow)) (kz_vaS hlow hH hL hT X) (hl.1.trans hml.symm) d0 d3 d4 d7 d10 (fun x hx => ?_) hdd (by rw [kz_cat0]; show _ ≤ 37 * d; omega) hc hs hlk (fun t _ hz hq => ⟨_, kk _, hH.gap hz hq⟩) hL hc hs T hT X
  rw [htab, hh] at hx
  cases hx
end KZS
