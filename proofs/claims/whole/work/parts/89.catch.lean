/-! Part 89: what a handler catches -/
/-- what does not fit what, of what is thrown -/
def kz_nc (G : kz_G) : Prop := va_Nc "java/lang/IllegalArgumentException" "java/lang/IndexOutOfBoundsException" G.2.2.1 ∧ va_Nc "java/lang/IllegalStateException" "java/lang/IndexOutOfBoundsException" G.2.2.1 ∧ va_Nc "java/lang/IllegalStateException" "java/lang/IllegalArgumentException" G.2.2.1
section KZL
variable {G : kz_G} {d mc ms : Nat} {μ : kz_Y} {Qr : Option Value → kz_M → Prop} {Qx : String → kz_M → Prop} {pc : Nat} {ls : List (Nat × Value)} {st : List Value} {M : kz_M} {c sl : Nat}
theorem kz_lvtl {la : Array Slot} {nL : Nat} {q : Nat × Value} {l : List (Nat × Value)} (h : lv_has la nL (q :: l)) : lv_has la nL l := ⟨h.1, h.2.1, fun x hx => h.2.2 x (List.mem_cons_of_mem _ hx)⟩
theorem kz_caught {E nm : String} {pre suf : List (Nat × Nat × Nat × Nat)} {x : Nat × Nat × Nat × Nat} (hh : μ.2.2.2.2 = pre ++ x :: suf) (hx : x.1 ≤ pc ∧ pc < x.2.1) (h0 : x.2.2.2 ≠ 0) (hlink : Cond.classLink μ.1.cls x.2.2.2 nm ∈ lw_tbl) (hcast : Cond.castable E nm ∈ lw_tbl) (hpre : ∀ z ∈ pre, z.2.2.2 ≠ 0 ∧ ∃ nm', Cond.classLink μ.1.cls z.2.2.2 nm' ∈ lw_tbl ∧ va_Nc E nm' G.2.2.1)
    (k : ∀ q9 : Nat, ∀ (p : Program) (e : Env) (R : Room) (s : State) (m : MethodId) (args : Array Value) (below : List Frame) (meth : Method) (cd : Code) (H : Heap) (locs : List Loc) (la : Array Slot), kz_F G d mc ms μ p R s m meth cd → lv_has la μ.2.2.1 (ls.map fun q => (q.1, kz_v G q.2)) → kz_H G M H → (∀ q ∈ locs, G.2.2.1.heap.size ≤ q.base) → W p G.1 e R s m args below meth cd H locs c sl (vx_MQ below (kz_Qc G Qr) (kz_Xc G Qx) args s mc ms (fun q => G.2.2.1.heap.size ≤ q)) (F0 m x.2.2.1 la [.ref q9])) : kz_T G d mc ms μ Qr Qx pc ls st E M c sl := by
  intro p e R s m args below meth cd H locs la q9 ce hF hl hH hL h1 h2 h3
  have hF0 := hF
  obtain ⟨hx', hb, hr, hml, hown, hlk, hnm, htab, hK, -, hR⟩ := hF
  refine vx_catch (name := nm) hown (pre.map fun q => ⟨q.1, q.2.1, q.2.2.1, q.2.2.2⟩) ⟨x.1, x.2.1, x.2.2.1, x.2.2.2⟩ (suf.map fun q => ⟨q.1, q.2.1, q.2.2.1, q.2.2.2⟩) ?_ ?_ ?_ h0 (hK.1 _ hlink rfl args) (hK.1 _ hcast rfl args) h1 h2 h3 (k q9 p e R s m args below meth cd H locs la hF0 hl hH hL)
  · rw [htab, hh]
    exact List.map_append
  · intro z hz
    obtain ⟨y, hy, rfl⟩ := List.mem_map.mp hz
    obtain ⟨g1, nm', g2, g3⟩ := hpre y hy
    exact Or.inr ⟨g1, nm', hK.1 _ g2 rfl args, g3.moved hK.2.2.2⟩
  · unfold covers
    simp only [Bool.and_eq_true, decide_eq_true_eq]
    exact hx
theorem kz_catchS {E nm : String} {pre suf : List (Nat × Nat × Nat × Nat)} {x : Nat × Nat × Nat × Nat} {i : Nat} {ls' : List (Nat × Value)} (hh : μ.2.2.2.2 = pre ++ x :: suf) (hx : x.1 ≤ pc ∧ pc < x.2.1) (h0 : x.2.2.2 ≠ 0) (hlink : Cond.classLink μ.1.cls x.2.2.2 nm ∈ lw_tbl) (hcast : Cond.castable E nm ∈ lw_tbl) (hpre : ∀ z ∈ pre, z.2.2.2 ≠ 0 ∧ ∃ nm', Cond.classLink μ.1.cls z.2.2.2 nm' ∈ lw_tbl ∧ va_Nc E nm' G.2.2.1) (hn : i < μ.2.2.1) (hs : kz_s1 i ls = ls') (hd : decode μ.2.1 x.2.2.1 = .ok (.astore i, 2)) (k : kz_Z G d mc ms μ Qr Qx (x.2.2.1 + 2) ls' [] M c sl) : kz_T G d mc ms μ Qr Qx pc ls st E M c sl := by
  subst hs
  exact kz_caught hh hx h0 hlink hcast hpre fun q9 p e R s m args below meth cd H locs la hF hl hH hL => lv_astore hF.1 hF.2.1 hd hl hn (by rw [kz_s1map]) (fun la' hl' => k p e R s m args below meth cd H locs la' hF (kz_lvtl hl') hH hL)
theorem kz_catchN {E nm : String} {pre suf : List (Nat × Nat × Nat × Nat)} {x : Nat × Nat × Nat × Nat} {i : Nat} {n : Fin 4} {ls' : List (Nat × Value)} (hh : μ.2.2.2.2 = pre ++ x :: suf) (hx : x.1 ≤ pc ∧ pc < x.2.1) (h0 : x.2.2.2 ≠ 0) (hlink : Cond.classLink μ.1.cls x.2.2.2 nm ∈ lw_tbl) (hcast : Cond.castable E nm ∈ lw_tbl) (hpre : ∀ z ∈ pre, z.2.2.2 ≠ 0 ∧ ∃ nm', Cond.classLink μ.1.cls z.2.2.2 nm' ∈ lw_tbl ∧ va_Nc E nm' G.2.2.1) (hi : (n : Nat) = i) (hn : i < μ.2.2.1) (hs : kz_s1 i ls = ls') (hd : decode μ.2.1 x.2.2.1 = .ok (.astore_n n, 1)) (k : kz_Z G d mc ms μ Qr Qx (x.2.2.1 + 1) ls' [] M c sl) : kz_T G d mc ms μ Qr Qx pc ls st E M c sl := by
  subst hs
  exact kz_caught hh hx h0 hlink hcast hpre fun q9 p e R s m args below meth cd H locs la hF hl hH hL => lv_astore_n hF.1 hF.2.1 hd hi hl hn (by rw [kz_s1map]) (fun la' hl' => k p e R s m args below meth cd H locs la' hF (kz_lvtl hl') hH hL)
end KZL
