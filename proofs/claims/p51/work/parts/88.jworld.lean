/-! Part 88: what stood before the law, seen from later heaps and other numbers -/
theorem j9999 : ∀ j ∈ kz_read, j ≠ 9999 ∧ j + 1000 ≠ 9999 := by decide +kernel
theorem j9999L : ∀ j ∈ kz_readL, j ≠ 9999 ∧ j + 1000 ≠ 9999 := by decide +kernel
theorem j9999S : ∀ q ∈ kz_strs, q.2.2.2 ≠ 9999 := by decide +kernel
theorem va_T_cg {ty : FieldType} {t N : Nat} {f g : Nat → Value} {A : Nat → Prop} {U : State} {H : Heap} (hfg : ∀ j, j < N → f j = g j) (h : va_T ty t N f A U H) : va_T ty t N g A U H := by
  obtain ⟨cell, h1, h2, h3, h4, h5, h6, h7⟩ := h
  exact ⟨cell, h1, h2, h3, h4, h5, fun j hj => by rw [← hfg j hj]; exact h6 j hj, h7⟩
/-- a later world with the same old numbers -/
def kz_lt (G G' : kz_G) : Prop := G'.1 = G.1 ∧ G'.2.1 = G.2.1 ∧ G.2.2.1.vm.Alike G'.2.2.1.vm ∧ G.2.2.1.heap.size ≤ G'.2.2.1.heap.size ∧ (∀ a, a < G.2.2.1.heap.size → G'.2.2.1.heap[a]? = G.2.2.1.heap[a]?) ∧ ∀ k, k ≠ 9999 → G'.2.2.2 k = G.2.2.2 k
section KLT
variable {G G' : kz_G}
theorem kz_lt.Z (w : kz_lt G G') {C n d : String} {v : Value} (h : va_Z C n d v (kz_old G) G.2.2.1 G.2.2.1.heap) : va_Z C n d v (kz_old G') G'.2.2.1 G'.2.2.1.heap := ((h.moved w.2.2.1).kept (fun a ha _ => w.2.2.2.2.1 a ha)).narrow fun q hq => Nat.le_trans w.2.2.2.1 hq
theorem kz_lt.T (w : kz_lt G G') {ty : FieldType} {t N : Nat} {f : Nat → Value} (h : va_T ty t N f (kz_old G) G.2.2.1 G.2.2.1.heap) : va_T ty t N f (kz_old G') G'.2.2.1 G'.2.2.1.heap := ((h.moved w.2.2.1).kept (fun a ha _ => w.2.2.2.2.1 a ha)).narrow fun q hq => Nat.le_trans w.2.2.2.1 hq
theorem kz_lt.O (w : kz_lt G G') {E : String} {t : Nat} (h : va_O E t (kz_old G) G.2.2.1 G.2.2.1.heap) : va_O E t (kz_old G') G'.2.2.1 G'.2.2.1.heap := ((h.moved w.2.2.1).kept (fun a ha _ => w.2.2.2.2.1 a ha)).narrow fun q hq => Nat.le_trans w.2.2.2.1 hq
theorem kz_lt.OF (w : kz_lt G G') {o n d : String} {v : Value} {t : Nat} (h : va_OF o n d v t (kz_old G) G.2.2.1 G.2.2.1.heap) : va_OF o n d v t (kz_old G') G'.2.2.1 G'.2.2.1.heap := ((h.moved w.2.2.1).kept (fun a ha _ => w.2.2.2.2.1 a ha)).narrow fun q hq => Nat.le_trans w.2.2.2.1 hq
theorem kz_lt.Zq (w : kz_lt G G') {C n d : String} (h : vx_Zq C n d (kz_old G) G.2.2.1 G.2.2.1.heap) : vx_Zq C n d (kz_old G') G'.2.2.1 G'.2.2.1.heap := ((h.moved w.2.2.1).kept (fun a ha _ => w.2.2.2.2.1 a ha)).narrow fun q hq => Nat.le_trans w.2.2.2.1 hq
theorem kz_lt.stat (w : kz_lt G G') (h : kz_stat G) : kz_stat G' := by
  obtain ⟨h1, h2, h3, h4, h5, h6, h7, ⟨h8, h9⟩, h10⟩ := h
  have e := w.2.2.2.2.2
  refine ⟨by rw [w.1]; exact h1, w.Zq h2, w.Zq h3, ?_, ?_, fun k hk => ?_, ?_, ⟨w.Z h8, ?_⟩, fun j hj => ?_⟩
  · rw [e 0 (by decide)]; exact w.Z h4
  · rw [e 0 (by decide)]
    exact va_T_cg (fun j hj => by rw [e (j + 1) (by omega)]) (w.T h5)
  · obtain ⟨a1, a2, a3, a4⟩ := h6 k hk
    rw [e (k + 1) (by omega), e (kz_wd k) (by unfold kz_wd; omega)]
    exact ⟨w.OF a1, w.OF a2, w.OF a3, w.OF a4⟩
  · trivial
  · rcases h9 with h | h
    · exact Or.inl (w.Z h)
    · rw [e 3000 (by decide)]; exact Or.inr (w.Z h)
  · obtain ⟨a1, a2, a3, a4⟩ := h10 j hj
    obtain ⟨n1, n2⟩ := j9999 j hj
    rw [e j n1, e (j + 1000) n2]
    exact ⟨w.O a1, w.OF a2, w.OF a3, w.T a4⟩
theorem kz_lt.stat2 (w : kz_lt G G') (h : kz_stat2 G) : kz_stat2 G' := by
  obtain ⟨h1, h2, h3, h4, h5, h6, h7⟩ := h
  have e := w.2.2.2.2.2
  refine ⟨?_, ?_, ?_, ?_, ?_, ?_, fun j hj => ?_⟩
  · rw [e 3002 (by decide)]; exact w.Z h1
  · rw [e 3002 (by decide)]; exact w.T h2
  · rw [e 3003 (by decide)]; exact w.Z h3
  · rw [e 3003 (by decide)]; exact w.T h4
  · rw [e 3004 (by decide)]; exact w.Z h5
  · rw [e 3004 (by decide)]; exact w.T h6
  · obtain ⟨a1, a2, a3, a4⟩ := h7 j hj
    obtain ⟨n1, n2⟩ := j9999L j hj
    rw [e j n1, e (j + 1000) n2]
    exact ⟨w.O a1, w.OF a2, w.OF a3, w.T a4⟩
theorem kz_lt.statP (w : kz_lt G G') (h : kz_statP G) : kz_statP G' := fun y hy => by
  have e := Cond.onTables_vm (A := #[]) (A' := #[]) (U := G.2.2.1) (U' := G'.2.2.1) G'.2.2.1.vm (Cond.privateMethod y) rfl
  have hU : G'.2.2.1.setVm G'.2.2.1.vm = G'.2.2.1 := rfl
  rw [hU] at e
  rw [← e, Cond.privateMethod_setVm w.2.2.1]
  exact h y hy
theorem kz_lt.K (w : kz_lt G G') {U : State} (hA : G'.2.2.1.vm.Alike U.vm) (h : kz_K G U) : kz_K G' U := by
  obtain ⟨h1, h2, ⟨⟨h3, h4, h5⟩, h6⟩, h7⟩ := h
  have e := w.2.2.2.2.2
  refine ⟨h1, by rw [w.2.1]; exact h2, ⟨⟨h3, h4, by rw [e 3001 (by decide)]; exact h5⟩, fun q hq => ?_⟩, hA⟩
  rw [e _ (j9999S q hq)]; exact h6 q hq
end KLT
