/-! Part 89: an abstract heap in other numbers -/
def jrv (g : Nat → Nat) (v : Value) : Value := match v with
  | .ref a => .ref (g a)
  | v => v
def jrx (g : Nat → Nat) (a : vp_A) : vp_A := (a.1, match a.2 with
  | .inr (.inr (.inr (.inr f))) => .inr (.inr (.inr (.inr (fun j => (f j).map g))))
  | y => y)
def jre (g : Nat → Nat) (e : kz_E) : kz_E := match e with
  | .inl o => .inl (o.1, o.2.map (jrv g))
  | .inr a => .inr (a.1, jrx g a.2)
theorem jrx_x {G G' : kz_G} {g : Nat → Nat} (hg : ∀ j, kz_ad G' (g j) = kz_ad G j) (a : vp_A) : kz_x G' (jrx g a) = kz_x G a := by
  obtain ⟨n, y⟩ := a
  rcases y with f | f | f | f | f
  · rfl
  · rfl
  · rfl
  · rfl
  · show (n, _) = (n, _)
    congr 1
    show (Sum.inr (Sum.inr (Sum.inr (Sum.inr (fun j => ((f j).map g).map (kz_ad G'))))) : _) = Sum.inr (Sum.inr (Sum.inr (Sum.inr (fun j => (f j).map (kz_ad G)))))
    congr 4
    funext j
    cases f j with
    | none => rfl
    | some z => exact congrArg some (hg z)
theorem jrv_v {G G' : kz_G} {g : Nat → Nat} (hg : ∀ j, kz_ad G' (g j) = kz_ad G j) {v : Value} (hr : ∀ j, v = .retAddr j → G'.2.2.2 j = G.2.2.2 j) : kz_v G' (jrv g v) = kz_v G v := by
  cases v with
  | ref a => exact congrArg Value.ref (hg a)
  | retAddr j => exact congrArg Value.ref (hr j rfl)
  | _ => rfl
theorem jre_at {G G' : kz_G} {g : Nat → Nat} {k : Nat} {e : kz_E} {H : Heap} (hD : G'.2.1 = G.2.1) (hvm : G.2.2.1.vm.Alike G'.2.2.1.vm) (hg : ∀ j, kz_ad G' (g j) = kz_ad G j) (hr : ∀ o : Nat × List Value, e = .inl o → ∀ j, Value.retAddr j ∈ o.2 → G'.2.2.2 j = G.2.2.2 j) (h : kz_at G k e H) : kz_at G' (g k) (jre g e) H := by
  rcases e with o | a
  · obtain ⟨r, h1, h2⟩ := h
    refine ⟨r, h1, ?_⟩
    show t_OB (kz_ad G' (g k)) (G'.2.1.1 o.1) r.2.2 (G'.2.1.2 o.1) H (vp_V ((o.2.map (jrv g)).map (kz_v G')))
    rw [hg, hD, List.map_map, List.map_congr_left (f := kz_v G' ∘ jrv g) (g := kz_v G) fun v hv => jrv_v hg fun j e => hr o rfl j (e ▸ hv)]
    exact h2
  · obtain ⟨cA, h1, h2, h3⟩ := h
    show ∃ cA : ClassId, H[kz_ad G' (g k)]? = some (vp_cell cA (kz_x G' (jrx g a.2))) ∧ ArrOfT G'.2.2.1 cA a.1 ∧ va_RA G'.2.2.1 cA a.1
    refine ⟨cA, ?_, arrOfT_moved hvm h2, va_RA.moved hvm h3⟩
    show H[kz_ad G' (g k)]? = some (vp_cell cA (kz_x G' (jrx g a.2)))
    rw [hg, jrx_x hg]
    exact h1
theorem kz_ad0 {G : kz_G} (h : G.2.2.2 9999 = 0) (k : Nat) : kz_ad G k = G.2.2.1.heap.size + k := by
  unfold kz_ad kz_o
  rw [if_pos h]
/-- two heaps, one behind the other -/
def jJo (M2 M1 : kz_M) : kz_M := (fun k => if k < M2.2 then M2.1 k else (M1.1 (k - M2.2)).map (jre (M2.2 + ·)), M2.2 + M1.2)
abbrev jlo0 : kz_E := .inl (10, [.null, .null, .null, .null, .null, .null, .null, .int 0, .int 0, .int 0])
theorem kz_conv1 {G0 : kz_G} {d mc ms : Nat} {M2 : kz_M} (hP0 : G0.2.2.2 9999 = 0) (hC : ∀ G1, kz_lt G0 G1 → kz_C G1 d mc ms mX11_init [.ref 0] (kz_nw ((fun _ => none), 0) jlo0) (fun v M1 => v = none ∧ ow_C0 M1) (fun _ _ => False)) : kz_C G0 d mc ms mX11_init [.ref M2.2] (kz_nw M2 jlo0) (fun v M6 => v = none ∧ ∃ M1, ow_C0 M1 ∧ ow_fr M1 ∧ M6 = jJo M2 M1) (fun _ _ => False) := by
  intro p e a1 a2 a3 s m args below a4 a5 hP hK
  obtain ⟨hPa, hH, hKs⟩ := hP
  have hsz : s.heap.size = G0.2.2.1.heap.size + (M2.2 + 1) := hH.1
  have hb : (s.heap.pop).size = G0.2.2.1.heap.size + M2.2 := by rw [Array.size_pop]; omega
  have hget : ∀ q, q < G0.2.2.1.heap.size + M2.2 → (s.heap.pop)[q]? = s.heap[q]? := fun q hq => by
    rw [Array.getElem?_pop, if_pos (by omega)]
  let G1 : kz_G := (G0.1, G0.2.1, { G0.2.2.1 with heap := s.heap.pop }, G0.2.2.2)
  have w : kz_lt G0 G1 := ⟨rfl, rfl, Vm.Alike.refl _, by show _ ≤ (s.heap.pop).size; omega, fun a ha => (hget a (by omega)).trans (hH.2.1 a ha), fun _ _ => rfl⟩
  have e1 : ∀ k, kz_ad G1 k = G0.2.2.1.heap.size + M2.2 + k := fun k => (kz_ad0 (G := G1) hP0 k).trans (congrArg (· + k) hb)
  have e0 : ∀ k, kz_ad G0 k = G0.2.2.1.heap.size + k := fun k => kz_ad0 hP0 k
  have hobj : kz_at G1 0 jlo0 s.heap := by
    obtain ⟨r, r1, r2⟩ := (hH.2.2.1 M2.2 jlo0 (kz_nw_same _ _)).2
    refine ⟨r, r1, ?_⟩
    rw [e1]
    rw [e0] at r2
    exact r2
  have H1 : kz_H G1 (kz_nw ((fun _ => none), 0) jlo0) s.heap := by
    refine ⟨by show s.heap.size = (s.heap.pop).size + (0 + 1); omega, fun q hq => ?_, fun k x hk => ?_, Or.inl hP0⟩
    · have hq : q < (s.heap.pop).size := hq
      exact (hget q (by omega)).symm
    · have hk : (if k = 0 then some jlo0 else none) = some x := hk
      by_cases h0 : k = 0
      · rw [if_pos h0] at hk
        cases hk
        rw [h0]
        exact ⟨by show 0 < 0 + 1; omega, hobj⟩
      · rw [if_neg h0] at hk; cases hk
  have K1 : kz_K G1 s := w.K hKs.2.2.2 hKs
  have ea : kz_ad G0 M2.2 = kz_ad G1 0 := by rw [e0, e1]; omega
  obtain ⟨k, o, b1, b2, b3, b4⟩ := hC G1 w p e a1 a2 a3 s m args below a4 a5 ⟨hPa.trans (by show _ = [Value.ref (kz_ad G1 0)].toArray; rw [← ea]; rfl), H1, K1⟩ hK
  refine ⟨k, o, b1, b2, b3, ?_⟩
  rcases b4 with ⟨⟨v, M1, c1, ⟨rfl, c2⟩, c3⟩, L, c4, c5⟩ | ⟨q, c1, E, ce, L, ⟨M1, c2, c3⟩, c4⟩
  · refine Or.inl ⟨⟨none, jJo M2 M1, c1, ⟨rfl, M1, c2, fun k x hk => (c3.2.2.1 k x hk).1, rfl⟩, ?_⟩, L, c4, fun q hq => ?_⟩
    · obtain ⟨t1, t2, t3, -⟩ := c3
      have hb9 : G1.2.2.1.heap.size = G0.2.2.1.heap.size + M2.2 := hb
      have hk9 : ∀ q, q < G0.2.2.1.heap.size + M2.2 → (_ : Heap)[q]? = s.heap[q]? := fun q hq => (t2 q (by omega)).trans (hget q hq)
      refine ⟨by show _ = G0.2.2.1.heap.size + (M2.2 + M1.2); omega, fun q hq => (hk9 q (by omega)).trans (hH.2.1 q hq), fun k x hk => ?_, Or.inl hP0⟩
      have hk : (if k < M2.2 then M2.1 k else (M1.1 (k - M2.2)).map (jre (M2.2 + ·))) = some x := hk
      by_cases hlt : k < M2.2
      · rw [if_pos hlt] at hk
        have := (hH.2.2.1 k x ((kz_nw_ne (by omega)).trans hk)).2
        exact ⟨by show k < M2.2 + M1.2; omega, this.kept (by rw [e0]; exact hk9 _ (by omega))⟩
      · rw [if_neg hlt] at hk
        cases hx : M1.1 (k - M2.2) with
        | none => rw [hx] at hk; cases hk
        | some x1 =>
          rw [hx] at hk
          cases hk
          obtain ⟨u1, u2⟩ := t3 _ _ hx
          refine ⟨by show k < M2.2 + M1.2; omega, ?_⟩
          have this : kz_at G0 (M2.2 + (k - M2.2)) (jre (M2.2 + ·) x1) _ := jre_at (G := G1) (G' := G0) (g := (M2.2 + ·)) rfl (Vm.Alike.refl _) (fun j => by rw [e0, e1]; omega) (fun _ _ _ _ => rfl) u2
          rwa [show M2.2 + (k - M2.2) = k by omega] at this
    · have := c5 q hq
      have h9 : (s.heap.pop).size ≤ q.base := this
      show G0.2.2.1.heap.size ≤ q.base
      omega
  · exact c2.elim
