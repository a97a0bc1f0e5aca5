/-! Part 90: the law's numbers behind its two objects -/
abbrev jG2 (G0 : kz_G) (P : Nat) : kz_G := (G0.1, G0.2.1, G0.2.2.1, fun k => if k = 9999 then P else G0.2.2.2 k)
def jg (P j : Nat) : Nat := if j < P then j + 99 else if j < P + 99 then j - P else j
def jgi (P j : Nat) : Nat := if j < 99 then j + P else if j < 99 + P then j - 99 else j
theorem jg_jgi (P k : Nat) : jg P (jgi P k) = k := by
  unfold jg jgi
  repeat' split
  all_goals omega
theorem jg_ad {G0 : kz_G} {P : Nat} (hP0 : G0.2.2.2 9999 = 0) (hP : 0 < P) (j : Nat) : kz_ad (jG2 G0 P) (jg P j) = kz_ad G0 j := by
  rw [kz_ad0 hP0]
  show G0.2.2.1.heap.size + kz_o (if 9999 = 9999 then P else G0.2.2.2 9999) (jg P j) = _
  rw [if_pos rfl]
  congr 1
  unfold kz_o jg
  repeat' split
  all_goals omega
def jgv (v : Value) : Bool := match v with
  | .retAddr k => decide (k ≠ 9999)
  | _ => true
def jgb (e : kz_E) : Bool := match e with
  | .inl o => o.2.all jgv
  | .inr _ => true
def jM2 (P : Nat) (M : kz_M) : kz_M := (fun k => (M.1 (jgi P k)).bind (fun e => if jgb e then some (jre (jg P) e) else none), M.2)
theorem jG2_lt {G0 : kz_G} (P : Nat) : kz_lt G0 (jG2 G0 P) := ⟨rfl, rfl, Vm.Alike.refl _, Nat.le_refl _, fun _ _ => rfl, fun k hk => if_neg hk⟩
theorem jM2_H {G0 : kz_G} {P : Nat} {M : kz_M} {H : Heap} (hP0 : G0.2.2.2 9999 = 0) (hP : 0 < P) (hM : 99 + P ≤ M.2) (h : kz_H G0 M H) : kz_H (jG2 G0 P) (jM2 P M) H := by
  obtain ⟨h1, h2, h3, h4⟩ := h
  refine ⟨h1, h2, fun k e hk => ?_, Or.inr ?_⟩
  · have hk : (M.1 (jgi P k)).bind (fun e => if jgb e then some (jre (jg P) e) else none) = some e := hk
    cases hx : M.1 (jgi P k) with
    | none => rw [hx] at hk; cases hk
    | some x =>
      rw [hx] at hk
      have hk : (if jgb x = true then some (jre (jg P) x) else none) = some e := hk
      by_cases hg : jgb x = true
      · rw [if_pos hg] at hk
        cases hk
        obtain ⟨u1, u2⟩ := h3 _ _ hx
        have hlt : k < M.2 := by
          unfold jgi at u1
          split at u1
          · omega
          · split at u1 <;> omega
        refine ⟨hlt, ?_⟩
        have := jre_at (G := G0) (G' := jG2 G0 P) (g := jg P) rfl (Vm.Alike.refl _) (jg_ad hP0 hP) (fun o ho j hj => by
          have : j ≠ 9999 := by
            subst ho
            have h9 : o.2.all jgv = true := hg
            have := List.all_eq_true.mp h9 _ hj
            exact of_decide_eq_true this
          exact if_neg this) u2
        rwa [jg_jgi] at this
      · rw [if_neg hg] at hk; cases hk
  · show 99 + (if 9999 = 9999 then P else G0.2.2.2 9999) ≤ M.2
    rw [if_pos rfl]; exact hM
abbrev jQ : Option Value → kz_M → Prop := fun v _ => v = some (.int 1)
abbrev jQx : String → kz_M → Prop := fun _ _ => False
theorem kz_conv2 {G0 : kz_G} {P d mc ms pc c sl : Nat} {μ : kz_Y} {M : kz_M} {ls ls2 : List (Nat × Value)} {st st2 : List Value} (hP0 : G0.2.2.2 9999 = 0) (hP : 0 < P) (hM : 99 + P ≤ M.2) (hls : (ls2.map fun q => (q.1, kz_v (jG2 G0 P) q.2)) = ls.map fun q => (q.1, kz_v G0 q.2)) (hst : st2.map (kz_v (jG2 G0 P)) = st.map (kz_v G0)) (h : kz_Z (jG2 G0 P) d mc ms μ jQ jQx pc ls2 st2 (jM2 P M) c sl) : kz_Z G0 d mc ms μ jQ jQx pc ls st M c sl := by
  intro p e R s m args below meth cd H locs la hF hl hH hL T hT X
  obtain ⟨f1, f2, f3, f4, f5, f6, f7, f8, fK, fl, fR⟩ := hF
  have hF2 : kz_F (jG2 G0 P) d mc ms μ p R s m meth cd := ⟨f1, f2, f3, f4, f5, f6, f7, f8, (jG2_lt P).K fK.2.2.2 fK, fl, fR⟩
  have h2 := h p e R s m args below meth cd H locs la hF2 (by rw [hls]; exact hl) (jM2_H hP0 hP hM hH) hL
  rw [hst] at h2
  obtain ⟨t, a1, o, b1, b2, b3⟩ := h2 T hT X
  refine ⟨t, a1, o, b1, b2, ?_⟩
  rcases b3 with ⟨⟨v, M1, e1, e2, e3⟩, e4⟩ | ⟨q, e1, E, ce, L, ⟨M1, e2, e3⟩, e4⟩
  · have e2 : v = some (.int 1) := e2
    subst e2
    exact Or.inl ⟨⟨some (.int 1), ((fun _ => none), M1.2), e1, rfl, e3.1, e3.2.1, (fun k x hk => by cases hk), Or.inl hP0⟩, e4⟩
  · exact e2.elim
theorem jre_comp {g f : Nat → Nat} (e : kz_E) : jre g (jre f e) = jre (fun j => g (f j)) e := by
  rcases e with o | a
  · show Sum.inl (o.1, (o.2.map (jrv f)).map (jrv g)) = Sum.inl (o.1, o.2.map (jrv fun j => g (f j)))
    rw [List.map_map]
    congr 2
    refine List.map_congr_left fun v _ => ?_
    cases v <;> rfl
  · obtain ⟨ty, n, y⟩ := a
    rcases y with f' | f' | f' | f' | f'
    · rfl
    · rfl
    · rfl
    · rfl
    · show (Sum.inr (ty, n, Sum.inr (Sum.inr (Sum.inr (Sum.inr (fun j => ((f' j).map f).map g))))) : kz_E) = Sum.inr (ty, n, Sum.inr (Sum.inr (Sum.inr (Sum.inr (fun j => (f' j).map fun j => g (f j))))))
      congr 7
      funext j
      cases f' j <;> rfl
