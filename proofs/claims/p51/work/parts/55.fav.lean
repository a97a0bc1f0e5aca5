/-! Part 55: LineOffice: favourite, the words in so many lines -/
def sp_fv (O : ow_O) (v i : Nat) (z : Nat × Int32) : Nat → Nat × Int32
  | 0 => z
  | j + 1 => if sp_lines O v ((o_ws O i).2.2.1.2.2.1 j) ≤ (sp_fv O v i z j).1 then sp_fv O v i z j else (sp_lines O v ((o_ws O i).2.2.1.2.2.1 j), 100 * nI i + nI j)
def sp_fav (O : ow_O) (v : Nat) : Nat → Nat × Int32
  | 0 => (0, -1)
  | i + 1 => if (o_ws O i).1 = v then sp_fv O v i (sp_fav O v i) (o_ws O i).2.2.1.2.1 else sp_fav O v i
theorem sp_lines_le {O : ow_O} (hO : ow_Ok1 O) (v : Nat) (x : Int64) : sp_lines O v x ≤ 720 := by
  have h1 := ow_lw__le (ow_co O v (o_wk O)).1 (ow_co O v (o_wk O)).2 x
  have h2 := ow_co_le hO v (o_wk O) (Nat.le_refl _)
  have h3 := hO.1.2.2.2.1
  unfold sp_lines
  omega
theorem sp_fv_le {O : ow_O} (hO : ow_Ok1 O) (v i : Nat) (z : Nat × Int32) (hz : z.1 ≤ 720) : ∀ j, (sp_fv O v i z j).1 ≤ 720
  | 0 => hz
  | j + 1 => by
    rw [sp_fv]
    split
    · exact sp_fv_le hO v i z hz j
    · exact sp_lines_le hO v _
theorem sp_fav_le {O : ow_O} (hO : ow_Ok1 O) (v : Nat) : ∀ i, (sp_fav O v i).1 ≤ 720
  | 0 => Nat.zero_le _
  | i + 1 => by
    rw [sp_fav]
    split
    · exact sp_fv_le hO v i _ (sp_fav_le hO v i) _
    · exact sp_fav_le hO v i
def sp_w1 (O : ow_O) (v least i j : Nat) : Bool := (decide (ow_tm (o_ws O i).2.2.1.2.2.1 ((o_ws O i).2.2.1.2.2.1 j) 0 j = 0) && !sp_ub O ((o_ws O i).2.2.1.2.2.1 j) v i) && decide (least ≤ sp_lines O v ((o_ws O i).2.2.1.2.2.1 j))
def sp_wi (O : ow_O) (v least : Nat) : Nat := ow_sn (fun i => if (o_ws O i).1 = v then ow_cn (sp_w1 O v least i) (o_ws O i).2.2.1.2.1 else 0) (o_wk O)
section OWK
variable {G : kz_G} {d mc ms : Nat} {Qr : Option Value → kz_M → Prop} {Qx : String → kz_M → Prop} {M : kz_M} {O : ow_O} {hn : Nat} {h : Nat → ow_O} {sv : ow_O} {isS : Bool} {er : Nat} {ea : Int32} {n : Nat} {b : Nat → Nat} {l : List Nat}
theorem ow_inP_cf {M1 : kz_M} (g : ow_Sm ow_inP M M1) (e : M1.2 = M.2) : ow_Cf M M1 := g.cf e fun k hk => by rcases hk with h | h <;> omega
theorem c_wordsIn' {v least : Nat} (I : ow_CI M O hn h sv isS er ea n b l) (hO : ow_Ok1 O) (hv : v < o_nw O) (hls : least ≤ 99) (q1 : ∀ M1, ow_Cf M M1 → ow_CI M1 O hn h sv isS er ea n b l → Qr (some (.int (nI (sp_wi O v least)))) M1) : kz_C G (d + 4) 0 0 mX11_wordsInLines [.ref 0, .int (nI v), .int (nI least)] M Qr Qx := by
  have hnw := hO.1.2.2.1
  have hwk := hO.1.2.2.2.1
  obtain ⟨k, P, hp⟩ := I.2.2.2.2.2.2.2.1
  refine rX11_wordsInLines_0 ⟨_, _, I.1, rfl, _, _, I.1, rfl, _, _, I.1, rfl, _, _, I.off.1, rfl, I.off.ob, c_collect I.off hO (by omega) hp (by omega) (Nat.le_refl _) fun M1 g1 g2 g3 => ⟨rfl, ?_⟩⟩
  have J := I.past g1 g3 g2
  have q := q1 M1 (ow_inP_cf g1 g2) J
  refine ow_loop (P := fun i => zX11_wordsInLines_24 G d Qr Qx 0 (nI v) (nI least) (nI (ow_sn (fun i => if (o_ws O i).1 = v then ow_cn (sp_w1 O v least i) (o_ws O i).2.2.1.2.1 else 0) i)) (nI i) M1) (o_wk O) ?_ ?_ 0 (Nat.zero_le _)
  · exact rX11_wordsInLines_24 ⟨_, _, J.1, rfl, _, _, J.off.1, rfl, ow_y (nI_le (Nat.le_refl _) (by omega)) q⟩
  · intro i hi ih
    have hW := hO.2.2.2 i hi
    have hn1 := hW.1.2.2.1
    rw [ow_sn] at ih
    refine rX11_wordsInLines_24 ⟨_, _, J.1, rfl, _, _, J.off.1, rfl, ow_n (nI_ge hi (by omega)) ⟨_, _, J.1, rfl, J.off.ob, c_workOf J.off hO hi (by omega) (fun hc => ⟨none, rfl, ?_⟩) (fun a hc hw => ⟨some a, rfl, ?_⟩)⟩⟩
    · refine rX11_wordsInLines_51 ⟨fun _ => ?_, fun y hy => (by cases hy)⟩
      rw [nI_1]
      rw [if_neg hc, Nat.add_zero] at ih
      exact ih
    · rw [if_pos hc] at ih
      obtain ⟨sc, al, f, w1, w2, -⟩ := hw
      refine ow_loop (P := fun j => zX11_wordsInLines_51 G d Qr Qx 0 (nI v) (nI least) (nI (ow_sn (fun i => if (o_ws O i).1 = v then ow_cn (sp_w1 O v least i) (o_ws O i).2.2.1.2.1 else 0) i + ow_cn (sp_w1 O v least i) j)) (nI i) (some a) (nI j) M1) (o_ws O i).2.2.1.2.1 ?_ ?_ 0 (Nat.zero_le _)
      · refine rX11_wordsInLines_51 ⟨fun z => (by cases z), fun y hy => ?_⟩
        cases hy
        refine ⟨_, _, w1, rfl, w2.ob, c_size w2 ⟨_, rfl, ow_y (nI_le (Nat.le_refl _) (by omega)) ?_⟩⟩
        rw [nI_1]
        exact ih
      · intro j hj ihj
        have l1 := sp_lines_le hO v ((o_ws O i).2.2.1.2.2.1 j)
        have z0 : (0 : Int32) = 0 := rfl
        have no : sp_w1 O v least i j = false → zX11_wordsInLines_51 G d Qr Qx 0 (nI v) (nI least) (nI (ow_sn (fun i => if (o_ws O i).1 = v then ow_cn (sp_w1 O v least i) (o_ws O i).2.2.1.2.1 else 0) i + ow_cn (sp_w1 O v least i) j) + 0) (nI i) (some a) (nI j + 1) M1 := fun hz => by
          rw [nI_1, ow_add0]
          rw [ow_cn_f hz] at ihj
          exact ihj
        refine rX11_wordsInLines_51 ⟨fun z => (by cases z), fun y hy => ?_⟩
        cases hy
        refine ⟨_, _, w1, rfl, w2.ob, c_size w2 ⟨_, rfl, ow_n (nI_ge hj (by omega)) ⟨_, _, w1, rfl, w2.ob, c_wordAt w2 hj (by omega) ⟨_, rfl, _, _, w1, rfl, w2.ob, c_isNewAt (from' := 0) w2 (Nat.zero_le _) hj (by omega) ⟨_, rfl, ?_⟩⟩⟩⟩⟩
        by_cases h0 : ow_tm (o_ws O i).2.2.1.2.2.1 ((o_ws O i).2.2.1.2.2.1 j) 0 j = 0
        · rw [if_pos h0]
          refine ow_n (by decide) ⟨_, _, J.1, rfl, J.off.ob, c_usedBefore J.off hO (by omega) (by omega) ⟨_, rfl, ow_ifn (fun hu => ?_) (fun hu => ?_)⟩⟩
          · exact ow_y z0 (no (by rw [sp_w1, show sp_ub O ((o_ws O i).2.2.1.2.2.1 j) v i = true from hu]; simp))
          · have hu' : sp_ub O ((o_ws O i).2.2.1.2.2.1 j) v i = false := hu
            refine ow_n (by decide) ⟨_, _, J.1, rfl, ⟨_, g3.1⟩, c_linesWith g3 ⟨_, rfl, pk_lt (sp_lines O v ((o_ws O i).2.2.1.2.2.1 j)) least (fun hz => ?_) (fun hz => ?_) rfl rfl⟩⟩
            · exact no (by rw [sp_w1, hu']; simp [h0]; omega)
            · rw [nI_1, nI_1]
              rw [ow_cn_t (by rw [sp_w1, hu']; simp [h0]; omega)] at ihj
              exact ihj
        · rw [if_neg h0]
          exact ow_y rfl (ow_y z0 (no (by rw [sp_w1]; simp [h0])))
end OWK
