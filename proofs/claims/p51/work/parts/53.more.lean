/-! Part 53: LineOffice: common, newWords, copiedFrom, likeLine -/
def sp_common (s t : ow_S) : Nat := ow_cn (fun i => decide (ow_tm s.2.2.1 (s.2.2.1 i) 0 i = 0) && decide (0 < ow_tm t.2.2.1 (s.2.2.1 i) 0 t.2.1)) s.2.1
def sp_ub (O : ow_O) (x : Int64) (v e : Nat) : Bool := ow_ex (fun i => decide ((o_ws O i).1 = v) && decide (0 < ow_tm (o_ws O i).2.2.1.2.2.1 x 0 (o_ws O i).2.2.1.2.1)) e
def sp_new (O : ow_O) (j : Nat) : Nat := ow_cn (fun i => decide (ow_tm (o_ws O j).2.2.1.2.2.1 ((o_ws O j).2.2.1.2.2.1 i) 0 i = 0) && !sp_ub O ((o_ws O j).2.2.1.2.2.1 i) (o_ws O j).1 j) (o_ws O j).2.2.1.2.1
/-- how much is copied most, and from where -/
def sp_cp (O : ow_O) (j : Nat) : Nat → Nat × Int32
  | 0 => (0, -1)
  | i + 1 => if (o_ws O i).1 = (o_ws O j).1 then sp_cp O j i else if ow_ws (o_ws O j) (o_ws O i) ≤ (sp_cp O j i).1 then sp_cp O j i else (ow_ws (o_ws O j) (o_ws O i), nI i)
theorem ow_ws_le (w v : ow_W) : ow_ws w v ≤ w.2.2.2.1 := ow_cn_le _ _
theorem sp_cp_le (O : ow_O) (j : Nat) : ∀ i, (sp_cp O j i).1 ≤ (o_ws O j).2.2.2.1
  | 0 => Nat.zero_le _
  | i + 1 => by
    have := sp_cp_le O j i
    rw [sp_cp]
    split
    · exact this
    · split
      · exact this
      · exact ow_ws_le _ _
def sp_like (O : ow_O) (j k : Nat) : Int32 := match ow_fs (fun i => decide ((o_ws O i).1 = (o_ws O j).1) && (ow_wf (o_ws O i) (o_ws O j).2.2.1 ((o_ws O j).2.2.2.2 k)).isSome) j with
  | some i => 100 * nI i + ow_oi (ow_wf (o_ws O i) (o_ws O j).2.2.1 ((o_ws O j).2.2.2.2 k))
  | none => if ow_oi (ow_wf (o_ws O j) (o_ws O j).2.2.1 ((o_ws O j).2.2.2.2 k)) = nI k then -1 else 100 * nI j + ow_oi (ow_wf (o_ws O j) (o_ws O j).2.2.1 ((o_ws O j).2.2.2.2 k))
section OWK
variable {G : kz_G} {d mc ms : Nat} {Qr : Option Value → kz_M → Prop} {Qx : String → kz_M → Prop} {M : kz_M} {O : ow_O} {hn : Nat} {h : Nat → ow_O} {sv : ow_O} {isS : Bool} {er : Nat} {ea : Int32} {n : Nat} {b : Nat → Nat} {l : List Nat}
end OWK
