/-! Part 52: LineOffice: questions with a loop -/
/-- the first place of the most -/
def sp_mx (f : Nat → Int32) : Nat → Nat
  | 0 => 0
  | i + 1 => if f i ≤ f (sp_mx f i) then sp_mx f i else i
theorem sp_mx_lt (f : Nat → Int32) : ∀ n, 0 < n → sp_mx f n < n
  | 0, h => h
  | i + 1, _ => by
    rw [sp_mx]
    split
    · rcases Nat.eq_zero_or_pos i with h | h
      · subst h; exact Nat.one_pos
      · have := sp_mx_lt f i h; omega
    · omega
theorem sp_mx_1 (f : Nat → Int32) : sp_mx f 1 = 0 := by
  rw [sp_mx]
  split <;> rfl
def sp_rank (O : ow_O) (v : Nat) : Nat := ow_cn (fun i => decide (o_ba O v < o_ba O i) || (decide (o_ba O i = o_ba O v) && decide (i < v))) (o_nw O)
def sp_run (w : ow_W) : Nat → Nat × Nat
  | 0 => (0, 0)
  | i + 1 => if ow_cts (w.2.2.2.2 i) then (max (sp_run w i).1 ((sp_run w i).2 + 1), (sp_run w i).2 + 1) else ((sp_run w i).1, 0)
theorem sp_run_le (w : ow_W) : ∀ i, (sp_run w i).1 ≤ i ∧ (sp_run w i).2 ≤ i
  | 0 => ⟨Nat.le_refl _, Nat.le_refl _⟩
  | i + 1 => by
    obtain ⟨h1, h2⟩ := sp_run_le w i
    rw [sp_run]
    split
    · exact ⟨by show max _ _ ≤ _; omega, by show _ + 1 ≤ _; omega⟩
    · exact ⟨by show (sp_run w i).1 ≤ _; omega, Nat.zero_le _⟩
def sp_hopes (O : ow_O) (v : Nat) : Nat := if o_lost O v then 0 else ow_sn (fun i => if (o_ws O i).1 = v ∧ o_late O (o_ws O i) = false then ow_wc (o_ws O i) (o_ru O 5) else 0) (o_wk O)
/-- the best measure of 6 .. 5 + k, and what it pays -/
def sp_bm (O : ow_O) (s : ow_S) : Nat → Nat × Int32
  | 0 => (6, sp_pay O s 6)
  | k + 1 => if sp_pay O s (7 + k) ≤ (sp_bm O s k).2 then sp_bm O s k else (7 + k, sp_pay O s (7 + k))
section OWK
variable {G : kz_G} {d mc ms : Nat} {Qr : Option Value → kz_M → Prop} {Qx : String → kz_M → Prop} {M : kz_M} {O : ow_O} {hn : Nat} {h : Nat → ow_O} {sv : ow_O} {isS : Bool} {er : Nat} {ea : Int32} {n : Nat} {b : Nat → Nat} {l : List Nat}
end OWK
