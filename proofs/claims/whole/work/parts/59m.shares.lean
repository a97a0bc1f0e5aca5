/-! Part 59m: LineOffice: meanWidth, caughtShare -/
def sp_mw (w : ow_W) (n : Nat) : Nat := ow_sn (fun i => ow_wd w.2.2.1.2.2.1 (w.2.2.2.2 i).1 (w.2.2.2.2 i).2.1) n
section OWK
variable {G : kz_G} {d mc ms : Nat} {Qr : Option Value → kz_M → Prop} {Qx : String → kz_M → Prop} {M : kz_M} {O : ow_O} {hn : Nat} {h : Nat → ow_O} {sv : ow_O} {isS : Bool} {er : Nat} {ea : Int32} {n : Nat} {b : Nat → Nat} {l : List Nat}
theorem c_meanWidth {x : Int32} (hG : kz_stat G) (I : ow_CI M O hn h sv isS er ea n b l) (hO : ow_Ok1 O) (hWd : ∀ i, i < o_wk O → ow_Wwd (o_ws O i)) (hmc : 1 ≤ mc) (hms : 6 ≤ ms) (q0 : (∀ j, j < o_wk O → x ≠ nI j) → ow_thr Qx M ow_IO) (q1 : ∀ j, j < o_wk O → x = nI j → Qr (some (.double (FP.ddiv (FP.i2d (nI (sp_mw (o_ws O j) (o_ws O j).2.2.2.1))) (FP.i2d (nI (o_ws O j).2.2.2.1))))) M) : kz_C G (d + 8) mc ms mX11_meanWidth [.ref 0, .int x] M Qr Qx := by
  refine rX11_meanWidth_0 ⟨I.ob, 1, 6, by omega, by omega, c_workOr hG I hO (by omega) (by omega) q0 fun j a hj e hw => ⟨_, rfl, ?_⟩⟩
  have hW := hO.2.2.2 j hj
  have hm60 := hW.2.1
  obtain ⟨w1, w2⟩ := hWd j hj
  have bnd : ∀ i, i ≤ (o_ws O j).2.2.2.1 → sp_mw (o_ws O j) i ≤ 30 * i := fun i hi => ow_sn_le fun k hk => (w2 k (by omega)).2.1
  have key : ∀ i, i ≤ (o_ws O j).2.2.2.1 → zX11_meanWidth_11 G d mc ms Qr Qx a (nI (sp_mw (o_ws O j) i)) (nI i) M (0 + 1) (0 + 6) := by
    refine ow_loop (o_ws O j).2.2.2.1 ?_ ?_
    · have hb := bnd _ (Nat.le_refl _)
      exact rX11_meanWidth_11 (by omega) (by omega) ⟨hw.ob, c_wsize hw ⟨_, rfl, ow_y (nI_le (Nat.le_refl _) (by omega)) ⟨hw.ob, c_wsize hw ⟨_, rfl, ow_yn (nI_ne0 (by omega) (by omega)) ⟨hw.ob, c_wsize hw ⟨_, rfl, fq_n64 (fq_ddiv (by omega) (by omega) (by omega)), q1 j hj e⟩⟩⟩⟩⟩⟩
    · intro i hi ih
      refine rX11_meanWidth_11 (by omega) (by omega) ⟨hw.ob, c_wsize hw ⟨_, rfl, ow_n (nI_ge hi (by omega)) ⟨hw.ob, c_widthOf hw hm60 hi ⟨_, rfl, ?_⟩⟩⟩⟩
      rw [(w2 i hi).1, nI_1, nI_add]
      exact ih
  exact key 0 (Nat.zero_le _)
theorem c_caughtShare {x : Int32} (hG : kz_stat G) (I : ow_CI M O hn h sv isS er ea n b l) (hO : ow_Ok1 O) (hmc : 1 ≤ mc) (hms : 6 ≤ ms) (q0 : (∀ j, j < o_nw O → x ≠ nI j) → ow_thr Qx M ow_IO) (q1 : ∀ j, j < o_nw O → x = nI j → Qr (some (.float (if o_ln O (fun w => decide (w = j)) 0 = 0 then FP.fconst0 else FP.fdiv (FP.i2f (nI (o_ln O (fun w => decide (w = j)) 2))) (FP.i2f (nI (o_ln O (fun w => decide (w = j)) 0)))))) M) : kz_C G (d + 8) mc ms mX11_caughtShare [.ref 0, .int x] M Qr Qx := by
  refine rX11_caughtShare_0 ⟨I.ob, 1, 6, by omega, by omega, c_checkWriter hG I hO (by omega) (by omega) q0 fun j hj e => ⟨rfl, ?_⟩⟩
  have Q := q1 j hj e
  subst e
  have hnw := hO.1.2.2.1
  have h0 := o_ln_le hO (fun w => decide (w = j)) 0
  have h2 := o_ln_le hO (fun w => decide (w = j)) 2
  refine ⟨_, _, I.1, rfl, I.off.ob, c_slinesOf (k := 0) I.off hO (by omega) (by omega) ⟨_, rfl, _, _, I.1, rfl, I.off.ob, c_slinesOf (k := 2) I.off hO (by omega) (by omega) ⟨_, rfl, (pk_eq (o_ln O (fun w => decide (w = j)) 0) 0 (fun hz => ?_) (fun hz => ?_) rfl rfl).symm⟩⟩⟩
  · rw [if_pos hz] at Q
    exact Q
  · rw [if_neg hz] at Q
    exact ⟨fq_n32 (fq_fdiv (by omega) (by omega) (by omega)), Q⟩
end OWK
