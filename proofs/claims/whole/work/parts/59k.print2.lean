/-! Part 59k: LineOffice: printWork, printBalances -/
section OWK
variable {G : kz_G} {d mc ms : Nat} {Qr : Option Value → kz_M → Prop} {Qx : String → kz_M → Prop} {M : kz_M} {O : ow_O} {hn : Nat} {h : Nat → ow_O} {sv : ow_O} {isS : Bool} {er : Nat} {ea : Int32} {n : Nat} {b : Nat → Nat} {l : List Nat}
theorem ow_let_lt (st : Nat) : ow_let st < 128 := by
  unfold ow_let
  repeat' split
  all_goals decide
theorem c_letterFor {st : Nat} (hst : st ≤ 3) (q : Qr (some (.int (nI (ow_let st)))) M) : kz_C G d 0 0 mX11_letterFor [.int (nI st)] M Qr Qx := by
  have ne : ∀ a c : Nat, a ≤ 3 → c ≤ 3 → nI a = nI c → a = c := fun a c ha hc e => (nI_eq (by omega) (by omega)).mp e
  refine rX11_letterFor_0 ⟨fun e => ?_, fun e => ?_, fun e => ?_, fun e1 e2 e3 => ?_⟩
  · have e := ne st 1 hst (by omega) e
    subst e; exact q
  · have e := ne st 2 hst (by omega) e
    subst e; exact q
  · have e := ne st 3 hst (by omega) e
    subst e; exact q
  · have h1 : st ≠ 1 := fun z => e1 (by rw [z]; rfl)
    have h2 : st ≠ 2 := fun z => e2 (by rw [z]; rfl)
    have h3 : st ≠ 3 := fun z => e3 (by rw [z]; rfl)
    unfold ow_let at q
    rw [if_neg h1, if_neg h2, if_neg h3] at q
    exact q
theorem c_printWork {x : Int32} (hG : kz_stat G) (I : ow_CI M O hn h sv isS er ea n b l) (hO : ow_Ok1 O) (hWd : ∀ i, i < o_wk O → ow_Wwd (o_ws O i)) (hmc : 1 ≤ mc) (hms : 6 ≤ ms) (q0 : (∀ j, j < o_wk O → x ≠ nI j) → ow_thr Qx M ow_IO) (q1 : ∀ j, j < o_wk O → x = nI j → ∀ M1, ow_Cf M M1 → ow_CI M1 O hn h sv isS er ea n b (sp_pw (o_ws O j) (o_ws O j).2.2.2.1) → Qr (some (.int (nI (sp_pw (o_ws O j) (o_ws O j).2.2.2.1).length))) M1) : kz_C G (d + 8) mc ms mX11_printWork [.ref 0, .int x] M Qr Qx := by
  refine rX11_printWork_0 ⟨I.ob, 1, 6, by omega, by omega, c_workOr hG I hO (by omega) (by omega) q0 fun j a hj e hw => ⟨_, rfl, _, _, I.1, rfl, _, I.out.1, ow_l rfl, ?_⟩⟩
  have hW := hO.2.2.2 j hj
  have hm60 := hW.2.1
  have J := I.out0
  have C1 : ow_Cf M (kz_up M 3 (.inl (4, [.ref 4, .int (nI 0)]))) := ow_inT_cf (fun k hk => kz_up_ne fun e => hk (Or.inl e)) rfl
  change ow_CI (kz_up M 3 (.inl (4, List.set [.ref 4, .int (nI l.length)] 1 (.int 0)))) O hn h sv isS er ea n b [] at J
  change ow_Cf M (kz_up M 3 (.inl (4, List.set [.ref 4, .int (nI l.length)] 1 (.int 0)))) at C1
  generalize kz_up M 3 (.inl (4, List.set [.ref 4, .int (nI l.length)] 1 (.int 0))) = M0 at J C1 ⊢
  have key : ∀ i, i ≤ (o_ws O j).2.2.2.1 → ∀ M1, ow_Cf M M1 → ow_CI M1 O hn h sv isS er ea n b (sp_pw (o_ws O j) i) → zX11_printWork_16 G d mc ms Qr Qx 0 a (nI i) M1 (0 + 1) (0 + 6) := by
    refine ow_loop (o_ws O j).2.2.2.1 ?_ ?_
    · intro M1 C J1
      have hw2 := hw.keep C.1
      exact rX11_printWork_16 (by omega) (by omega) ⟨hw2.ob, c_wsize hw2 ⟨_, rfl, ow_y (nI_le (Nat.le_refl _) (by omega)) ⟨_, _, J1.1, rfl, _, _, J1.out.1, rfl, q1 j hj e M1 C J1⟩⟩⟩
    · intro i hi ih M1 C J1
      have hw2 := hw.keep C.1
      have hL := hW.2.2.2.2 i hi
      have len := sp_pw_len (hWd j hj) i (by omega)
      have sl := sp_sep_len (sp_pw (o_ws O j) i)
      obtain ⟨d1, d2, -⟩ := (hWd j hj).2 i hi
      have nl := ow_num_len2 (m := ow_wd (o_ws O j).2.2.1.2.2.1 ((o_ws O j).2.2.2.2 i).1 ((o_ws O j).2.2.2.2 i).2.1) (by omega)
      unfold sp_sep at sl
      rw [← d1] at nl
      refine rX11_printWork_16 (by omega) (by omega) ⟨hw2.ob, c_wsize hw2 ⟨_, rfl, ow_n (nI_ge hi (by omega)) ⟨_, _, J1.1, rfl, J1.out.ob, c_separate J1.out (by omega) fun M2 g1 g2 g3 => ⟨rfl, ?_⟩⟩⟩⟩
      have J2 := J1.prt g1 g2 g3
      have C2 := C.trans (ow_inT_cf g1 g2)
      have hw3 := hw.keep C2.1
      refine ⟨_, _, J2.1, rfl, hw3.ob, c_widthOf hw3 hm60 hi ⟨_, rfl, J2.out.ob, c_writeNumber J2.out (by omega) fun M3 k1 k2 k3 => ⟨rfl, ?_⟩⟩⟩
      have J3 := J2.prt k1 k2 k3
      have C3 := C2.trans (ow_inT_cf k1 k2)
      have hw4 := hw.keep C3.1
      refine ⟨_, _, J3.1, rfl, hw4.ob, c_stateOf hw4 hm60 hi ⟨_, rfl, c_letterFor hL.2.2.2 ⟨_, rfl, J3.out.ob, c_write J3.out ?_ (ow_let_lt _) fun M4 m1 m2 m3 => ⟨rfl, ?_⟩⟩⟩⟩
      · rw [List.length_append]
        omega
      · rw [nI_1]
        exact ih M4 (C3.trans (ow_inT_cf m1 m2)) (J3.prt m1 m2 m3)
  exact key 0 (Nat.zero_le _) M0 C1 J
theorem c_printBalances (I : ow_CI M O hn h sv isS er ea n b l) (hO : ow_Ok1 O) (q1 : ∀ M1, ow_Cf M M1 → ow_CI M1 O hn h sv isS er ea n b (sp_pb O (o_nw O)) → Qr (some (.int (nI (sp_pb O (o_nw O)).length))) M1) : kz_C G (d + 2) 0 0 mX11_printBalances [.ref 0] M Qr Qx := by
  have hnw := hO.1.2.2.1
  refine rX11_printBalances_0 ⟨_, _, I.1, rfl, _, I.out.1, ow_l rfl, ?_⟩
  have J := I.out0
  have C1 : ow_Cf M (kz_up M 3 (.inl (4, [.ref 4, .int (nI 0)]))) := ow_inT_cf (fun k hk => kz_up_ne fun e => hk (Or.inl e)) rfl
  change ow_CI (kz_up M 3 (.inl (4, List.set [.ref 4, .int (nI l.length)] 1 (.int 0)))) O hn h sv isS er ea n b [] at J
  change ow_Cf M (kz_up M 3 (.inl (4, List.set [.ref 4, .int (nI l.length)] 1 (.int 0)))) at C1
  generalize kz_up M 3 (.inl (4, List.set [.ref 4, .int (nI l.length)] 1 (.int 0))) = M0 at J C1 ⊢
  have key : ∀ i, i ≤ o_nw O → ∀ M1, ow_Cf M M1 → ow_CI M1 O hn h sv isS er ea n b (sp_pb O i) → zX11_printBalances_10 G d Qr Qx 0 (nI i) M1 := by
    refine ow_loop (o_nw O) ?_ ?_
    · intro M1 C J1
      exact rX11_printBalances_10 ⟨_, _, J1.1, rfl, _, _, J1.off.1, rfl, ow_y (nI_le (Nat.le_refl _) (by omega)) ⟨_, _, J1.1, rfl, _, _, J1.out.1, rfl, q1 M1 C J1⟩⟩
    · intro i hi ih M1 C J1
      have len := sp_pb_len hO i (by omega)
      have sl := sp_sep_len (sp_pb O i)
      have h12 := ow_ln_le (o_nm O i)
      have hnm := hO.2.2.1 i hi
      unfold sp_sep at sl
      refine rX11_printBalances_10 ⟨_, _, J1.1, rfl, _, _, J1.off.1, rfl, ow_n (nI_ge hi (by omega)) ⟨_, _, J1.1, rfl, J1.out.ob, c_separate J1.out (by omega) fun M2 g1 g2 g3 => ⟨rfl, ?_⟩⟩⟩
      have J2 := J1.prt g1 g2 g3
      have C2 := C.trans (ow_inT_cf g1 g2)
      refine ⟨_, _, J2.1, rfl, _, _, J2.1, rfl, J2.off.ob, c_nameOf J2.off hnw hi ⟨_, rfl, J2.out.ob, c_writeWord J2.out (by omega) (by omega) fun M3 k1 k2 k3 => ⟨rfl, ?_⟩⟩⟩
      have J3 := J2.prt k1 k2 k3
      have C3 := C2.trans (ow_inT_cf k1 k2)
      refine ⟨_, _, J3.1, rfl, J3.out.ob, c_write (c := 61) J3.out ?_ (by omega) fun M4 m1 m2 m3 => ⟨rfl, ?_⟩⟩
      · rw [List.length_append, ow_wo_len]; omega
      have J4 := J3.prt m1 m2 m3
      have C4 := C3.trans (ow_inT_cf m1 m2)
      refine ⟨_, _, J4.1, rfl, _, _, J4.1, rfl, J4.off.ob, c_balanceOf J4.off hnw hi ⟨_, rfl, J4.out.ob, c_writeNumber J4.out ?_ fun M5 n1 n2 n3 => ⟨rfl, ?_⟩⟩⟩
      · rw [List.length_append, List.length_append, ow_wo_len, List.length_singleton]; omega
      rw [nI_1]
      exact ih M5 (C4.trans (ow_inT_cf n1 n2)) (J4.prt n1 n2 n3)
  exact key 0 (Nat.zero_le _) M0 C1 J
end OWK
