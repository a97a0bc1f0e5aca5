/-! Part 68: the reference: questions -/
section MOA
variable {G : kz_G} {d : Nat} {Qr : Option Value → kz_M → Prop} {Qx : String → kz_M → Prop} {M : kz_M} {O : ow_O} {s : Nat → Int32} {rb : Int64} {hn : Nat} {h : Nat → ow_O} {sv : ow_O} {isS : Bool} {er : Nat} {ea : Int32} {n : Nat} {b : Nat → Nat} {l : List Nat}
theorem mo_I.th' (I : mo_I M O hn h sv isS er ea n b l s rb) (c : Int32) : mo_I (kz_up M 99 (.inl (11, (mo_fs s rb).set 9 (.int c)))) O hn h sv isS er ea n b l (upd s 9 c) rb := I.th c
theorem mo_I.cf (_ : mo_I M O hn h sv isS er ea n b l s rb) (c : Int32) : mo_Cf M (kz_up M 99 (.inl (11, (mo_fs s rb).set 9 (.int c)))) := (mo_Cf.refl M).up (by omega) (by omega)
theorem mo_K.go {Q : kz_M → Prop} {c : Nat} {M0 : kz_M} {s0 : Nat → Int32} (q : mo_K M O hn h sv isS er ea n b l c Q) (C : mo_Cf M M0) (I : mo_I M0 O hn h sv isS er ea n b l s0 rb) (e : s0 9 = nI c) : Q M0 := q _ _ _ C I e
theorem mo_K.fl {Q : kz_M → Prop} {c : Nat} {v : Int32} {M0 : kz_M} {s0 : Nat → Int32} (q : mo_K M O hn h sv isS er ea n b l c Q) (C : mo_Cf M M0) (I : mo_I M0 O hn h sv isS er ea n b l s0 rb) (e : v = nI c) : Q (kz_up M0 99 (.inl (11, mo_fs (upd s0 9 v) rb))) := q _ _ _ (C.up (by omega) (by omega)) (I.th v) e
theorem mo_K.fl' {Q : kz_M → Prop} {c : Nat} {v : Int32} {M0 : kz_M} {s0 : Nat → Int32} (q : mo_K M O hn h sv isS er ea n b l c Q) (C : mo_Cf M M0) (I : mo_I M0 O hn h sv isS er ea n b l s0 rb) (e : v = nI c) : Q (kz_up M0 99 (.inl (11, (mo_fs s0 rb).set 9 (.int v)))) := q _ _ _ (C.up (by omega) (by omega)) (I.th v) e
theorem m_thrown {c : Nat} (I : mo_I M O hn h sv isS er ea n b l s rb) (e : s 9 = nI c) (q : Qr (some (.int (nI c))) M) : kz_C G d 0 0 mX12_thrown [.ref 99] M Qr Qx := rX12_thrown_0 ⟨_, _, I.1, rfl, by rw [e]; exact q⟩
theorem m_errorCode  (I : mo_I M O hn h sv isS er ea n b l s rb) (hO : ow_Ok2 O) (q : mo_K M O hn h sv isS er ea n b l 0 (Qr (some (.int (nI er))))) : kz_C G (d) 0 0 mX12_errorCode [.ref 99] M Qr Qx := by
  have I0 := I.th' 0
  have C0 := I.cf 0
  have h9 : upd s 9 0 9 = nI 0 := rfl
  refine rX12_errorCode_0 ⟨_, I.1, ow_l rfl, ?_⟩
  generalize kz_up M 99 (.inl (11, (mo_fs s rb).set 9 (.int 0))) = M0 at I0 C0 ⊢
  generalize upd s 9 0 = s0 at I0 h9
  obtain ⟨f, g, D, W⟩ := I0.D
  refine ⟨_, _, I0.1, rfl, ?_⟩
  rw [show s0 20 = nI er from I0.2.1.2.2.2.1]
  exact q.go C0 I0 h9

theorem m_errorOffset  (I : mo_I M O hn h sv isS er ea n b l s rb) (hO : ow_Ok2 O) (q : mo_K M O hn h sv isS er ea n b l 0 (Qr (some (.int (ea))))) : kz_C G (d) 0 0 mX12_errorOffset [.ref 99] M Qr Qx := by
  have I0 := I.th' 0
  have C0 := I.cf 0
  have h9 : upd s 9 0 9 = nI 0 := rfl
  refine rX12_errorOffset_0 ⟨_, I.1, ow_l rfl, ?_⟩
  generalize kz_up M 99 (.inl (11, (mo_fs s rb).set 9 (.int 0))) = M0 at I0 C0 ⊢
  generalize upd s 9 0 = s0 at I0 h9
  obtain ⟨f, g, D, W⟩ := I0.D
  refine ⟨_, _, I0.1, rfl, ?_⟩
  rw [show s0 21 = ea from I0.2.1.2.2.2.2.1]
  exact q.go C0 I0 h9

theorem m_count {x : Int32} (I : mo_I M O hn h sv isS er ea n b l s rb) (hO : ow_Ok2 O) (q0 : (∀ j, j < 9 → x ≠ nI j) → mo_K M O hn h sv isS er ea n b l 1 (Qr (some (.int 0)))) (q1 : ∀ j, j < 9 → x = nI j → mo_K M O hn h sv isS er ea n b l 0 (Qr (some (.int (sp_count O hn j))))) : kz_C G (d + 5) 0 0 mX12_count [.ref 99, .int x] M Qr Qx := by
  have I0 := I.th' 0
  have C0 := I.cf 0
  have h9 : upd s 9 0 9 = nI 0 := rfl
  refine rX12_count_0 ⟨_, I.1, ow_l rfl, ?_⟩
  generalize kz_up M 99 (.inl (11, (mo_fs s rb).set 9 (.int 0))) = M0 at I0 C0 ⊢
  generalize upd s 9 0 = s0 at I0 h9
  obtain ⟨f, g, D, W⟩ := I0.D
  refine ⟨fun e => ⟨_, _, D.1, rfl, _, _, D.2.1, mo_in0, ?_⟩, fun e => ⟨_, _, D.1, rfl, _, _, D.2.1, mo_in1, ?_⟩, fun e => ⟨D.ob, m_linesInAll (o := none) D W hO.1 (fun v hv => by cases hv) ⟨_, rfl, (q1 2 (by omega) e).go C0 I0 h9⟩⟩, fun e => ⟨D.ob, m_countingInAll (o := none) D W hO.1 (fun v hv => by cases hv) ⟨_, rfl, (q1 3 (by omega) e).go C0 I0 h9⟩⟩, fun e => ⟨_, _, D.1, rfl, _, _, D.2.1, mo_in2, ?_⟩, fun e => ⟨_, _, D.1, rfl, _, _, D.2.1, mo_in3, ?_⟩, fun e => ⟨_, _, D.1, rfl, _, _, D.2.1, mo_in4, ?_⟩, fun e => ⟨D.ob, m_above D W hO.1 ⟨_, rfl, (q1 7 (by omega) e).go C0 I0 h9⟩⟩, fun e => ⟨_, _, I0.1, rfl, ?_⟩, fun n0 n1 n2 n3 n4 n5 n6 n7 n8 => ⟨_, I0.1, ow_l rfl, (q0 (ow_s1 (ow_s1 (ow_7 n0 n1 n2 n3 n4 n5 n6) n7) n8)).fl' C0 I0 rfl⟩⟩
  · rw [W.at0]; exact (q1 0 (by omega) e).go C0 I0 h9
  · rw [W.at1]; exact (q1 1 (by omega) e).go C0 I0 h9
  · rw [W.at2]; exact (q1 4 (by omega) e).go C0 I0 h9
  · rw [W.at3]; exact (q1 5 (by omega) e).go C0 I0 h9
  · rw [W.at4]; exact (q1 6 (by omega) e).go C0 I0 h9
  · rw [I0.2.1.1]; exact (q1 8 (by omega) e).go C0 I0 h9

theorem m_setting {x : Int32} (I : mo_I M O hn h sv isS er ea n b l s rb) (hO : ow_Ok2 O) (q0 : (∀ j, j < 10 → x ≠ nI j) → mo_K M O hn h sv isS er ea n b l 1 (Qr (some (.int 0)))) (q1 : ∀ j, j < 10 → x = nI j → mo_K M O hn h sv isS er ea n b l 0 (Qr (some (.int (nI (o_ru O j)))))) : kz_C G (d + 1) 0 0 mX12_setting [.ref 99, .int x] M Qr Qx := by
  have I0 := I.th' 0
  have C0 := I.cf 0
  have h9 : upd s 9 0 9 = nI 0 := rfl
  refine rX12_setting_0 ⟨_, I.1, ow_l rfl, ?_⟩
  generalize kz_up M 99 (.inl (11, (mo_fs s rb).set 9 (.int 0))) = M0 at I0 C0 ⊢
  generalize upd s 9 0 = s0 at I0 h9
  obtain ⟨f, g, D, W⟩ := I0.D
  exact m_in (mo_rng (n := 10) (by omega)).symm ⟨_, rfl, mo_if (by omega) (fun hx => ⟨D.ob, m_fails1 D.1 ⟨_, rfl, fun z => absurd z (by decide), fun _ => (q0 hx).fl C0 I0 rfl⟩⟩) (fun j hj e => ⟨D.ob, m_fails0 ⟨_, rfl, fun _ => ⟨D.ob, by subst e; exact m_its D hj (W.ru hj) ⟨_, rfl, (q1 j hj rfl).go C0 I0 h9⟩⟩, fun z => absurd rfl z⟩⟩)⟩

theorem m_writer {x y : Int32} (I : mo_I M O hn h sv isS er ea n b l s rb) (hO : ow_Ok2 O) (q0 : (∀ j, j < o_nw O → x ≠ nI j) → mo_K M O hn h sv isS er ea n b l 1 (Qr (some (.int 0)))) (q1 : ∀ j, j < o_nw O → x = nI j → (∀ k, k < 10 → y ≠ nI k) → mo_K M O hn h sv isS er ea n b l 2 (Qr (some (.int 0)))) (q2 : ∀ j k, j < o_nw O → x = nI j → k < 10 → y = nI k → mo_K M O hn h sv isS er ea n b l 0 (Qr (some (.int (sp_wrt O j k))))) : kz_C G (d + 6) 0 0 mX12_writer [.ref 99, .int x, .int y] M Qr Qx := by
  have I0 := I.th' 0
  have C0 := I.cf 0
  have h9 : upd s 9 0 9 = nI 0 := rfl
  refine rX12_writer_0 ⟨_, I.1, ow_l rfl, ?_⟩
  generalize kz_up M 99 (.inl (11, (mo_fs s rb).set 9 (.int 0))) = M0 at I0 C0 ⊢
  generalize upd s 9 0 = s0 at I0 h9
  obtain ⟨f, g, D, W⟩ := I0.D
  refine ⟨D.ob, m_noWriter D W hO.1 (fun hx => ⟨_, rfl, fun z => absurd z (by decide), fun _ => (q0 hx).fl C0 I0 rfl⟩) fun j hj e => ⟨_, rfl, fun _ => ?_, fun z => absurd rfl z⟩⟩
  have hnw := hO.1.1.2.2.1
  have hj31 : j < 2 ^ 31 := by omega
  have Q1 := q1 j hj e
  have Q2 := fun k => q2 j k hj e
  subst e
  have ix : ∀ a, (OfNat.ofNat a : Int32) + nI j = nI (a + j) := fun a => nI_add a j
  refine ⟨fun e2 => ⟨_, _, D.1, rfl, _, _, D.2.1, ?_⟩, fun e2 => ⟨D.ob, m_worksOf D W hO.1 hj31 ⟨_, rfl, (Q2 1 (by omega) e2).go C0 I0 h9⟩⟩, fun e2 => ⟨D.ob, m_linesInAll (o := some j) D W hO.1 (fun v hv => by cases hv; exact hj31) ⟨_, rfl, (Q2 2 (by omega) e2).go C0 I0 h9⟩⟩, fun e2 => ⟨D.ob, m_countingInAll (o := some j) D W hO.1 (fun v hv => by cases hv; exact hj31) ⟨_, rfl, (Q2 3 (by omega) e2).go C0 I0 h9⟩⟩, fun e2 => ⟨D.ob, m_caughtOf D W hO hj31 ⟨_, rfl, (Q2 4 (by omega) e2).go C0 I0 h9⟩⟩, fun e2 => ⟨D.ob, m_inState (st := 2) D W hO.1 hj31 (by omega) ⟨_, rfl, ?_⟩⟩, fun e2 => ⟨D.ob, m_inState (st := 3) D W hO.1 hj31 (by omega) ⟨_, rfl, ?_⟩⟩, fun e2 => ⟨_, _, D.1, rfl, _, _, D.2.1, ?_⟩, fun e2 => ⟨D.ob, m_wordsUsed (least := 1) D W hO.1 hj31 (by omega) ⟨_, rfl, (Q2 8 (by omega) e2).go C0 I0 h9⟩⟩, fun e2 => ⟨D.ob, m_its (k := 2) D (by omega) (W.ru (by omega)) ⟨_, rfl, D.ob, m_wordsUsed D W hO.1 hj31 (hO.1.2.1 2 (by omega)) ⟨_, rfl, (Q2 9 (by omega) e2).go C0 I0 h9⟩⟩⟩, fun n0 n1 n2 n3 n4 n5 n6 n7 n8 n9 => ⟨_, I0.1, ow_l rfl, (Q1 (ow_s1 (ow_s1 (ow_s1 (ow_7 n0 n1 n2 n3 n4 n5 n6) n7) n8) n9)).fl' C0 I0 rfl⟩⟩
  · rw [ix 21, nI_clamp (by omega), W.ba hj]
    exact ⟨vp_in_nI (by omega) (by omega), (Q2 0 (by omega) e2).go C0 I0 h9⟩
  · rw [mu_sts_2]; exact (Q2 5 (by omega) e2).go C0 I0 h9
  · rw [mu_sts_3]; exact (Q2 6 (by omega) e2).go C0 I0 h9
  · rw [ix 27, nI_clamp (by omega), W.pd hj]
    exact ⟨vp_in_nI (by omega) (by omega), (Q2 7 (by omega) e2).go C0 I0 h9⟩

end MOA
