/-! Part 39: State: what changes it -/
section OWT
variable {G : kz_G} {d : Nat} {Qr : Option Value → kz_M → Prop} {Qx : String → kz_M → Prop} {M : kz_M} {s : Nat} {O : ow_O}
theorem ow_Sm.kpS {M M1 : kz_M} (g : ow_Sm (ow_in s) M M1) (hK : s + 8 ≤ ow_K) : ow_Kp M M1 := g.kp fun k hk => by have := hk.2; omega
theorem ow_updE {f g : Nat → Int32} {v n : Nat} {x : Int32} (h : ∀ i, i < n → f i = g i) : ∀ i, i < n → upd f v x i = upd g v x i := fun i hi => by
  unfold upd
  split
  · rfl
  · exact h i hi
theorem ow_vaP {M1 : kz_M} {fh : Nat → Option Nat} {k a : Nat} {w : ow_W} (h : ∀ i, i < 12 → ∀ b, fh i = some b → ow_K ≤ b ∧ ∃ fs, M1.1 b = some (.inl (9, fs))) (g : ow_RW M1 a w) : ∀ i, i < 12 → ∀ b, va_up fh k (some a) i = some b → ow_K ≤ b ∧ ∃ fs, M1.1 b = some (.inl (9, fs)) := fun i hi b hb => by
  unfold va_up at hb
  split at hb
  · cases hb
    obtain ⟨sc, al, f, h1, h2, h3, h4, -⟩ := g
    exact ⟨h4, _, h1⟩
  · exact h i hi b hb
theorem c_book {v : Nat} {kd am : Int32} (h : ow_RO M s O) (hO : ow_Ok1 O) (hK : s + 8 ≤ ow_K) (hv : v < o_nw O) (q : ∀ M1, ow_Sm (ow_in s) M M1 → M1.2 = M.2 → ow_RO M1 s (o_book O v kd am) → Qr none M1) : kz_C G (d + 2) 0 0 mX9_book [.ref s, .int (nI v), .int kd, .int am] M Qr Qx := by
  have h0 := h
  obtain ⟨fr, fn, fb, fp, fh, fl, R, P, Ph⟩ := h.op
  have hn := hO.1.2.2.1
  have hne := hO.1.2.2.2.2
  by_cases ha : am = 0
  · rw [o_book, if_pos ha] at q
    exact rX9_book_0 (ow_y ha (q M (ow_Sm.rfl' _ _) rfl h0))
  · rw [o_book, if_neg ha] at q
    have R1 := R.u3 (fb' := upd fb v (o_ba O v + am))
    refine rX9_book_0 (ow_n ha ⟨_, _, R.1, rfl, h0.ob, c_balanceOf h0 hn hv ⟨_, rfl, c_put R.2.2.2.2.1 (by omega) (by omega) ⟨rfl, _, _, R1.1, rfl, _, _, R1.1, rfl, ⟨_, R1.2.1⟩, c_ladd R1.2.1 R1.2.2.2.2.2.2.2 hne P.2.2.2.2 fun M1 g1 g2 g3 ⟨f', g4, g5⟩ => ⟨rfl, ?_⟩⟩⟩⟩)
    have S : ow_Sm (ow_in s) M M1 := ((ow_Sm.rfl' _ M).up (P := ow_in s) (a := s + 3) ⟨by omega, by omega⟩).trans (g1.mono fun k hk => by rcases hk with rfl | rfl <;> exact ⟨by omega, by omega⟩)
    exact q M1 S g2 ((R1.ld g1 g3 g4).cl ⟨P.1, P.2.1, ow_updE P.2.2.1, P.2.2.2.1, g5⟩ (Ph.keep (S.kpS hK)))
theorem ow_Ok1.book {v : Nat} {kd am : Int32} (hO : ow_Ok1 O) : ow_Ok1 (o_book O v kd am) := by
  unfold o_book
  split
  · exact hO
  · refine ⟨⟨hO.1.1, hO.1.2.1, hO.1.2.2.1, hO.1.2.2.2.1, ?_⟩, hO.2.1, hO.2.2.1, hO.2.2.2⟩
    show (if o_ne O < 30 then o_ne O else 29) + 1 ≤ 30
    split <;> omega
theorem o_book_nw {v : Nat} {kd am : Int32} : o_nw (o_book O v kd am) = o_nw O := by unfold o_book; split <;> rfl
theorem o_book_wk {v : Nat} {kd am : Int32} : o_wk (o_book O v kd am) = o_wk O := by unfold o_book; split <;> rfl
theorem o_book_ru {v : Nat} {kd am : Int32} : o_ru (o_book O v kd am) = o_ru O := by unfold o_book; split <;> rfl
theorem c_handOver {v am : Nat} {kd : Int32} (h : ow_RO M s O) (hO : ow_Ok1 O) (hK : s + 8 ≤ ow_K) (hv : v < o_nw O) (ham : am ≤ o_mo O) (q : ∀ M1, ow_Sm (ow_in s) M M1 → M1.2 = M.2 → ow_RO M1 s (o_hand O v kd am) → Qr none M1) : kz_C G (d + 3) 0 0 mX9_handOver [.ref s, .int (nI v), .int kd, .int (nI am)] M Qr Qx := by
  obtain ⟨fr, fn, fb, fp, fh, fl, R, P, Ph⟩ := h.op
  have hn := hO.1.2.2.1
  have R1 := R.u0 (hd' := ow_hd s (o_dy O, o_mo O - am, o_nw O, o_wk O, o_ru O, o_nm O, o_ba O, o_pd O, o_ws O, o_ne O, o_le O))
  have S1 : ow_Sm (ow_in s) M (kz_up M s (.inl (8, ow_hd s (o_dy O, o_mo O - am, o_nw O, o_wk O, o_ru O, o_nm O, o_ba O, o_pd O, o_ws O, o_ne O, o_le O)))) := (ow_Sm.rfl' _ M).up ⟨by omega, by omega⟩
  have O1 : ow_RO (kz_up M s (.inl (8, ow_hd s (o_dy O, o_mo O - am, o_nw O, o_wk O, o_ru O, o_nm O, o_ba O, o_pd O, o_ws O, o_ne O, o_le O)))) s (o_dy O, o_mo O - am, o_nw O, o_wk O, o_ru O, o_nm O, o_ba O, o_pd O, o_ws O, o_ne O, o_le O) := R1.cl P (Ph.keep (S1.kpS hK))
  have em : nI (o_mo O) - nI am = nI (o_mo O - am) := pk_sub ham
  refine rX9_handOver_0 ⟨_, _, h.1, rfl, _, h.1, ow_l rfl, ?_⟩
  rw [em]
  refine ⟨_, _, kz_up_same _ _ _, rfl, ⟨_, kz_up_same _ _ _⟩, c_paidTo O1 hn hv ⟨_, rfl, c_put R1.2.2.2.2.2.1 (by omega) (by omega) ⟨rfl, ⟨_, R1.u4.1⟩, ?_⟩⟩⟩
  have R2 := R1.u4 (fp' := upd fp v (o_pd O v + nI am))
  have S2 := S1.up (e := .inr (.int, 6, .inl (upd fp v (o_pd O v + nI am)))) (a := s + 4) ⟨by omega, by omega⟩
  have O2 : ow_RO _ s (o_dy O, o_mo O - am, o_nw O, o_wk O, o_ru O, o_nm O, o_ba O, upd (o_pd O) v (o_pd O v + nI am), o_ws O, o_ne O, o_le O) := R2.cl (O := (o_dy O, o_mo O - am, o_nw O, o_wk O, o_ru O, o_nm O, o_ba O, upd (o_pd O) v (o_pd O v + nI am), o_ws O, o_ne O, o_le O)) ⟨P.1, P.2.1, P.2.2.1, ow_updE P.2.2.2.1, P.2.2.2.2⟩ (Ph.keep (S2.kpS hK))
  have hO2 : ow_Ok1 (o_dy O, o_mo O - am, o_nw O, o_wk O, o_ru O, o_nm O, o_ba O, upd (o_pd O) v (o_pd O v + nI am), o_ws O, o_ne O, o_le O) := ⟨⟨hO.1.1, Nat.le_trans (Nat.sub_le _ _) hO.1.2.1, hO.1.2.2.1, hO.1.2.2.2.1, hO.1.2.2.2.2⟩, hO.2.1, hO.2.2.1, hO.2.2.2⟩
  refine c_book O2 hO2 hK hv fun M1 g1 g2 g3 => ⟨rfl, q M1 (S2.trans g1) g2 g3⟩
theorem c_replaceWork {a i : Nat} {w : ow_W} (h : ow_RO M s O) (hO : o_wk O ≤ 12) (hK : s + 8 ≤ ow_K) (hi : i < o_wk O) (hw : ow_RW M a w) (q : ∀ M1, ow_Sm (ow_in s) M M1 → M1.2 = M.2 → ow_RO M1 s (o_repl O i w) → Qr none M1) : kz_C G d 0 0 mX9_replaceWork [.ref s, .int (nI i), .ref a] M Qr Qx := by
  obtain ⟨fr, fn, fb, fp, fh, fl, R, P, Ph⟩ := h.op
  have hw0 := hw
  obtain ⟨sc, al, f, w1, -⟩ := hw
  refine rX9_replaceWork_0 (ow_n (nI_pos (by omega)) ⟨_, _, h.1, rfl, ow_n (nI_ge hi (by omega)) ⟨_, _, h.1, rfl, _, _, R.2.2.2.2.2.2.1, ow_n (nI_ge (by omega) (by omega)) ⟨_, _, h.1, rfl, _, _, _, R.2.2.2.2.2.2.1, w1, vp_in_nI (by omega) (by omega), ?_⟩⟩⟩)
  rw [nI_clamp (by omega)]
  have S : ow_Sm (ow_in s) M (kz_up M (s + 5) (.inr (.object "LineOffice$Work", 12, .inr (.inr (.inr (.inr (va_up fh i (some a)))))))) := (ow_Sm.rfl' _ M).up ⟨by omega, by omega⟩
  refine q _ S rfl (R.u5.cl (O := o_repl O i w) P ⟨ow_vaP (Ph.keep (S.kpS hK)).1 (hw0.keep (S.kpS hK)), fun j hj => ?_⟩)
  show ∃ b, va_up fh i (some a) j = some b ∧ ow_RW _ b (if j = i then w else o_ws O j)
  by_cases hji : j = i
  · rw [if_pos hji]
    exact ⟨a, if_pos hji, hw0.keep (S.kpS hK)⟩
  · rw [if_neg hji]
    obtain ⟨b, hb, hwb⟩ := Ph.2 j hj
    exact ⟨b, (if_neg hji).trans hb, hwb.keep (S.kpS hK)⟩
theorem ow_Ok1.more {w : ow_W} (hO : ow_Ok1 O) (hwk : o_wk O < 12) (hw : ow_Wok w) : ow_Ok1 (o_more O w) := by
  refine ⟨⟨hO.1.1, hO.1.2.1, hO.1.2.2.1, hwk, hO.1.2.2.2.2⟩, hO.2.1, hO.2.2.1, fun i hi => ?_⟩
  show ow_Wok (if i = o_wk O then w else o_ws O i)
  split
  · exact hw
  · exact hO.2.2.2 i (by have : i < o_wk O + 1 := hi; omega)
theorem c_handIn {a : Nat} {w : ow_W} (h : ow_RO M s O) (hO : ow_Ok1 O) (hK : s + 8 ≤ ow_K) (hwk : o_wk O < 12) (hw : ow_RW M a w) (hW : ow_Wok w) (hv : w.1 < o_nw O) (q : ∀ M1, ow_Sm (ow_in s) M M1 → M1.2 = M.2 → ow_RO M1 s (o_in O w) → Qr (some (.int (nI (o_wk O)))) M1) : kz_C G (d + 4) 0 0 mX9_handIn [.ref s, .ref a] M Qr Qx := by
  obtain ⟨fr, fn, fb, fp, fh, fl, R, P, Ph⟩ := h.op
  refine rX9_handIn_0 ⟨_, _, h.1, rfl, _, h.1, ow_l rfl, ?_⟩
  rw [nI_1]
  have S1 : ow_Sm (ow_in s) M (kz_up M s (.inl (8, ow_hd s (o_dy O, o_mo O, o_nw O, o_wk O + 1, o_ru O, o_nm O, o_ba O, o_pd O, o_ws O, o_ne O, o_le O)))) := (ow_Sm.rfl' _ M).up ⟨by omega, by omega⟩
  have R1 := R.u0 (hd' := ow_hd s (o_dy O, o_mo O, o_nw O, o_wk O + 1, o_ru O, o_nm O, o_ba O, o_pd O, o_ws O, o_ne O, o_le O))
  refine ⟨_, _, kz_up_same _ _ _, rfl, ⟨_, kz_up_same _ _ _⟩, ?_⟩
  rw [show nI (o_wk O + 1) - 1 = nI (o_wk O) from nI_pred _]
  have hwA := hw.keep (S1.kpS hK)
  have hwA0 := hwA
  obtain ⟨sc, al, f, w1, -⟩ := hwA
  refine rX9_replaceWork_0 (ow_n (nI_pos (by omega)) ⟨_, _, R1.1, rfl, ow_n (nI_ge (Nat.lt_succ_self (o_wk O)) (show o_wk O + 1 < 2 ^ 31 by omega)) ⟨_, _, R1.1, rfl, _, _, R1.2.2.2.2.2.2.1, ow_n (nI_ge (by omega) (by omega)) ⟨_, _, R1.1, rfl, _, _, _, R1.2.2.2.2.2.2.1, w1, vp_in_nI (by omega) (by omega), ⟨rfl, ?_⟩⟩⟩⟩)
  rw [nI_clamp (by omega)]
  have S2 := S1.up (a := s + 5) (e := .inr (.object "LineOffice$Work", 12, .inr (.inr (.inr (.inr (va_up fh (o_wk O) (some a))))))) ⟨by omega, by omega⟩
  have R2 := R1.u5 (fh' := va_up fh (o_wk O) (some a))
  have O2 : ow_RO _ s (o_more O w) := R2.cl (O := o_more O w) P ⟨ow_vaP (Ph.keep (S2.kpS hK)).1 (hw.keep (S2.kpS hK)), fun j hj => by
    have hj : j < o_wk O + 1 := hj
    show ∃ b, va_up fh (o_wk O) (some a) j = some b ∧ ow_RW _ b (if j = o_wk O then w else o_ws O j)
    by_cases hji : j = o_wk O
    · rw [if_pos hji]
      exact ⟨a, if_pos hji, hw.keep (S2.kpS hK)⟩
    · rw [if_neg hji]
      obtain ⟨b, hb, hwb⟩ := Ph.2 j (by omega)
      exact ⟨b, (if_neg hji).trans hb, hwb.keep (S2.kpS hK)⟩⟩
  have hO2 := hO.more hwk hW
  have hw2 := hw.keep (S2.kpS hK)
  have hw20 := hw2
  obtain ⟨sc, al, f, w2, -⟩ := hw2
  refine ⟨_, _, w2, rfl, ⟨_, w2⟩, c_payOfCounting hw20 hW ⟨_, rfl, O2.ob, c_book O2 hO2 hK hv fun M3 g1 g2 g3 => ⟨rfl, ?_⟩⟩⟩
  have hw3 := hw20.keep (g1.kpS hK)
  have hw30 := hw3
  obtain ⟨sc, al, f, w3, -⟩ := hw3
  refine ⟨_, _, w3, rfl, g3.ob, c_finesFor g3 hw30 hW ⟨_, rfl, g3.ob, c_book g3 hO2.book hK (by rw [o_book_nw]; exact hv) fun M4 k1 k2 k3 => ⟨rfl, ?_⟩⟩⟩
  rw [o_book_ru] at k3
  refine ⟨_, _, k3.1, rfl, ?_⟩
  rw [o_book_wk, o_book_wk, show nI (o_wk (o_more O w)) - 1 = nI (o_wk O) from nI_pred _]
  exact q M4 (S2.trans (g1.trans k1)) (k2.trans g2) k3
theorem c_enrol {x : Nat} (h : ow_RO M s O) (hn : o_nw O < 6) (hK : s + 8 ≤ ow_K) (q : ∀ M1, ow_Sm (ow_in s) M M1 → M1.2 = M.2 → ow_RO M1 s (o_enrol O x) → Qr none M1) : kz_C G (d + 1) 0 0 mX9_enrol [.ref s, .long (lN x)] M Qr Qx := by
  obtain ⟨fr, fn, fb, fp, fh, fl, R, P, Ph⟩ := h.op
  have R1 := R.u2 (fn' := vp_updL fn (o_nw O) (lN x))
  have R2 := R1.u3 (fb' := upd fb (o_nw O) 0)
  have R3 := R2.u4 (fp' := upd fp (o_nw O) 0)
  refine rX9_enrol_0 ⟨_, _, h.1, rfl, ow_n (nI_pos (by omega)) ⟨_, _, h.1, rfl, _, _, h.1, rfl, _, _, R.2.2.2.1, ow_n (nI_ge (by omega) (by omega)) ⟨_, _, h.1, rfl, _, _, h.1, rfl, _, _, R.2.2.2.1, vp_in_nI (by omega) (by omega), ?_⟩⟩⟩
  rw [nI_clamp (by omega)]
  refine ⟨_, _, R1.1, rfl, _, _, R1.1, rfl, c_put R1.2.2.2.2.1 hn (by omega) ⟨rfl, _, _, R2.1, rfl, _, _, R2.1, rfl, c_put R2.2.2.2.2.2.1 hn (by omega) ⟨rfl, _, _, R3.1, rfl, _, R3.1, ow_l rfl, ?_⟩⟩⟩
  rw [nI_1]
  have S : ow_Sm (ow_in s) M (kz_up (kz_up (kz_up (kz_up M (s + 2) (.inr (.long, 6, .inr (.inl (vp_updL fn (o_nw O) (lN x)))))) (s + 3) (.inr (.int, 6, .inl (upd fb (o_nw O) 0)))) (s + 4) (.inr (.int, 6, .inl (upd fp (o_nw O) 0)))) s (.inl (8, ow_hd s (o_enrol O x)))) := ((((ow_Sm.rfl' _ M).up ⟨by omega, by omega⟩).up ⟨by omega, by omega⟩).up ⟨by omega, by omega⟩).up ⟨by omega, by omega⟩
  have up1 : ∀ (f g : Nat → Int32), (∀ i, i < o_nw O → f i = g i) → ∀ i, i < o_nw O + 1 → upd f (o_nw O) 0 i = upd g (o_nw O) 0 i := fun f g hfg i hi => by
    unfold upd
    split
    · rfl
    · exact hfg i (by omega)
  refine q _ S rfl (R3.u0.cl (O := o_enrol O x) ⟨P.1, fun i hi => ?_, up1 _ _ P.2.2.1, up1 _ _ P.2.2.2.1, P.2.2.2.2⟩ (Ph.keep (S.kpS hK)))
  have hi : i < o_nw O + 1 := hi
  show (if i = o_nw O then lN x else fn i) = lN (if i = o_nw O then x else o_nm O i)
  split
  · rfl
  · exact P.2.1 i (by omega)
end OWT
