/-! Part 93: the law's rules: printed by program (wip/whole/gen91.py) -/
theorem kz_alls {lo x : Int} {n : Nat} (h : ∀ k : Nat, k < n → x ≠ lo + k) (hn : x ≠ lo + (n : Int)) : ∀ k : Nat, k < n + 1 → x ≠ lo + k := fun k hk => by
  rcases Nat.lt_or_ge k n with h1 | h1
  · exact h k h1
  · have : k = n := by omega
    subst this
    exact hn
theorem kz_all48 {lo x : Int} (h0 : x ≠ lo + 0) (h1 : x ≠ lo + 1) (h2 : x ≠ lo + 2) (h3 : x ≠ lo + 3) (h4 : x ≠ lo + 4) (h5 : x ≠ lo + 5) (h6 : x ≠ lo + 6) (h7 : x ≠ lo + 7) (h8 : x ≠ lo + 8) (h9 : x ≠ lo + 9) (h10 : x ≠ lo + 10) (h11 : x ≠ lo + 11) (h12 : x ≠ lo + 12) (h13 : x ≠ lo + 13) (h14 : x ≠ lo + 14) (h15 : x ≠ lo + 15) (h16 : x ≠ lo + 16) (h17 : x ≠ lo + 17) (h18 : x ≠ lo + 18) (h19 : x ≠ lo + 19) (h20 : x ≠ lo + 20) (h21 : x ≠ lo + 21) (h22 : x ≠ lo + 22) (h23 : x ≠ lo + 23) (h24 : x ≠ lo + 24) (h25 : x ≠ lo + 25) (h26 : x ≠ lo + 26) (h27 : x ≠ lo + 27) (h28 : x ≠ lo + 28) (h29 : x ≠ lo + 29) (h30 : x ≠ lo + 30) (h31 : x ≠ lo + 31) (h32 : x ≠ lo + 32) (h33 : x ≠ lo + 33) (h34 : x ≠ lo + 34) (h35 : x ≠ lo + 35) (h36 : x ≠ lo + 36) (h37 : x ≠ lo + 37) (h38 : x ≠ lo + 38) (h39 : x ≠ lo + 39) (h40 : x ≠ lo + 40) (h41 : x ≠ lo + 41) (h42 : x ≠ lo + 42) (h43 : x ≠ lo + 43) (h44 : x ≠ lo + 44) (h45 : x ≠ lo + 45) (h46 : x ≠ lo + 46) (h47 : x ≠ lo + 47) : ∀ k : Nat, k < 48 → x ≠ lo + k := (kz_alls (kz_alls (kz_alls (kz_alls (kz_alls (kz_alls (kz_alls (kz_alls (kz_alls (kz_alls (kz_alls (kz_alls (kz_alls (kz_alls (kz_alls (kz_alls (kz_alls (kz_alls (kz_alls (kz_alls (kz_alls (kz_alls (kz_alls (kz_alls (kz_alls (kz_alls (kz_alls (kz_alls (kz_alls (kz_alls (kz_alls (kz_alls (kz_alls (kz_alls (kz_alls (kz_alls (kz_all12 h0 h1 h2 h3 h4 h5 h6 h7 h8 h9 h10 h11) h12) h13) h14) h15) h16) h17) h18) h19) h20) h21) h22) h23) h24) h25) h26) h27) h28) h29) h30) h31) h32) h33) h34) h35) h36) h37) h38) h39) h40) h41) h42) h43) h44) h45) h46) h47)
def zL_law_0 (G : kz_G) (d mc ms : Nat) (Qr : Option Value → kz_M → Prop) (Qx : String → kz_M → Prop) (x0 : Nat)  (M : kz_M) (c sl : Nat) : Prop := kz_Z G (d + 11) mc ms mL_law Qr Qx 0 [(0, .retAddr x0)] [] M c sl
def zL_law_28 (G : kz_G) (d mc ms : Nat) (Qr : Option Value → kz_M → Prop) (Qx : String → kz_M → Prop) (x0 : Nat) (x1 : Nat) (x2 : Nat) (x3 : Nat) (x4 : Nat) (x5 : Int32)  (M : kz_M) (c sl : Nat) : Prop := kz_Z G (d + 11) mc ms mL_law Qr Qx 28 [(0, .retAddr x0), (1, .ref x1), (2, .ref x2), (3, .ref x3), (4, .ref x4), (5, .int x5)] [] M c sl
def zL_law_252 (G : kz_G) (d mc ms : Nat) (Qr : Option Value → kz_M → Prop) (Qx : String → kz_M → Prop) (x0 : Nat) (x1 : Nat) (x2 : Nat) (x3 : Nat) (x4 : Nat) (x5 : Int32)  (M : kz_M) (c sl : Nat) : Prop := kz_Z G (d + 11) mc ms mL_law Qr Qx 252 [(0, .retAddr x0), (1, .ref x1), (2, .ref x2), (3, .ref x3), (4, .ref x4), (5, .int x5)] [] M c sl
def zL_law_325 (G : kz_G) (d mc ms : Nat) (Qr : Option Value → kz_M → Prop) (Qx : String → kz_M → Prop) (x0 : Nat) (x1 : Nat) (x2 : Nat) (x3 : Nat) (x4 : Nat) (x5 : Int32)  (M : kz_M) (c sl : Nat) : Prop := kz_Z G (d + 11) mc ms mL_law Qr Qx 325 [(0, .retAddr x0), (1, .ref x1), (2, .ref x2), (3, .ref x3), (4, .ref x4), (5, .int x5)] [] M c sl
def zL_law_350 (G : kz_G) (d mc ms : Nat) (Qr : Option Value → kz_M → Prop) (Qx : String → kz_M → Prop) (x0 : Nat) (x1 : Nat) (x2 : Nat) (x3 : Nat) (x4 : Nat) (x5 : Int32)  (M : kz_M) (c sl : Nat) : Prop := kz_Z G (d + 11) mc ms mL_law Qr Qx 350 [(0, .retAddr x0), (1, .ref x1), (2, .ref x2), (3, .ref x3), (4, .ref x4), (5, .int x5)] [] M c sl
def zL_law_363 (G : kz_G) (d mc ms : Nat) (Qr : Option Value → kz_M → Prop) (Qx : String → kz_M → Prop) (x0 : Nat) (x1 : Nat) (x2 : Nat) (x3 : Nat) (x4 : Nat) (x5 : Int32)  (M : kz_M) (c sl : Nat) : Prop := kz_Z G (d + 11) mc ms mL_law Qr Qx 363 [(0, .retAddr x0), (1, .ref x1), (2, .ref x2), (3, .ref x3), (4, .ref x4), (5, .int x5)] [] M c sl
def zL_law_376 (G : kz_G) (d mc ms : Nat) (Qr : Option Value → kz_M → Prop) (Qx : String → kz_M → Prop) (x0 : Nat) (x1 : Nat) (x2 : Nat) (x3 : Nat) (x4 : Nat) (x5 : Int32)  (M : kz_M) (c sl : Nat) : Prop := kz_Z G (d + 11) mc ms mL_law Qr Qx 376 [(0, .retAddr x0), (1, .ref x1), (2, .ref x2), (3, .ref x3), (4, .ref x4), (5, .int x5)] [] M c sl
def zL_law_389 (G : kz_G) (d mc ms : Nat) (Qr : Option Value → kz_M → Prop) (Qx : String → kz_M → Prop) (x0 : Nat) (x1 : Nat) (x2 : Nat) (x3 : Nat) (x4 : Nat) (x5 : Int32)  (M : kz_M) (c sl : Nat) : Prop := kz_Z G (d + 11) mc ms mL_law Qr Qx 389 [(0, .retAddr x0), (1, .ref x1), (2, .ref x2), (3, .ref x3), (4, .ref x4), (5, .int x5)] [] M c sl
def zL_law_445 (G : kz_G) (d mc ms : Nat) (Qr : Option Value → kz_M → Prop) (Qx : String → kz_M → Prop) (x0 : Nat) (x1 : Nat) (x2 : Nat) (x3 : Nat) (x4 : Nat) (x5 : Int32)  (M : kz_M) (c sl : Nat) : Prop := kz_Z G (d + 11) mc ms mL_law Qr Qx 445 [(0, .retAddr x0), (1, .ref x1), (2, .ref x2), (3, .ref x3), (4, .ref x4), (5, .int x5)] [] M c sl
def zL_law_501 (G : kz_G) (d mc ms : Nat) (Qr : Option Value → kz_M → Prop) (Qx : String → kz_M → Prop) (x0 : Nat) (x1 : Nat) (x2 : Nat) (x3 : Nat) (x4 : Nat) (x5 : Int32)  (M : kz_M) (c sl : Nat) : Prop := kz_Z G (d + 11) mc ms mL_law Qr Qx 501 [(0, .retAddr x0), (1, .ref x1), (2, .ref x2), (3, .ref x3), (4, .ref x4), (5, .int x5)] [] M c sl
def zL_law_569 (G : kz_G) (d mc ms : Nat) (Qr : Option Value → kz_M → Prop) (Qx : String → kz_M → Prop) (x0 : Nat) (x1 : Nat) (x2 : Nat) (x3 : Nat) (x4 : Nat) (x5 : Int32)  (M : kz_M) (c sl : Nat) : Prop := kz_Z G (d + 11) mc ms mL_law Qr Qx 569 [(0, .retAddr x0), (1, .ref x1), (2, .ref x2), (3, .ref x3), (4, .ref x4), (5, .int x5)] [] M c sl
def zL_law_637 (G : kz_G) (d mc ms : Nat) (Qr : Option Value → kz_M → Prop) (Qx : String → kz_M → Prop) (x0 : Nat) (x1 : Nat) (x2 : Nat) (x3 : Nat) (x4 : Nat) (x5 : Int32)  (M : kz_M) (c sl : Nat) : Prop := kz_Z G (d + 11) mc ms mL_law Qr Qx 637 [(0, .retAddr x0), (1, .ref x1), (2, .ref x2), (3, .ref x3), (4, .ref x4), (5, .int x5)] [] M c sl
def zL_law_717 (G : kz_G) (d mc ms : Nat) (Qr : Option Value → kz_M → Prop) (Qx : String → kz_M → Prop) (x0 : Nat) (x1 : Nat) (x2 : Nat) (x3 : Nat) (x4 : Nat) (x5 : Int32)  (M : kz_M) (c sl : Nat) : Prop := kz_Z G (d + 11) mc ms mL_law Qr Qx 717 [(0, .retAddr x0), (1, .ref x1), (2, .ref x2), (3, .ref x3), (4, .ref x4), (5, .int x5)] [] M c sl
def zL_law_785 (G : kz_G) (d mc ms : Nat) (Qr : Option Value → kz_M → Prop) (Qx : String → kz_M → Prop) (x0 : Nat) (x1 : Nat) (x2 : Nat) (x3 : Nat) (x4 : Nat) (x5 : Int32)  (M : kz_M) (c sl : Nat) : Prop := kz_Z G (d + 11) mc ms mL_law Qr Qx 785 [(0, .retAddr x0), (1, .ref x1), (2, .ref x2), (3, .ref x3), (4, .ref x4), (5, .int x5)] [] M c sl
def zL_law_853 (G : kz_G) (d mc ms : Nat) (Qr : Option Value → kz_M → Prop) (Qx : String → kz_M → Prop) (x0 : Nat) (x1 : Nat) (x2 : Nat) (x3 : Nat) (x4 : Nat) (x5 : Int32)  (M : kz_M) (c sl : Nat) : Prop := kz_Z G (d + 11) mc ms mL_law Qr Qx 853 [(0, .retAddr x0), (1, .ref x1), (2, .ref x2), (3, .ref x3), (4, .ref x4), (5, .int x5)] [] M c sl
def zL_law_909 (G : kz_G) (d mc ms : Nat) (Qr : Option Value → kz_M → Prop) (Qx : String → kz_M → Prop) (x0 : Nat) (x1 : Nat) (x2 : Nat) (x3 : Nat) (x4 : Nat) (x5 : Int32)  (M : kz_M) (c sl : Nat) : Prop := kz_Z G (d + 11) mc ms mL_law Qr Qx 909 [(0, .retAddr x0), (1, .ref x1), (2, .ref x2), (3, .ref x3), (4, .ref x4), (5, .int x5)] [] M c sl
def zL_law_965 (G : kz_G) (d mc ms : Nat) (Qr : Option Value → kz_M → Prop) (Qx : String → kz_M → Prop) (x0 : Nat) (x1 : Nat) (x2 : Nat) (x3 : Nat) (x4 : Nat) (x5 : Int32)  (M : kz_M) (c sl : Nat) : Prop := kz_Z G (d + 11) mc ms mL_law Qr Qx 965 [(0, .retAddr x0), (1, .ref x1), (2, .ref x2), (3, .ref x3), (4, .ref x4), (5, .int x5)] [] M c sl
def zL_law_1033 (G : kz_G) (d mc ms : Nat) (Qr : Option Value → kz_M → Prop) (Qx : String → kz_M → Prop) (x0 : Nat) (x1 : Nat) (x2 : Nat) (x3 : Nat) (x4 : Nat) (x5 : Int32)  (M : kz_M) (c sl : Nat) : Prop := kz_Z G (d + 11) mc ms mL_law Qr Qx 1033 [(0, .retAddr x0), (1, .ref x1), (2, .ref x2), (3, .ref x3), (4, .ref x4), (5, .int x5)] [] M c sl
def zL_law_1089 (G : kz_G) (d mc ms : Nat) (Qr : Option Value → kz_M → Prop) (Qx : String → kz_M → Prop) (x0 : Nat) (x1 : Nat) (x2 : Nat) (x3 : Nat) (x4 : Nat) (x5 : Int32)  (M : kz_M) (c sl : Nat) : Prop := kz_Z G (d + 11) mc ms mL_law Qr Qx 1089 [(0, .retAddr x0), (1, .ref x1), (2, .ref x2), (3, .ref x3), (4, .ref x4), (5, .int x5)] [] M c sl
def zL_law_1145 (G : kz_G) (d mc ms : Nat) (Qr : Option Value → kz_M → Prop) (Qx : String → kz_M → Prop) (x0 : Nat) (x1 : Nat) (x2 : Nat) (x3 : Nat) (x4 : Nat) (x5 : Int32)  (M : kz_M) (c sl : Nat) : Prop := kz_Z G (d + 11) mc ms mL_law Qr Qx 1145 [(0, .retAddr x0), (1, .ref x1), (2, .ref x2), (3, .ref x3), (4, .ref x4), (5, .int x5)] [] M c sl
def zL_law_1201 (G : kz_G) (d mc ms : Nat) (Qr : Option Value → kz_M → Prop) (Qx : String → kz_M → Prop) (x0 : Nat) (x1 : Nat) (x2 : Nat) (x3 : Nat) (x4 : Nat) (x5 : Int32)  (M : kz_M) (c sl : Nat) : Prop := kz_Z G (d + 11) mc ms mL_law Qr Qx 1201 [(0, .retAddr x0), (1, .ref x1), (2, .ref x2), (3, .ref x3), (4, .ref x4), (5, .int x5)] [] M c sl
def zL_law_1269 (G : kz_G) (d mc ms : Nat) (Qr : Option Value → kz_M → Prop) (Qx : String → kz_M → Prop) (x0 : Nat) (x1 : Nat) (x2 : Nat) (x3 : Nat) (x4 : Nat) (x5 : Int32)  (M : kz_M) (c sl : Nat) : Prop := kz_Z G (d + 11) mc ms mL_law Qr Qx 1269 [(0, .retAddr x0), (1, .ref x1), (2, .ref x2), (3, .ref x3), (4, .ref x4), (5, .int x5)] [] M c sl
def zL_law_1349 (G : kz_G) (d mc ms : Nat) (Qr : Option Value → kz_M → Prop) (Qx : String → kz_M → Prop) (x0 : Nat) (x1 : Nat) (x2 : Nat) (x3 : Nat) (x4 : Nat) (x5 : Int32)  (M : kz_M) (c sl : Nat) : Prop := kz_Z G (d + 11) mc ms mL_law Qr Qx 1349 [(0, .retAddr x0), (1, .ref x1), (2, .ref x2), (3, .ref x3), (4, .ref x4), (5, .int x5)] [] M c sl
def zL_law_1362 (G : kz_G) (d mc ms : Nat) (Qr : Option Value → kz_M → Prop) (Qx : String → kz_M → Prop) (x0 : Nat) (x1 : Nat) (x2 : Nat) (x3 : Nat) (x4 : Nat) (x5 : Int32)  (M : kz_M) (c sl : Nat) : Prop := kz_Z G (d + 11) mc ms mL_law Qr Qx 1362 [(0, .retAddr x0), (1, .ref x1), (2, .ref x2), (3, .ref x3), (4, .ref x4), (5, .int x5)] [] M c sl
def zL_law_1418 (G : kz_G) (d mc ms : Nat) (Qr : Option Value → kz_M → Prop) (Qx : String → kz_M → Prop) (x0 : Nat) (x1 : Nat) (x2 : Nat) (x3 : Nat) (x4 : Nat) (x5 : Int32)  (M : kz_M) (c sl : Nat) : Prop := kz_Z G (d + 11) mc ms mL_law Qr Qx 1418 [(0, .retAddr x0), (1, .ref x1), (2, .ref x2), (3, .ref x3), (4, .ref x4), (5, .int x5)] [] M c sl
def zL_law_1495 (G : kz_G) (d mc ms : Nat) (Qr : Option Value → kz_M → Prop) (Qx : String → kz_M → Prop) (x0 : Nat) (x1 : Nat) (x2 : Nat) (x3 : Nat) (x4 : Nat) (x5 : Int32)  (M : kz_M) (c sl : Nat) : Prop := kz_Z G (d + 11) mc ms mL_law Qr Qx 1495 [(0, .retAddr x0), (1, .ref x1), (2, .ref x2), (3, .ref x3), (4, .ref x4), (5, .int x5)] [] M c sl
def zL_law_1573 (G : kz_G) (d mc ms : Nat) (Qr : Option Value → kz_M → Prop) (Qx : String → kz_M → Prop) (x0 : Nat) (x1 : Nat) (x2 : Nat) (x3 : Nat) (x4 : Nat) (x5 : Int32)  (M : kz_M) (c sl : Nat) : Prop := kz_Z G (d + 11) mc ms mL_law Qr Qx 1573 [(0, .retAddr x0), (1, .ref x1), (2, .ref x2), (3, .ref x3), (4, .ref x4), (5, .int x5)] [] M c sl
def zL_law_1641 (G : kz_G) (d mc ms : Nat) (Qr : Option Value → kz_M → Prop) (Qx : String → kz_M → Prop) (x0 : Nat) (x1 : Nat) (x2 : Nat) (x3 : Nat) (x4 : Nat) (x5 : Int32)  (M : kz_M) (c sl : Nat) : Prop := kz_Z G (d + 11) mc ms mL_law Qr Qx 1641 [(0, .retAddr x0), (1, .ref x1), (2, .ref x2), (3, .ref x3), (4, .ref x4), (5, .int x5)] [] M c sl
def zL_law_1709 (G : kz_G) (d mc ms : Nat) (Qr : Option Value → kz_M → Prop) (Qx : String → kz_M → Prop) (x0 : Nat) (x1 : Nat) (x2 : Nat) (x3 : Nat) (x4 : Nat) (x5 : Int32)  (M : kz_M) (c sl : Nat) : Prop := kz_Z G (d + 11) mc ms mL_law Qr Qx 1709 [(0, .retAddr x0), (1, .ref x1), (2, .ref x2), (3, .ref x3), (4, .ref x4), (5, .int x5)] [] M c sl
def zL_law_1765 (G : kz_G) (d mc ms : Nat) (Qr : Option Value → kz_M → Prop) (Qx : String → kz_M → Prop) (x0 : Nat) (x1 : Nat) (x2 : Nat) (x3 : Nat) (x4 : Nat) (x5 : Int32)  (M : kz_M) (c sl : Nat) : Prop := kz_Z G (d + 11) mc ms mL_law Qr Qx 1765 [(0, .retAddr x0), (1, .ref x1), (2, .ref x2), (3, .ref x3), (4, .ref x4), (5, .int x5)] [] M c sl
def zL_law_1845 (G : kz_G) (d mc ms : Nat) (Qr : Option Value → kz_M → Prop) (Qx : String → kz_M → Prop) (x0 : Nat) (x1 : Nat) (x2 : Nat) (x3 : Nat) (x4 : Nat) (x5 : Int32)  (M : kz_M) (c sl : Nat) : Prop := kz_Z G (d + 11) mc ms mL_law Qr Qx 1845 [(0, .retAddr x0), (1, .ref x1), (2, .ref x2), (3, .ref x3), (4, .ref x4), (5, .int x5)] [] M c sl
def zL_law_1925 (G : kz_G) (d mc ms : Nat) (Qr : Option Value → kz_M → Prop) (Qx : String → kz_M → Prop) (x0 : Nat) (x1 : Nat) (x2 : Nat) (x3 : Nat) (x4 : Nat) (x5 : Int32)  (M : kz_M) (c sl : Nat) : Prop := kz_Z G (d + 11) mc ms mL_law Qr Qx 1925 [(0, .retAddr x0), (1, .ref x1), (2, .ref x2), (3, .ref x3), (4, .ref x4), (5, .int x5)] [] M c sl
def zL_law_2005 (G : kz_G) (d mc ms : Nat) (Qr : Option Value → kz_M → Prop) (Qx : String → kz_M → Prop) (x0 : Nat) (x1 : Nat) (x2 : Nat) (x3 : Nat) (x4 : Nat) (x5 : Int32)  (M : kz_M) (c sl : Nat) : Prop := kz_Z G (d + 11) mc ms mL_law Qr Qx 2005 [(0, .retAddr x0), (1, .ref x1), (2, .ref x2), (3, .ref x3), (4, .ref x4), (5, .int x5)] [] M c sl
def zL_law_2073 (G : kz_G) (d mc ms : Nat) (Qr : Option Value → kz_M → Prop) (Qx : String → kz_M → Prop) (x0 : Nat) (x1 : Nat) (x2 : Nat) (x3 : Nat) (x4 : Nat) (x5 : Int32)  (M : kz_M) (c sl : Nat) : Prop := kz_Z G (d + 11) mc ms mL_law Qr Qx 2073 [(0, .retAddr x0), (1, .ref x1), (2, .ref x2), (3, .ref x3), (4, .ref x4), (5, .int x5)] [] M c sl
def zL_law_2129 (G : kz_G) (d mc ms : Nat) (Qr : Option Value → kz_M → Prop) (Qx : String → kz_M → Prop) (x0 : Nat) (x1 : Nat) (x2 : Nat) (x3 : Nat) (x4 : Nat) (x5 : Int32)  (M : kz_M) (c sl : Nat) : Prop := kz_Z G (d + 11) mc ms mL_law Qr Qx 2129 [(0, .retAddr x0), (1, .ref x1), (2, .ref x2), (3, .ref x3), (4, .ref x4), (5, .int x5)] [] M c sl
def zL_law_2185 (G : kz_G) (d mc ms : Nat) (Qr : Option Value → kz_M → Prop) (Qx : String → kz_M → Prop) (x0 : Nat) (x1 : Nat) (x2 : Nat) (x3 : Nat) (x4 : Nat) (x5 : Int32)  (M : kz_M) (c sl : Nat) : Prop := kz_Z G (d + 11) mc ms mL_law Qr Qx 2185 [(0, .retAddr x0), (1, .ref x1), (2, .ref x2), (3, .ref x3), (4, .ref x4), (5, .int x5)] [] M c sl
def zL_law_2265 (G : kz_G) (d mc ms : Nat) (Qr : Option Value → kz_M → Prop) (Qx : String → kz_M → Prop) (x0 : Nat) (x1 : Nat) (x2 : Nat) (x3 : Nat) (x4 : Nat) (x5 : Int32)  (M : kz_M) (c sl : Nat) : Prop := kz_Z G (d + 11) mc ms mL_law Qr Qx 2265 [(0, .retAddr x0), (1, .ref x1), (2, .ref x2), (3, .ref x3), (4, .ref x4), (5, .int x5)] [] M c sl
def zL_law_2333 (G : kz_G) (d mc ms : Nat) (Qr : Option Value → kz_M → Prop) (Qx : String → kz_M → Prop) (x0 : Nat) (x1 : Nat) (x2 : Nat) (x3 : Nat) (x4 : Nat) (x5 : Int32)  (M : kz_M) (c sl : Nat) : Prop := kz_Z G (d + 11) mc ms mL_law Qr Qx 2333 [(0, .retAddr x0), (1, .ref x1), (2, .ref x2), (3, .ref x3), (4, .ref x4), (5, .int x5)] [] M c sl
def zL_law_2389 (G : kz_G) (d mc ms : Nat) (Qr : Option Value → kz_M → Prop) (Qx : String → kz_M → Prop) (x0 : Nat) (x1 : Nat) (x2 : Nat) (x3 : Nat) (x4 : Nat) (x5 : Int32)  (M : kz_M) (c sl : Nat) : Prop := kz_Z G (d + 11) mc ms mL_law Qr Qx 2389 [(0, .retAddr x0), (1, .ref x1), (2, .ref x2), (3, .ref x3), (4, .ref x4), (5, .int x5)] [] M c sl
def zL_law_2457 (G : kz_G) (d mc ms : Nat) (Qr : Option Value → kz_M → Prop) (Qx : String → kz_M → Prop) (x0 : Nat) (x1 : Nat) (x2 : Nat) (x3 : Nat) (x4 : Nat) (x5 : Int32)  (M : kz_M) (c sl : Nat) : Prop := kz_Z G (d + 11) mc ms mL_law Qr Qx 2457 [(0, .retAddr x0), (1, .ref x1), (2, .ref x2), (3, .ref x3), (4, .ref x4), (5, .int x5)] [] M c sl
def zL_law_2470 (G : kz_G) (d mc ms : Nat) (Qr : Option Value → kz_M → Prop) (Qx : String → kz_M → Prop) (x0 : Nat) (x1 : Nat) (x2 : Nat) (x3 : Nat) (x4 : Nat) (x5 : Int32)  (M : kz_M) (c sl : Nat) : Prop := kz_Z G (d + 11) mc ms mL_law Qr Qx 2470 [(0, .retAddr x0), (1, .ref x1), (2, .ref x2), (3, .ref x3), (4, .ref x4), (5, .int x5)] [] M c sl
def zL_law_2526 (G : kz_G) (d mc ms : Nat) (Qr : Option Value → kz_M → Prop) (Qx : String → kz_M → Prop) (x0 : Nat) (x1 : Nat) (x2 : Nat) (x3 : Nat) (x4 : Nat) (x5 : Int32)  (M : kz_M) (c sl : Nat) : Prop := kz_Z G (d + 11) mc ms mL_law Qr Qx 2526 [(0, .retAddr x0), (1, .ref x1), (2, .ref x2), (3, .ref x3), (4, .ref x4), (5, .int x5)] [] M c sl
def zL_law_2582 (G : kz_G) (d mc ms : Nat) (Qr : Option Value → kz_M → Prop) (Qx : String → kz_M → Prop) (x0 : Nat) (x1 : Nat) (x2 : Nat) (x3 : Nat) (x4 : Nat) (x5 : Int32)  (M : kz_M) (c sl : Nat) : Prop := kz_Z G (d + 11) mc ms mL_law Qr Qx 2582 [(0, .retAddr x0), (1, .ref x1), (2, .ref x2), (3, .ref x3), (4, .ref x4), (5, .int x5)] [] M c sl
def zL_law_2650 (G : kz_G) (d mc ms : Nat) (Qr : Option Value → kz_M → Prop) (Qx : String → kz_M → Prop) (x0 : Nat) (x1 : Nat) (x2 : Nat) (x3 : Nat) (x4 : Nat) (x5 : Int32)  (M : kz_M) (c sl : Nat) : Prop := kz_Z G (d + 11) mc ms mL_law Qr Qx 2650 [(0, .retAddr x0), (1, .ref x1), (2, .ref x2), (3, .ref x3), (4, .ref x4), (5, .int x5)] [] M c sl
def zL_law_2694 (G : kz_G) (d mc ms : Nat) (Qr : Option Value → kz_M → Prop) (Qx : String → kz_M → Prop) (x0 : Nat) (x1 : Nat) (x2 : Nat) (x3 : Nat) (x4 : Nat) (x5 : Int32)  (M : kz_M) (c sl : Nat) : Prop := kz_Z G (d + 11) mc ms mL_law Qr Qx 2694 [(0, .retAddr x0), (1, .ref x1), (2, .ref x2), (3, .ref x3), (4, .ref x4), (5, .int x5)] [] M c sl
def zL_law_2762 (G : kz_G) (d mc ms : Nat) (Qr : Option Value → kz_M → Prop) (Qx : String → kz_M → Prop) (x0 : Nat) (x1 : Nat) (x2 : Nat) (x3 : Nat) (x4 : Nat) (x5 : Int32)  (M : kz_M) (c sl : Nat) : Prop := kz_Z G (d + 11) mc ms mL_law Qr Qx 2762 [(0, .retAddr x0), (1, .ref x1), (2, .ref x2), (3, .ref x3), (4, .ref x4), (5, .int x5)] [] M c sl
def zL_law_2818 (G : kz_G) (d mc ms : Nat) (Qr : Option Value → kz_M → Prop) (Qx : String → kz_M → Prop) (x0 : Nat) (x1 : Nat) (x2 : Nat) (x3 : Nat) (x4 : Nat) (x5 : Int32)  (M : kz_M) (c sl : Nat) : Prop := kz_Z G (d + 11) mc ms mL_law Qr Qx 2818 [(0, .retAddr x0), (1, .ref x1), (2, .ref x2), (3, .ref x3), (4, .ref x4), (5, .int x5)] [] M c sl
def zL_law_2831 (G : kz_G) (d mc ms : Nat) (Qr : Option Value → kz_M → Prop) (Qx : String → kz_M → Prop) (x0 : Nat) (x1 : Nat) (x2 : Nat) (x3 : Nat) (x4 : Nat) (x5 : Int32)  (M : kz_M) (c sl : Nat) : Prop := kz_Z G (d + 11) mc ms mL_law Qr Qx 2831 [(0, .retAddr x0), (1, .ref x1), (2, .ref x2), (3, .ref x3), (4, .ref x4), (5, .int x5)] [] M c sl
def zL_law_2856 (G : kz_G) (d mc ms : Nat) (Qr : Option Value → kz_M → Prop) (Qx : String → kz_M → Prop) (x0 : Nat) (x1 : Nat) (x2 : Nat) (x3 : Nat) (x4 : Nat) (x5 : Int32)  (M : kz_M) (c sl : Nat) : Prop := kz_Z G (d + 11) mc ms mL_law Qr Qx 2856 [(0, .retAddr x0), (1, .ref x1), (2, .ref x2), (3, .ref x3), (4, .ref x4), (5, .int x5)] [] M c sl
def zL_law_2869 (G : kz_G) (d mc ms : Nat) (Qr : Option Value → kz_M → Prop) (Qx : String → kz_M → Prop) (x0 : Nat) (x1 : Nat) (x2 : Nat) (x3 : Nat) (x4 : Nat) (x5 : Int32)  (M : kz_M) (c sl : Nat) : Prop := kz_Z G (d + 11) mc ms mL_law Qr Qx 2869 [(0, .retAddr x0), (1, .ref x1), (2, .ref x2), (3, .ref x3), (4, .ref x4), (5, .int x5)] [] M c sl
def zL_law_2913 (G : kz_G) (d mc ms : Nat) (Qr : Option Value → kz_M → Prop) (Qx : String → kz_M → Prop) (x0 : Nat) (x1 : Nat) (x2 : Nat) (x3 : Nat) (x4 : Nat) (x5 : Int32)  (M : kz_M) (c sl : Nat) : Prop := kz_Z G (d + 11) mc ms mL_law Qr Qx 2913 [(0, .retAddr x0), (1, .ref x1), (2, .ref x2), (3, .ref x3), (4, .ref x4), (5, .int x5)] [] M c sl
theorem rL_law_0 {G : kz_G} {N : Nat} {xs : Nat → Int32} {d : Nat} {mc ms : Nat} {Qr : Option Value → kz_M → Prop} {Qx : String → kz_M → Prop} {x0 : Nat}  {M : kz_M} {c sl : Nat} (hc : c ≤ mc) (hs : sl ≤ ms) (hX : va_X (G.2.2.2 x0) N xs G.2.2.1 G.2.2.1.heap) (hbs : G.2.2.2 x0 < G.2.2.1.heap.size) (h : c + 1 ≤ mc ∧ sl + 10 ≤ ms ∧ (∃ mc4 ms4, c + 1 + mc4 ≤ mc ∧ sl + 10 + ms4 ≤ ms ∧ kz_C G (d + 10) mc4 ms4 mX11_init [.ref ((M).2)] (kz_nw M (.inl (10, [.null, .null, .null, .null, .null, .null, .null, .int 0, .int 0, .int 0]))) (fun v M2 => v = none ∧ (c + 1 + mc4 + 1 ≤ mc ∧ sl + 10 + ms4 + 32 ≤ ms ∧ (∀ M6, M6 = kz_nw M2 (.inl (11, [.null, .null, .null, .null, .null, .null, .null, .int 0, .int 0, .int 0, .null, .long 0, .int 0, .int 0, .null, .null, .null, .null, .null, .int 0, .int 0, .int 0, .int 0, .int 0, .int 0, .int 0, .int 0, .int 0, .int 0, .int 0, .null, .int 0])) → ∃ mc9 ms9, c + 1 + mc4 + 1 + mc9 ≤ mc ∧ sl + 10 + ms4 + 32 + ms9 ≤ ms ∧ kz_C G (d + 10) mc9 ms9 mX12_init [.ref ((M2).2)] M6 (fun v M7 => v = none ∧ (∃ N10, ¬ (1 : Int32) < 0 ∧ (1 : Int32).toNatClampNeg = N10 ∧ N10 ≤ 60000000 ∧ c + 1 + mc4 + 1 + mc9 + 1 ≤ mc ∧ sl + 10 + ms4 + 32 + ms9 + N10 ≤ ms ∧ (∃ N12, ¬ (1 : Int32) < 0 ∧ (1 : Int32).toNatClampNeg = N12 ∧ N12 ≤ 60000000 ∧ c + 1 + mc4 + 1 + mc9 + 1 + 1 ≤ mc ∧ sl + 10 + ms4 + 32 + ms9 + N10 + N12 ≤ ms ∧ (zL_law_28 G d mc ms Qr Qx x0 ((M).2) ((M2).2) ((M7).2) ((kz_nw M7 (.inr (.long, N10, .inr (.inl (fun _ => 0))))).2) 0 (kz_nw (kz_nw M7 (.inr (.long, N10, .inr (.inl (fun _ => 0))))) (.inr (.double, N12, .inr (.inr (.inr (.inl (fun _ => 0))))))) (c + 1 + mc4 + 1 + mc9 + 1 + 1) (sl + 10 + ms4 + 32 + ms9 + N10 + N12))))) Qx))) Qx)) : zL_law_0 G d mc ms Qr Qx x0  M c sl := by
  show kz_Z G (d + 11) mc ms mL_law Qr Qx 0 [(0, .retAddr x0)] [] M c sl
  obtain ⟨hc1, hs1, h⟩ := h
  refine kz_newc (pc := 0) kcX11 rfl kw_28 kw_29 kw_1 hc1 hs1 dL_law_0 ?_
  refine kz_dup (pc := 3) rfl dL_law_3 ?_
  obtain ⟨mc4, ms4, hc4, hs4, h⟩ := h
  refine kz_callI (pc := 4) (μ' := mX11_init) (b := (M).2) (d' := d + 10) (mc' := mc4) (ms' := ms4) (As := []) (st := [.ref ((M).2)]) (c := c + 1) (sl := sl + 10) kmX11_init kw_30 (by omega) rfl (Nat.le_of_ble_eq_true rfl) hc4 hs4 dL_law_4 (fun E M9 hx => kz_Tout rfl hc4 hs4 hx) (kz_Cmono (fun v M2 h => ?_) (fun _ _ h => h) h)
  obtain ⟨rfl, h⟩ := h
  show kz_Z G (d + 11) mc ms mL_law Qr Qx 7 [(0, .retAddr x0)] [.ref ((M).2)] M2 (c + 1 + mc4) (sl + 10 + ms4)
  refine kz_astore_n (pc := 7) (i := 1) (v := .ref ((M).2)) (ls' := [(0, .retAddr x0)]) rfl rfl (by decide) rfl dL_law_7 ?_
  obtain ⟨hc5, hs5, h⟩ := h
  refine kz_newc (pc := 8) kcX12 rfl kw_1364 kw_1365 kw_13 hc5 hs5 dL_law_8 ?_
  refine kz_nameM (fun M6 e9 => ?_)
  replace h := h M6 e9
  refine kz_dup (pc := 11) rfl dL_law_11 ?_
  obtain ⟨mc9, ms9, hc9, hs9, h⟩ := h
  refine kz_callI (pc := 12) (μ' := mX12_init) (b := (M2).2) (d' := d + 10) (mc' := mc9) (ms' := ms9) (As := []) (st := [.ref ((M2).2)]) (c := c + 1 + mc4 + 1) (sl := sl + 10 + ms4 + 32) kmX12_init kw_1366 (by omega) rfl (Nat.le_of_ble_eq_true rfl) hc9 hs9 dL_law_12 (fun E M9 hx => kz_Tout rfl hc9 hs9 hx) (kz_Cmono (fun v M7 h => ?_) (fun _ _ h => h) h)
  obtain ⟨rfl, h⟩ := h
  show kz_Z G (d + 11) mc ms mL_law Qr Qx 15 [(1, .ref ((M).2)), (0, .retAddr x0)] [.ref ((M2).2)] M7 (c + 1 + mc4 + 1 + mc9) (sl + 10 + ms4 + 32 + ms9)
  refine kz_astore_n (pc := 15) (i := 2) (v := .ref ((M2).2)) (ls' := [(1, .ref ((M).2)), (0, .retAddr x0)]) rfl rfl (by decide) rfl dL_law_15 ?_
  refine kz_iconst (pc := 16) (v := 1) (by decide) dL_law_16 ?_
  obtain ⟨N10, hn, hN, hb8, hc11, hs11, h⟩ := h
  refine kz_newaL (pc := 17) N10 kw_92 hn hN hb8 hc11 hs11 dL_law_17 ?_
  refine kz_astore_n (pc := 19) (i := 3) (v := .ref ((M7).2)) (ls' := [(2, .ref ((M2).2)), (1, .ref ((M).2)), (0, .retAddr x0)]) rfl rfl (by decide) rfl dL_law_19 ?_
  refine kz_iconst (pc := 20) (v := 1) (by decide) dL_law_20 ?_
  obtain ⟨N12, hn, hN, hb8, hc13, hs13, h⟩ := h
  refine kz_newaD (pc := 21) N12 kw_2034 hn hN hb8 hc13 hs13 dL_law_21 ?_
  refine kz_astore (pc := 23) (i := 4) (v := .ref ((kz_nw M7 (.inr (.long, N10, .inr (.inl (fun _ => 0))))).2)) (ls' := [(3, .ref ((M7).2)), (2, .ref ((M2).2)), (1, .ref ((M).2)), (0, .retAddr x0)]) rfl (by decide) rfl dL_law_23 ?_
  refine kz_iconst (pc := 25) (v := 0) (by decide) dL_law_25 ?_
  refine kz_istore (pc := 26) (i := 5) (ls' := [(4, .ref ((kz_nw M7 (.inr (.long, N10, .inr (.inl (fun _ => 0))))).2)), (3, .ref ((M7).2)), (2, .ref ((M2).2)), (1, .ref ((M).2)), (0, .retAddr x0)]) (by decide) rfl dL_law_26 ?_
  refine kz_sub [5, 4, 3, 2, 1, 0] rfl ?_
  exact h
theorem rL_law_28 {G : kz_G} {N : Nat} {xs : Nat → Int32} {d : Nat} {mc ms : Nat} {Qr : Option Value → kz_M → Prop} {Qx : String → kz_M → Prop} {x0 : Nat} {x1 : Nat} {x2 : Nat} {x3 : Nat} {x4 : Nat} {x5 : Int32}  {M : kz_M} {c sl : Nat} (hc : c ≤ mc) (hs : sl ≤ ms) (hX : va_X (G.2.2.2 x0) N xs G.2.2.1 G.2.2.1.heap) (hbs : G.2.2.2 x0 < G.2.2.1.heap.size) (h : (((Int32.ofNat N) - 6) < x5 → Qr (some (.int 1)) M) ∧ (¬ ((Int32.ofNat N) - 6) < x5 → vp_in x5 N ∧ ((((xs x5.toNatClampNeg) &&& 63) = 0 → zL_law_252 G d mc ms Qr Qx x0 x1 x2 x3 x4 x5 M c sl) ∧ (((xs x5.toNatClampNeg) &&& 63) = 1 → zL_law_325 G d mc ms Qr Qx x0 x1 x2 x3 x4 x5 M c sl) ∧ (((xs x5.toNatClampNeg) &&& 63) = 2 → zL_law_350 G d mc ms Qr Qx x0 x1 x2 x3 x4 x5 M c sl) ∧ (((xs x5.toNatClampNeg) &&& 63) = 3 → zL_law_363 G d mc ms Qr Qx x0 x1 x2 x3 x4 x5 M c sl) ∧ (((xs x5.toNatClampNeg) &&& 63) = 4 → zL_law_376 G d mc ms Qr Qx x0 x1 x2 x3 x4 x5 M c sl) ∧ (((xs x5.toNatClampNeg) &&& 63) = 5 → zL_law_389 G d mc ms Qr Qx x0 x1 x2 x3 x4 x5 M c sl) ∧ (((xs x5.toNatClampNeg) &&& 63) = 6 → zL_law_445 G d mc ms Qr Qx x0 x1 x2 x3 x4 x5 M c sl) ∧ (((xs x5.toNatClampNeg) &&& 63) = 7 → zL_law_501 G d mc ms Qr Qx x0 x1 x2 x3 x4 x5 M c sl) ∧ (((xs x5.toNatClampNeg) &&& 63) = 8 → zL_law_569 G d mc ms Qr Qx x0 x1 x2 x3 x4 x5 M c sl) ∧ (((xs x5.toNatClampNeg) &&& 63) = 9 → zL_law_637 G d mc ms Qr Qx x0 x1 x2 x3 x4 x5 M c sl) ∧ (((xs x5.toNatClampNeg) &&& 63) = 10 → zL_law_717 G d mc ms Qr Qx x0 x1 x2 x3 x4 x5 M c sl) ∧ (((xs x5.toNatClampNeg) &&& 63) = 11 → zL_law_785 G d mc ms Qr Qx x0 x1 x2 x3 x4 x5 M c sl) ∧ (((xs x5.toNatClampNeg) &&& 63) = 12 → zL_law_853 G d mc ms Qr Qx x0 x1 x2 x3 x4 x5 M c sl) ∧ (((xs x5.toNatClampNeg) &&& 63) = 13 → zL_law_909 G d mc ms Qr Qx x0 x1 x2 x3 x4 x5 M c sl) ∧ (((xs x5.toNatClampNeg) &&& 63) = 14 → zL_law_965 G d mc ms Qr Qx x0 x1 x2 x3 x4 x5 M c sl) ∧ (((xs x5.toNatClampNeg) &&& 63) = 15 → zL_law_1033 G d mc ms Qr Qx x0 x1 x2 x3 x4 x5 M c sl) ∧ (((xs x5.toNatClampNeg) &&& 63) = 16 → zL_law_1089 G d mc ms Qr Qx x0 x1 x2 x3 x4 x5 M c sl) ∧ (((xs x5.toNatClampNeg) &&& 63) = 17 → zL_law_1145 G d mc ms Qr Qx x0 x1 x2 x3 x4 x5 M c sl) ∧ (((xs x5.toNatClampNeg) &&& 63) = 18 → zL_law_1201 G d mc ms Qr Qx x0 x1 x2 x3 x4 x5 M c sl) ∧ (((xs x5.toNatClampNeg) &&& 63) = 19 → zL_law_1269 G d mc ms Qr Qx x0 x1 x2 x3 x4 x5 M c sl) ∧ (((xs x5.toNatClampNeg) &&& 63) = 20 → zL_law_1349 G d mc ms Qr Qx x0 x1 x2 x3 x4 x5 M c sl) ∧ (((xs x5.toNatClampNeg) &&& 63) = 21 → zL_law_1362 G d mc ms Qr Qx x0 x1 x2 x3 x4 x5 M c sl) ∧ (((xs x5.toNatClampNeg) &&& 63) = 22 → zL_law_1418 G d mc ms Qr Qx x0 x1 x2 x3 x4 x5 M c sl) ∧ (((xs x5.toNatClampNeg) &&& 63) = 23 → zL_law_1495 G d mc ms Qr Qx x0 x1 x2 x3 x4 x5 M c sl) ∧ (((xs x5.toNatClampNeg) &&& 63) = 24 → zL_law_1573 G d mc ms Qr Qx x0 x1 x2 x3 x4 x5 M c sl) ∧ (((xs x5.toNatClampNeg) &&& 63) = 25 → zL_law_1641 G d mc ms Qr Qx x0 x1 x2 x3 x4 x5 M c sl) ∧ (((xs x5.toNatClampNeg) &&& 63) = 26 → zL_law_1709 G d mc ms Qr Qx x0 x1 x2 x3 x4 x5 M c sl) ∧ (((xs x5.toNatClampNeg) &&& 63) = 27 → zL_law_1765 G d mc ms Qr Qx x0 x1 x2 x3 x4 x5 M c sl) ∧ (((xs x5.toNatClampNeg) &&& 63) = 28 → zL_law_1845 G d mc ms Qr Qx x0 x1 x2 x3 x4 x5 M c sl) ∧ (((xs x5.toNatClampNeg) &&& 63) = 29 → zL_law_1925 G d mc ms Qr Qx x0 x1 x2 x3 x4 x5 M c sl) ∧ (((xs x5.toNatClampNeg) &&& 63) = 30 → zL_law_2005 G d mc ms Qr Qx x0 x1 x2 x3 x4 x5 M c sl) ∧ (((xs x5.toNatClampNeg) &&& 63) = 31 → zL_law_2073 G d mc ms Qr Qx x0 x1 x2 x3 x4 x5 M c sl) ∧ (((xs x5.toNatClampNeg) &&& 63) = 32 → zL_law_2129 G d mc ms Qr Qx x0 x1 x2 x3 x4 x5 M c sl) ∧ (((xs x5.toNatClampNeg) &&& 63) = 33 → zL_law_2185 G d mc ms Qr Qx x0 x1 x2 x3 x4 x5 M c sl) ∧ (((xs x5.toNatClampNeg) &&& 63) = 34 → zL_law_2265 G d mc ms Qr Qx x0 x1 x2 x3 x4 x5 M c sl) ∧ (((xs x5.toNatClampNeg) &&& 63) = 35 → zL_law_2333 G d mc ms Qr Qx x0 x1 x2 x3 x4 x5 M c sl) ∧ (((xs x5.toNatClampNeg) &&& 63) = 36 → zL_law_2389 G d mc ms Qr Qx x0 x1 x2 x3 x4 x5 M c sl) ∧ (((xs x5.toNatClampNeg) &&& 63) = 37 → zL_law_2457 G d mc ms Qr Qx x0 x1 x2 x3 x4 x5 M c sl) ∧ (((xs x5.toNatClampNeg) &&& 63) = 38 → zL_law_2470 G d mc ms Qr Qx x0 x1 x2 x3 x4 x5 M c sl) ∧ (((xs x5.toNatClampNeg) &&& 63) = 39 → zL_law_2526 G d mc ms Qr Qx x0 x1 x2 x3 x4 x5 M c sl) ∧ (((xs x5.toNatClampNeg) &&& 63) = 40 → zL_law_2582 G d mc ms Qr Qx x0 x1 x2 x3 x4 x5 M c sl) ∧ (((xs x5.toNatClampNeg) &&& 63) = 41 → zL_law_2650 G d mc ms Qr Qx x0 x1 x2 x3 x4 x5 M c sl) ∧ (((xs x5.toNatClampNeg) &&& 63) = 42 → zL_law_2694 G d mc ms Qr Qx x0 x1 x2 x3 x4 x5 M c sl) ∧ (((xs x5.toNatClampNeg) &&& 63) = 43 → zL_law_2762 G d mc ms Qr Qx x0 x1 x2 x3 x4 x5 M c sl) ∧ (((xs x5.toNatClampNeg) &&& 63) = 44 → zL_law_2818 G d mc ms Qr Qx x0 x1 x2 x3 x4 x5 M c sl) ∧ (((xs x5.toNatClampNeg) &&& 63) = 45 → zL_law_2831 G d mc ms Qr Qx x0 x1 x2 x3 x4 x5 M c sl) ∧ (((xs x5.toNatClampNeg) &&& 63) = 46 → zL_law_2856 G d mc ms Qr Qx x0 x1 x2 x3 x4 x5 M c sl) ∧ (((xs x5.toNatClampNeg) &&& 63) = 47 → zL_law_2869 G d mc ms Qr Qx x0 x1 x2 x3 x4 x5 M c sl) ∧ (¬ ((xs x5.toNatClampNeg) &&& 63) = 0 → ¬ ((xs x5.toNatClampNeg) &&& 63) = 1 → ¬ ((xs x5.toNatClampNeg) &&& 63) = 2 → ¬ ((xs x5.toNatClampNeg) &&& 63) = 3 → ¬ ((xs x5.toNatClampNeg) &&& 63) = 4 → ¬ ((xs x5.toNatClampNeg) &&& 63) = 5 → ¬ ((xs x5.toNatClampNeg) &&& 63) = 6 → ¬ ((xs x5.toNatClampNeg) &&& 63) = 7 → ¬ ((xs x5.toNatClampNeg) &&& 63) = 8 → ¬ ((xs x5.toNatClampNeg) &&& 63) = 9 → ¬ ((xs x5.toNatClampNeg) &&& 63) = 10 → ¬ ((xs x5.toNatClampNeg) &&& 63) = 11 → ¬ ((xs x5.toNatClampNeg) &&& 63) = 12 → ¬ ((xs x5.toNatClampNeg) &&& 63) = 13 → ¬ ((xs x5.toNatClampNeg) &&& 63) = 14 → ¬ ((xs x5.toNatClampNeg) &&& 63) = 15 → ¬ ((xs x5.toNatClampNeg) &&& 63) = 16 → ¬ ((xs x5.toNatClampNeg) &&& 63) = 17 → ¬ ((xs x5.toNatClampNeg) &&& 63) = 18 → ¬ ((xs x5.toNatClampNeg) &&& 63) = 19 → ¬ ((xs x5.toNatClampNeg) &&& 63) = 20 → ¬ ((xs x5.toNatClampNeg) &&& 63) = 21 → ¬ ((xs x5.toNatClampNeg) &&& 63) = 22 → ¬ ((xs x5.toNatClampNeg) &&& 63) = 23 → ¬ ((xs x5.toNatClampNeg) &&& 63) = 24 → ¬ ((xs x5.toNatClampNeg) &&& 63) = 25 → ¬ ((xs x5.toNatClampNeg) &&& 63) = 26 → ¬ ((xs x5.toNatClampNeg) &&& 63) = 27 → ¬ ((xs x5.toNatClampNeg) &&& 63) = 28 → ¬ ((xs x5.toNatClampNeg) &&& 63) = 29 → ¬ ((xs x5.toNatClampNeg) &&& 63) = 30 → ¬ ((xs x5.toNatClampNeg) &&& 63) = 31 → ¬ ((xs x5.toNatClampNeg) &&& 63) = 32 → ¬ ((xs x5.toNatClampNeg) &&& 63) = 33 → ¬ ((xs x5.toNatClampNeg) &&& 63) = 34 → ¬ ((xs x5.toNatClampNeg) &&& 63) = 35 → ¬ ((xs x5.toNatClampNeg) &&& 63) = 36 → ¬ ((xs x5.toNatClampNeg) &&& 63) = 37 → ¬ ((xs x5.toNatClampNeg) &&& 63) = 38 → ¬ ((xs x5.toNatClampNeg) &&& 63) = 39 → ¬ ((xs x5.toNatClampNeg) &&& 63) = 40 → ¬ ((xs x5.toNatClampNeg) &&& 63) = 41 → ¬ ((xs x5.toNatClampNeg) &&& 63) = 42 → ¬ ((xs x5.toNatClampNeg) &&& 63) = 43 → ¬ ((xs x5.toNatClampNeg) &&& 63) = 44 → ¬ ((xs x5.toNatClampNeg) &&& 63) = 45 → ¬ ((xs x5.toNatClampNeg) &&& 63) = 46 → ¬ ((xs x5.toNatClampNeg) &&& 63) = 47 → zL_law_2913 G d mc ms Qr Qx x0 x1 x2 x3 x4 x5 M c sl)))) : zL_law_28 G d mc ms Qr Qx x0 x1 x2 x3 x4 x5  M c sl := by
  show kz_Z G (d + 11) mc ms mL_law Qr Qx 28 [(0, .retAddr x0), (1, .ref x1), (2, .ref x2), (3, .ref x3), (4, .ref x4), (5, .int x5)] [] M c sl
  refine kz_iload (pc := 28) 5 (i := 5) rfl dL_law_28 ?_
  refine kz_aload_n (pc := 30) 0 (v := .retAddr x0) (i := 0) rfl rfl rfl dL_law_30 ?_
  refine kz_slen (pc := 31) hX hbs dL_law_31 ?_
  refine kz_bipush (pc := 32) (v := 6) (by decide) dL_law_32 ?_
  refine kz_isub (pc := 34) dL_law_34 ?_
  refine kz_icmp_gt (pc := 35) (tgt := 2919) (by decide) dL_law_35 (fun hb => ?_) (fun hb => ?_)
  · replace h := h.1 hb
    refine kz_iconst (pc := 2919) (v := 1) (by decide) dL_law_2919 ?_
    exact kz_zret (pc := 2920) (ty := .boolean) rfl (by decide) hc hs dL_law_2920 h
  · replace h := h.2 hb
    refine kz_aload_n (pc := 38) 0 (v := .retAddr x0) (i := 0) rfl rfl rfl dL_law_38 ?_
    refine kz_iload (pc := 39) 5 (i := 5) rfl dL_law_39 ?_
    obtain ⟨hi, h⟩ := h
    refine kz_sld (pc := 41) hX hbs hi dL_law_41 ?_
    refine kz_bipush (pc := 42) (v := 63) (by decide) dL_law_42 ?_
    refine kz_iand (pc := 44) dL_law_44 ?_
    by_cases hk0 : ((xs x5.toNatClampNeg) &&& 63) = 0
    · replace h := h.1 hk0
      refine kz_tableIn (pc := 45) (off := 207) (tgt := 252) (by rw [hk0]; decide) (by rw [hk0]; decide) (by rw [hk0]; decide) (by decide) dL_law_45 ?_
      exact h
    by_cases hk1 : ((xs x5.toNatClampNeg) &&& 63) = 1
    · replace h := h.2.1 hk1
      refine kz_tableIn (pc := 45) (off := 280) (tgt := 325) (by rw [hk1]; decide) (by rw [hk1]; decide) (by rw [hk1]; decide) (by decide) dL_law_45 ?_
      exact h
    by_cases hk2 : ((xs x5.toNatClampNeg) &&& 63) = 2
    · replace h := h.2.2.1 hk2
      refine kz_tableIn (pc := 45) (off := 305) (tgt := 350) (by rw [hk2]; decide) (by rw [hk2]; decide) (by rw [hk2]; decide) (by decide) dL_law_45 ?_
      exact h
    by_cases hk3 : ((xs x5.toNatClampNeg) &&& 63) = 3
    · replace h := h.2.2.2.1 hk3
      refine kz_tableIn (pc := 45) (off := 318) (tgt := 363) (by rw [hk3]; decide) (by rw [hk3]; decide) (by rw [hk3]; decide) (by decide) dL_law_45 ?_
      exact h
    by_cases hk4 : ((xs x5.toNatClampNeg) &&& 63) = 4
    · replace h := h.2.2.2.2.1 hk4
      refine kz_tableIn (pc := 45) (off := 331) (tgt := 376) (by rw [hk4]; decide) (by rw [hk4]; decide) (by rw [hk4]; decide) (by decide) dL_law_45 ?_
      exact h
    by_cases hk5 : ((xs x5.toNatClampNeg) &&& 63) = 5
    · replace h := h.2.2.2.2.2.1 hk5
      refine kz_tableIn (pc := 45) (off := 344) (tgt := 389) (by rw [hk5]; decide) (by rw [hk5]; decide) (by rw [hk5]; decide) (by decide) dL_law_45 ?_
      exact h
    by_cases hk6 : ((xs x5.toNatClampNeg) &&& 63) = 6
    · replace h := h.2.2.2.2.2.2.1 hk6
      refine kz_tableIn (pc := 45) (off := 400) (tgt := 445) (by rw [hk6]; decide) (by rw [hk6]; decide) (by rw [hk6]; decide) (by decide) dL_law_45 ?_
      exact h
    by_cases hk7 : ((xs x5.toNatClampNeg) &&& 63) = 7
    · replace h := h.2.2.2.2.2.2.2.1 hk7
      refine kz_tableIn (pc := 45) (off := 456) (tgt := 501) (by rw [hk7]; decide) (by rw [hk7]; decide) (by rw [hk7]; decide) (by decide) dL_law_45 ?_
      exact h
    by_cases hk8 : ((xs x5.toNatClampNeg) &&& 63) = 8
    · replace h := h.2.2.2.2.2.2.2.2.1 hk8
      refine kz_tableIn (pc := 45) (off := 524) (tgt := 569) (by rw [hk8]; decide) (by rw [hk8]; decide) (by rw [hk8]; decide) (by decide) dL_law_45 ?_
      exact h
    by_cases hk9 : ((xs x5.toNatClampNeg) &&& 63) = 9
    · replace h := h.2.2.2.2.2.2.2.2.2.1 hk9
      refine kz_tableIn (pc := 45) (off := 592) (tgt := 637) (by rw [hk9]; decide) (by rw [hk9]; decide) (by rw [hk9]; decide) (by decide) dL_law_45 ?_
      exact h
    by_cases hk10 : ((xs x5.toNatClampNeg) &&& 63) = 10
    · replace h := h.2.2.2.2.2.2.2.2.2.2.1 hk10
      refine kz_tableIn (pc := 45) (off := 672) (tgt := 717) (by rw [hk10]; decide) (by rw [hk10]; decide) (by rw [hk10]; decide) (by decide) dL_law_45 ?_
      exact h
    by_cases hk11 : ((xs x5.toNatClampNeg) &&& 63) = 11
    · replace h := h.2.2.2.2.2.2.2.2.2.2.2.1 hk11
      refine kz_tableIn (pc := 45) (off := 740) (tgt := 785) (by rw [hk11]; decide) (by rw [hk11]; decide) (by rw [hk11]; decide) (by decide) dL_law_45 ?_
      exact h
    by_cases hk12 : ((xs x5.toNatClampNeg) &&& 63) = 12
    · replace h := h.2.2.2.2.2.2.2.2.2.2.2.2.1 hk12
      refine kz_tableIn (pc := 45) (off := 808) (tgt := 853) (by rw [hk12]; decide) (by rw [hk12]; decide) (by rw [hk12]; decide) (by decide) dL_law_45 ?_
      exact h
    by_cases hk13 : ((xs x5.toNatClampNeg) &&& 63) = 13
    · replace h := h.2.2.2.2.2.2.2.2.2.2.2.2.2.1 hk13
      refine kz_tableIn (pc := 45) (off := 864) (tgt := 909) (by rw [hk13]; decide) (by rw [hk13]; decide) (by rw [hk13]; decide) (by decide) dL_law_45 ?_
      exact h
    by_cases hk14 : ((xs x5.toNatClampNeg) &&& 63) = 14
    · replace h := h.2.2.2.2.2.2.2.2.2.2.2.2.2.2.1 hk14
      refine kz_tableIn (pc := 45) (off := 920) (tgt := 965) (by rw [hk14]; decide) (by rw [hk14]; decide) (by rw [hk14]; decide) (by decide) dL_law_45 ?_
      exact h
    by_cases hk15 : ((xs x5.toNatClampNeg) &&& 63) = 15
    · replace h := h.2.2.2.2.2.2.2.2.2.2.2.2.2.2.2.1 hk15
      refine kz_tableIn (pc := 45) (off := 988) (tgt := 1033) (by rw [hk15]; decide) (by rw [hk15]; decide) (by rw [hk15]; decide) (by decide) dL_law_45 ?_
      exact h
    by_cases hk16 : ((xs x5.toNatClampNeg) &&& 63) = 16
    · replace h := h.2.2.2.2.2.2.2.2.2.2.2.2.2.2.2.2.1 hk16
      refine kz_tableIn (pc := 45) (off := 1044) (tgt := 1089) (by rw [hk16]; decide) (by rw [hk16]; decide) (by rw [hk16]; decide) (by decide) dL_law_45 ?_
      exact h
    by_cases hk17 : ((xs x5.toNatClampNeg) &&& 63) = 17
    · replace h := h.2.2.2.2.2.2.2.2.2.2.2.2.2.2.2.2.2.1 hk17
      refine kz_tableIn (pc := 45) (off := 1100) (tgt := 1145) (by rw [hk17]; decide) (by rw [hk17]; decide) (by rw [hk17]; decide) (by decide) dL_law_45 ?_
      exact h
    by_cases hk18 : ((xs x5.toNatClampNeg) &&& 63) = 18
    · replace h := h.2.2.2.2.2.2.2.2.2.2.2.2.2.2.2.2.2.2.1 hk18
      refine kz_tableIn (pc := 45) (off := 1156) (tgt := 1201) (by rw [hk18]; decide) (by rw [hk18]; decide) (by rw [hk18]; decide) (by decide) dL_law_45 ?_
      exact h
    by_cases hk19 : ((xs x5.toNatClampNeg) &&& 63) = 19
    · replace h := h.2.2.2.2.2.2.2.2.2.2.2.2.2.2.2.2.2.2.2.1 hk19
      refine kz_tableIn (pc := 45) (off := 1224) (tgt := 1269) (by rw [hk19]; decide) (by rw [hk19]; decide) (by rw [hk19]; decide) (by decide) dL_law_45 ?_
      exact h
    by_cases hk20 : ((xs x5.toNatClampNeg) &&& 63) = 20
    · replace h := h.2.2.2.2.2.2.2.2.2.2.2.2.2.2.2.2.2.2.2.2.1 hk20
      refine kz_tableIn (pc := 45) (off := 1304) (tgt := 1349) (by rw [hk20]; decide) (by rw [hk20]; decide) (by rw [hk20]; decide) (by decide) dL_law_45 ?_
      exact h
    by_cases hk21 : ((xs x5.toNatClampNeg) &&& 63) = 21
    · replace h := h.2.2.2.2.2.2.2.2.2.2.2.2.2.2.2.2.2.2.2.2.2.1 hk21
      refine kz_tableIn (pc := 45) (off := 1317) (tgt := 1362) (by rw [hk21]; decide) (by rw [hk21]; decide) (by rw [hk21]; decide) (by decide) dL_law_45 ?_
      exact h
    by_cases hk22 : ((xs x5.toNatClampNeg) &&& 63) = 22
    · replace h := h.2.2.2.2.2.2.2.2.2.2.2.2.2.2.2.2.2.2.2.2.2.2.1 hk22
      refine kz_tableIn (pc := 45) (off := 1373) (tgt := 1418) (by rw [hk22]; decide) (by rw [hk22]; decide) (by rw [hk22]; decide) (by decide) dL_law_45 ?_
      exact h
    by_cases hk23 : ((xs x5.toNatClampNeg) &&& 63) = 23
    · replace h := h.2.2.2.2.2.2.2.2.2.2.2.2.2.2.2.2.2.2.2.2.2.2.2.1 hk23
      refine kz_tableIn (pc := 45) (off := 1450) (tgt := 1495) (by rw [hk23]; decide) (by rw [hk23]; decide) (by rw [hk23]; decide) (by decide) dL_law_45 ?_
      exact h
    by_cases hk24 : ((xs x5.toNatClampNeg) &&& 63) = 24
    · replace h := h.2.2.2.2.2.2.2.2.2.2.2.2.2.2.2.2.2.2.2.2.2.2.2.2.1 hk24
      refine kz_tableIn (pc := 45) (off := 1528) (tgt := 1573) (by rw [hk24]; decide) (by rw [hk24]; decide) (by rw [hk24]; decide) (by decide) dL_law_45 ?_
      exact h
    by_cases hk25 : ((xs x5.toNatClampNeg) &&& 63) = 25
    · replace h := h.2.2.2.2.2.2.2.2.2.2.2.2.2.2.2.2.2.2.2.2.2.2.2.2.2.1 hk25
      refine kz_tableIn (pc := 45) (off := 1596) (tgt := 1641) (by rw [hk25]; decide) (by rw [hk25]; decide) (by rw [hk25]; decide) (by decide) dL_law_45 ?_
      exact h
    by_cases hk26 : ((xs x5.toNatClampNeg) &&& 63) = 26
    · replace h := h.2.2.2.2.2.2.2.2.2.2.2.2.2.2.2.2.2.2.2.2.2.2.2.2.2.2.1 hk26
      refine kz_tableIn (pc := 45) (off := 1664) (tgt := 1709) (by rw [hk26]; decide) (by rw [hk26]; decide) (by rw [hk26]; decide) (by decide) dL_law_45 ?_
      exact h
    by_cases hk27 : ((xs x5.toNatClampNeg) &&& 63) = 27
    · replace h := h.2.2.2.2.2.2.2.2.2.2.2.2.2.2.2.2.2.2.2.2.2.2.2.2.2.2.2.1 hk27
      refine kz_tableIn (pc := 45) (off := 1720) (tgt := 1765) (by rw [hk27]; decide) (by rw [hk27]; decide) (by rw [hk27]; decide) (by decide) dL_law_45 ?_
      exact h
    by_cases hk28 : ((xs x5.toNatClampNeg) &&& 63) = 28
    · replace h := h.2.2.2.2.2.2.2.2.2.2.2.2.2.2.2.2.2.2.2.2.2.2.2.2.2.2.2.2.1 hk28
      refine kz_tableIn (pc := 45) (off := 1800) (tgt := 1845) (by rw [hk28]; decide) (by rw [hk28]; decide) (by rw [hk28]; decide) (by decide) dL_law_45 ?_
      exact h
    by_cases hk29 : ((xs x5.toNatClampNeg) &&& 63) = 29
    · replace h := h.2.2.2.2.2.2.2.2.2.2.2.2.2.2.2.2.2.2.2.2.2.2.2.2.2.2.2.2.2.1 hk29
      refine kz_tableIn (pc := 45) (off := 1880) (tgt := 1925) (by rw [hk29]; decide) (by rw [hk29]; decide) (by rw [hk29]; decide) (by decide) dL_law_45 ?_
      exact h
    by_cases hk30 : ((xs x5.toNatClampNeg) &&& 63) = 30
    · replace h := h.2.2.2.2.2.2.2.2.2.2.2.2.2.2.2.2.2.2.2.2.2.2.2.2.2.2.2.2.2.2.1 hk30
      refine kz_tableIn (pc := 45) (off := 1960) (tgt := 2005) (by rw [hk30]; decide) (by rw [hk30]; decide) (by rw [hk30]; decide) (by decide) dL_law_45 ?_
      exact h
    by_cases hk31 : ((xs x5.toNatClampNeg) &&& 63) = 31
    · replace h := h.2.2.2.2.2.2.2.2.2.2.2.2.2.2.2.2.2.2.2.2.2.2.2.2.2.2.2.2.2.2.2.1 hk31
      refine kz_tableIn (pc := 45) (off := 2028) (tgt := 2073) (by rw [hk31]; decide) (by rw [hk31]; decide) (by rw [hk31]; decide) (by decide) dL_law_45 ?_
      exact h
    by_cases hk32 : ((xs x5.toNatClampNeg) &&& 63) = 32
    · replace h := h.2.2.2.2.2.2.2.2.2.2.2.2.2.2.2.2.2.2.2.2.2.2.2.2.2.2.2.2.2.2.2.2.1 hk32
      refine kz_tableIn (pc := 45) (off := 2084) (tgt := 2129) (by rw [hk32]; decide) (by rw [hk32]; decide) (by rw [hk32]; decide) (by decide) dL_law_45 ?_
      exact h
    by_cases hk33 : ((xs x5.toNatClampNeg) &&& 63) = 33
    · replace h := h.2.2.2.2.2.2.2.2.2.2.2.2.2.2.2.2.2.2.2.2.2.2.2.2.2.2.2.2.2.2.2.2.2.1 hk33
      refine kz_tableIn (pc := 45) (off := 2140) (tgt := 2185) (by rw [hk33]; decide) (by rw [hk33]; decide) (by rw [hk33]; decide) (by decide) dL_law_45 ?_
      exact h
    by_cases hk34 : ((xs x5.toNatClampNeg) &&& 63) = 34
    · replace h := h.2.2.2.2.2.2.2.2.2.2.2.2.2.2.2.2.2.2.2.2.2.2.2.2.2.2.2.2.2.2.2.2.2.2.1 hk34
      refine kz_tableIn (pc := 45) (off := 2220) (tgt := 2265) (by rw [hk34]; decide) (by rw [hk34]; decide) (by rw [hk34]; decide) (by decide) dL_law_45 ?_
      exact h
    by_cases hk35 : ((xs x5.toNatClampNeg) &&& 63) = 35
    · replace h := h.2.2.2.2.2.2.2.2.2.2.2.2.2.2.2.2.2.2.2.2.2.2.2.2.2.2.2.2.2.2.2.2.2.2.2.1 hk35
      refine kz_tableIn (pc := 45) (off := 2288) (tgt := 2333) (by rw [hk35]; decide) (by rw [hk35]; decide) (by rw [hk35]; decide) (by decide) dL_law_45 ?_
      exact h
    by_cases hk36 : ((xs x5.toNatClampNeg) &&& 63) = 36
    · replace h := h.2.2.2.2.2.2.2.2.2.2.2.2.2.2.2.2.2.2.2.2.2.2.2.2.2.2.2.2.2.2.2.2.2.2.2.2.1 hk36
      refine kz_tableIn (pc := 45) (off := 2344) (tgt := 2389) (by rw [hk36]; decide) (by rw [hk36]; decide) (by rw [hk36]; decide) (by decide) dL_law_45 ?_
      exact h
    by_cases hk37 : ((xs x5.toNatClampNeg) &&& 63) = 37
    · replace h := h.2.2.2.2.2.2.2.2.2.2.2.2.2.2.2.2.2.2.2.2.2.2.2.2.2.2.2.2.2.2.2.2.2.2.2.2.2.1 hk37
      refine kz_tableIn (pc := 45) (off := 2412) (tgt := 2457) (by rw [hk37]; decide) (by rw [hk37]; decide) (by rw [hk37]; decide) (by decide) dL_law_45 ?_
      exact h
    by_cases hk38 : ((xs x5.toNatClampNeg) &&& 63) = 38
    · replace h := h.2.2.2.2.2.2.2.2.2.2.2.2.2.2.2.2.2.2.2.2.2.2.2.2.2.2.2.2.2.2.2.2.2.2.2.2.2.2.1 hk38
      refine kz_tableIn (pc := 45) (off := 2425) (tgt := 2470) (by rw [hk38]; decide) (by rw [hk38]; decide) (by rw [hk38]; decide) (by decide) dL_law_45 ?_
      exact h
    by_cases hk39 : ((xs x5.toNatClampNeg) &&& 63) = 39
    · replace h := h.2.2.2.2.2.2.2.2.2.2.2.2.2.2.2.2.2.2.2.2.2.2.2.2.2.2.2.2.2.2.2.2.2.2.2.2.2.2.2.1 hk39
      refine kz_tableIn (pc := 45) (off := 2481) (tgt := 2526) (by rw [hk39]; decide) (by rw [hk39]; decide) (by rw [hk39]; decide) (by decide) dL_law_45 ?_
      exact h
    by_cases hk40 : ((xs x5.toNatClampNeg) &&& 63) = 40
    · replace h := h.2.2.2.2.2.2.2.2.2.2.2.2.2.2.2.2.2.2.2.2.2.2.2.2.2.2.2.2.2.2.2.2.2.2.2.2.2.2.2.2.1 hk40
      refine kz_tableIn (pc := 45) (off := 2537) (tgt := 2582) (by rw [hk40]; decide) (by rw [hk40]; decide) (by rw [hk40]; decide) (by decide) dL_law_45 ?_
      exact h
    by_cases hk41 : ((xs x5.toNatClampNeg) &&& 63) = 41
    · replace h := h.2.2.2.2.2.2.2.2.2.2.2.2.2.2.2.2.2.2.2.2.2.2.2.2.2.2.2.2.2.2.2.2.2.2.2.2.2.2.2.2.2.1 hk41
      refine kz_tableIn (pc := 45) (off := 2605) (tgt := 2650) (by rw [hk41]; decide) (by rw [hk41]; decide) (by rw [hk41]; decide) (by decide) dL_law_45 ?_
      exact h
    by_cases hk42 : ((xs x5.toNatClampNeg) &&& 63) = 42
    · replace h := h.2.2.2.2.2.2.2.2.2.2.2.2.2.2.2.2.2.2.2.2.2.2.2.2.2.2.2.2.2.2.2.2.2.2.2.2.2.2.2.2.2.2.1 hk42
      refine kz_tableIn (pc := 45) (off := 2649) (tgt := 2694) (by rw [hk42]; decide) (by rw [hk42]; decide) (by rw [hk42]; decide) (by decide) dL_law_45 ?_
      exact h
    by_cases hk43 : ((xs x5.toNatClampNeg) &&& 63) = 43
    · replace h := h.2.2.2.2.2.2.2.2.2.2.2.2.2.2.2.2.2.2.2.2.2.2.2.2.2.2.2.2.2.2.2.2.2.2.2.2.2.2.2.2.2.2.2.1 hk43
      refine kz_tableIn (pc := 45) (off := 2717) (tgt := 2762) (by rw [hk43]; decide) (by rw [hk43]; decide) (by rw [hk43]; decide) (by decide) dL_law_45 ?_
      exact h
    by_cases hk44 : ((xs x5.toNatClampNeg) &&& 63) = 44
    · replace h := h.2.2.2.2.2.2.2.2.2.2.2.2.2.2.2.2.2.2.2.2.2.2.2.2.2.2.2.2.2.2.2.2.2.2.2.2.2.2.2.2.2.2.2.2.1 hk44
      refine kz_tableIn (pc := 45) (off := 2773) (tgt := 2818) (by rw [hk44]; decide) (by rw [hk44]; decide) (by rw [hk44]; decide) (by decide) dL_law_45 ?_
      exact h
    by_cases hk45 : ((xs x5.toNatClampNeg) &&& 63) = 45
    · replace h := h.2.2.2.2.2.2.2.2.2.2.2.2.2.2.2.2.2.2.2.2.2.2.2.2.2.2.2.2.2.2.2.2.2.2.2.2.2.2.2.2.2.2.2.2.2.1 hk45
      refine kz_tableIn (pc := 45) (off := 2786) (tgt := 2831) (by rw [hk45]; decide) (by rw [hk45]; decide) (by rw [hk45]; decide) (by decide) dL_law_45 ?_
      exact h
    by_cases hk46 : ((xs x5.toNatClampNeg) &&& 63) = 46
    · replace h := h.2.2.2.2.2.2.2.2.2.2.2.2.2.2.2.2.2.2.2.2.2.2.2.2.2.2.2.2.2.2.2.2.2.2.2.2.2.2.2.2.2.2.2.2.2.2.1 hk46
      refine kz_tableIn (pc := 45) (off := 2811) (tgt := 2856) (by rw [hk46]; decide) (by rw [hk46]; decide) (by rw [hk46]; decide) (by decide) dL_law_45 ?_
      exact h
    by_cases hk47 : ((xs x5.toNatClampNeg) &&& 63) = 47
    · replace h := h.2.2.2.2.2.2.2.2.2.2.2.2.2.2.2.2.2.2.2.2.2.2.2.2.2.2.2.2.2.2.2.2.2.2.2.2.2.2.2.2.2.2.2.2.2.2.2.1 hk47
      refine kz_tableIn (pc := 45) (off := 2824) (tgt := 2869) (by rw [hk47]; decide) (by rw [hk47]; decide) (by rw [hk47]; decide) (by decide) dL_law_45 ?_
      exact h
    replace h := h.2.2.2.2.2.2.2.2.2.2.2.2.2.2.2.2.2.2.2.2.2.2.2.2.2.2.2.2.2.2.2.2.2.2.2.2.2.2.2.2.2.2.2.2.2.2.2.2 hk0 hk1 hk2 hk3 hk4 hk5 hk6 hk7 hk8 hk9 hk10 hk11 hk12 hk13 hk14 hk15 hk16 hk17 hk18 hk19 hk20 hk21 hk22 hk23 hk24 hk25 hk26 hk27 hk28 hk29 hk30 hk31 hk32 hk33 hk34 hk35 hk36 hk37 hk38 hk39 hk40 hk41 hk42 hk43 hk44 hk45 hk46 hk47
    refine kz_tableOut (pc := 45) (tgt := 2913) (kz_swout (lo := 0) (n := 48) (by decide) (by decide) (kz_all48 (kz_swne (by decide) hk0) (kz_swne (by decide) hk1) (kz_swne (by decide) hk2) (kz_swne (by decide) hk3) (kz_swne (by decide) hk4) (kz_swne (by decide) hk5) (kz_swne (by decide) hk6) (kz_swne (by decide) hk7) (kz_swne (by decide) hk8) (kz_swne (by decide) hk9) (kz_swne (by decide) hk10) (kz_swne (by decide) hk11) (kz_swne (by decide) hk12) (kz_swne (by decide) hk13) (kz_swne (by decide) hk14) (kz_swne (by decide) hk15) (kz_swne (by decide) hk16) (kz_swne (by decide) hk17) (kz_swne (by decide) hk18) (kz_swne (by decide) hk19) (kz_swne (by decide) hk20) (kz_swne (by decide) hk21) (kz_swne (by decide) hk22) (kz_swne (by decide) hk23) (kz_swne (by decide) hk24) (kz_swne (by decide) hk25) (kz_swne (by decide) hk26) (kz_swne (by decide) hk27) (kz_swne (by decide) hk28) (kz_swne (by decide) hk29) (kz_swne (by decide) hk30) (kz_swne (by decide) hk31) (kz_swne (by decide) hk32) (kz_swne (by decide) hk33) (kz_swne (by decide) hk34) (kz_swne (by decide) hk35) (kz_swne (by decide) hk36) (kz_swne (by decide) hk37) (kz_swne (by decide) hk38) (kz_swne (by decide) hk39) (kz_swne (by decide) hk40) (kz_swne (by decide) hk41) (kz_swne (by decide) hk42) (kz_swne (by decide) hk43) (kz_swne (by decide) hk44) (kz_swne (by decide) hk45) (kz_swne (by decide) hk46) (kz_swne (by decide) hk47))) (by decide) dL_law_45 ?_
    exact h
theorem rL_law_252 {G : kz_G} {N : Nat} {xs : Nat → Int32} {d : Nat} {mc ms : Nat} {Qr : Option Value → kz_M → Prop} {Qx : String → kz_M → Prop} {x0 : Nat} {x1 : Nat} {x2 : Nat} {x3 : Nat} {x4 : Nat} {x5 : Int32}  {M : kz_M} {c sl : Nat} (hc : c ≤ mc) (hs : sl ≤ ms) (hX : va_X (G.2.2.2 x0) N xs G.2.2.1 G.2.2.1.heap) (hbs : G.2.2.2 x0 < G.2.2.1.heap.size) (h : vp_in (x5 + 1) N ∧ (vp_in (x5 + 2) N ∧ (vp_in (x5 + 3) N ∧ (vp_in (x5 + 4) N ∧ (vp_in (x5 + 5) N ∧ ((∃ fs8, (M).1 x1 = some (.inl (10, fs8))) ∧ kz_C G (d + 10) 0 0 mX11_appendInput [.ref x1, .int (xs (x5 + 1).toNatClampNeg), .int (xs (x5 + 2).toNatClampNeg), .int (xs (x5 + 3).toNatClampNeg), .int (xs (x5 + 4).toNatClampNeg), .int (xs (x5 + 5).toNatClampNeg)] M (fun v M1 => ∃ r2 : Int32, v = some (.int r2) ∧ (vp_in (x5 + 1) N ∧ (vp_in (x5 + 2) N ∧ (vp_in (x5 + 3) N ∧ (vp_in (x5 + 4) N ∧ (vp_in (x5 + 5) N ∧ ((∃ fs7, (M1).1 x2 = some (.inl (11, fs7))) ∧ kz_C G (d + 10) 0 0 mX12_appendInput [.ref x2, .int (xs (x5 + 1).toNatClampNeg), .int (xs (x5 + 2).toNatClampNeg), .int (xs (x5 + 3).toNatClampNeg), .int (xs (x5 + 4).toNatClampNeg), .int (xs (x5 + 5).toNatClampNeg)] M1 (fun v M4 => ∃ r5 : Int32, v = some (.int r5) ∧ ((r2 = r5 → zL_law_2913 G d mc ms Qr Qx x0 x1 x2 x3 x4 x5 M4 c sl) ∧ (¬ r2 = r5 → Qr (some (.int 0)) M4))) Qx))))))) Qx)))))) : zL_law_252 G d mc ms Qr Qx x0 x1 x2 x3 x4 x5  M c sl := by
  show kz_Z G (d + 11) mc ms mL_law Qr Qx 252 [(0, .retAddr x0), (1, .ref x1), (2, .ref x2), (3, .ref x3), (4, .ref x4), (5, .int x5)] [] M c sl
  refine kz_aload_n (pc := 252) 1 (v := .ref x1) (i := 1) rfl rfl rfl dL_law_252 ?_
  refine kz_aload_n (pc := 253) 0 (v := .retAddr x0) (i := 0) rfl rfl rfl dL_law_253 ?_
  refine kz_iload (pc := 254) 5 (i := 5) rfl dL_law_254 ?_
  refine kz_iconst (pc := 256) (v := 1) (by decide) dL_law_256 ?_
  refine kz_iadd (pc := 257) dL_law_257 ?_
  obtain ⟨hi, h⟩ := h
  refine kz_sld (pc := 258) hX hbs hi dL_law_258 ?_
  refine kz_aload_n (pc := 259) 0 (v := .retAddr x0) (i := 0) rfl rfl rfl dL_law_259 ?_
  refine kz_iload (pc := 260) 5 (i := 5) rfl dL_law_260 ?_
  refine kz_iconst (pc := 262) (v := 2) (by decide) dL_law_262 ?_
  refine kz_iadd (pc := 263) dL_law_263 ?_
  obtain ⟨hi, h⟩ := h
  refine kz_sld (pc := 264) hX hbs hi dL_law_264 ?_
  refine kz_aload_n (pc := 265) 0 (v := .retAddr x0) (i := 0) rfl rfl rfl dL_law_265 ?_
  refine kz_iload (pc := 266) 5 (i := 5) rfl dL_law_266 ?_
  refine kz_iconst (pc := 268) (v := 3) (by decide) dL_law_268 ?_
  refine kz_iadd (pc := 269) dL_law_269 ?_
  obtain ⟨hi, h⟩ := h
  refine kz_sld (pc := 270) hX hbs hi dL_law_270 ?_
  refine kz_aload_n (pc := 271) 0 (v := .retAddr x0) (i := 0) rfl rfl rfl dL_law_271 ?_
  refine kz_iload (pc := 272) 5 (i := 5) rfl dL_law_272 ?_
  refine kz_iconst (pc := 274) (v := 4) (by decide) dL_law_274 ?_
  refine kz_iadd (pc := 275) dL_law_275 ?_
  obtain ⟨hi, h⟩ := h
  refine kz_sld (pc := 276) hX hbs hi dL_law_276 ?_
  refine kz_aload_n (pc := 277) 0 (v := .retAddr x0) (i := 0) rfl rfl rfl dL_law_277 ?_
  refine kz_iload (pc := 278) 5 (i := 5) rfl dL_law_278 ?_
  refine kz_iconst (pc := 280) (v := 5) (by decide) dL_law_280 ?_
  refine kz_iadd (pc := 281) dL_law_281 ?_
  obtain ⟨hi, h⟩ := h
  refine kz_sld (pc := 282) hX hbs hi dL_law_282 ?_
  obtain ⟨⟨fs8, he⟩, h⟩ := h
  refine kz_callV (pc := 283) (μ' := mX11_appendInput) (ci := 10) (q := (RX11, TX11, 10)) (b := x1) (d' := d + 10) (mc' := 0) (ms' := 0) (As := [.int (xs (x5 + 1).toNatClampNeg), .int (xs (x5 + 2).toNatClampNeg), .int (xs (x5 + 3).toNatClampNeg), .int (xs (x5 + 4).toNatClampNeg), .int (xs (x5 + 5).toNatClampNeg)]) (st := []) (c := c) (sl := sl) kmX11_appendInput kw_306 (by omega) rfl (Nat.le_of_ble_eq_true rfl) he rfl rfl hc hs dL_law_283 (fun E M9 hx => kz_Tout rfl hc hs hx) (kz_Cmono (fun v M1 h => ?_) (fun _ _ h => h) h)
  obtain ⟨r2, rfl, h⟩ := h
  show kz_Z G (d + 11) mc ms mL_law Qr Qx 286 [(0, .retAddr x0), (1, .ref x1), (2, .ref x2), (3, .ref x3), (4, .ref x4), (5, .int x5)] [.int r2] M1 c sl
  refine kz_aload_n (pc := 286) 2 (v := .ref x2) (i := 2) rfl rfl rfl dL_law_286 ?_
  refine kz_aload_n (pc := 287) 0 (v := .retAddr x0) (i := 0) rfl rfl rfl dL_law_287 ?_
  refine kz_iload (pc := 288) 5 (i := 5) rfl dL_law_288 ?_
  refine kz_iconst (pc := 290) (v := 1) (by decide) dL_law_290 ?_
  refine kz_iadd (pc := 291) dL_law_291 ?_
  obtain ⟨hi, h⟩ := h
  refine kz_sld (pc := 292) hX hbs hi dL_law_292 ?_
  refine kz_aload_n (pc := 293) 0 (v := .retAddr x0) (i := 0) rfl rfl rfl dL_law_293 ?_
  refine kz_iload (pc := 294) 5 (i := 5) rfl dL_law_294 ?_
  refine kz_iconst (pc := 296) (v := 2) (by decide) dL_law_296 ?_
  refine kz_iadd (pc := 297) dL_law_297 ?_
  obtain ⟨hi, h⟩ := h
  refine kz_sld (pc := 298) hX hbs hi dL_law_298 ?_
  refine kz_aload_n (pc := 299) 0 (v := .retAddr x0) (i := 0) rfl rfl rfl dL_law_299 ?_
  refine kz_iload (pc := 300) 5 (i := 5) rfl dL_law_300 ?_
  refine kz_iconst (pc := 302) (v := 3) (by decide) dL_law_302 ?_
  refine kz_iadd (pc := 303) dL_law_303 ?_
  obtain ⟨hi, h⟩ := h
  refine kz_sld (pc := 304) hX hbs hi dL_law_304 ?_
  refine kz_aload_n (pc := 305) 0 (v := .retAddr x0) (i := 0) rfl rfl rfl dL_law_305 ?_
  refine kz_iload (pc := 306) 5 (i := 5) rfl dL_law_306 ?_
  refine kz_iconst (pc := 308) (v := 4) (by decide) dL_law_308 ?_
  refine kz_iadd (pc := 309) dL_law_309 ?_
  obtain ⟨hi, h⟩ := h
  refine kz_sld (pc := 310) hX hbs hi dL_law_310 ?_
  refine kz_aload_n (pc := 311) 0 (v := .retAddr x0) (i := 0) rfl rfl rfl dL_law_311 ?_
  refine kz_iload (pc := 312) 5 (i := 5) rfl dL_law_312 ?_
  refine kz_iconst (pc := 314) (v := 5) (by decide) dL_law_314 ?_
  refine kz_iadd (pc := 315) dL_law_315 ?_
  obtain ⟨hi, h⟩ := h
  refine kz_sld (pc := 316) hX hbs hi dL_law_316 ?_
  obtain ⟨⟨fs7, he⟩, h⟩ := h
  refine kz_callV (pc := 317) (μ' := mX12_appendInput) (ci := 11) (q := (RX12, TX12, 32)) (b := x2) (d' := d + 10) (mc' := 0) (ms' := 0) (As := [.int (xs (x5 + 1).toNatClampNeg), .int (xs (x5 + 2).toNatClampNeg), .int (xs (x5 + 3).toNatClampNeg), .int (xs (x5 + 4).toNatClampNeg), .int (xs (x5 + 5).toNatClampNeg)]) (st := [.int r2]) (c := c) (sl := sl) kmX12_appendInput kw_1479 (by omega) rfl (Nat.le_of_ble_eq_true rfl) he rfl rfl hc hs dL_law_317 (fun E M9 hx => kz_Tout rfl hc hs hx) (kz_Cmono (fun v M4 h => ?_) (fun _ _ h => h) h)
  obtain ⟨r5, rfl, h⟩ := h
  show kz_Z G (d + 11) mc ms mL_law Qr Qx 320 [(0, .retAddr x0), (1, .ref x1), (2, .ref x2), (3, .ref x3), (4, .ref x4), (5, .int x5)] [.int r5, .int r2] M4 c sl
  refine kz_icmp_eq (pc := 320) (tgt := 2913) (by decide) dL_law_320 (fun hb => ?_) (fun hb => ?_)
  · replace h := h.1 hb
    exact h
  · replace h := h.2 hb
    refine kz_iconst (pc := 323) (v := 0) (by decide) dL_law_323 ?_
    exact kz_zret (pc := 324) (ty := .boolean) rfl (by decide) hc hs dL_law_324 h
theorem rL_law_325 {G : kz_G} {N : Nat} {xs : Nat → Int32} {d : Nat} {mc ms : Nat} {Qr : Option Value → kz_M → Prop} {Qx : String → kz_M → Prop} {x0 : Nat} {x1 : Nat} {x2 : Nat} {x3 : Nat} {x4 : Nat} {x5 : Int32}  {M : kz_M} {c sl : Nat} (hc : c ≤ mc) (hs : sl ≤ ms) (hX : va_X (G.2.2.2 x0) N xs G.2.2.1 G.2.2.1.heap) (hbs : G.2.2.2 x0 < G.2.2.1.heap.size) (h : vp_in (x5 + 1) N ∧ ((∃ fs8, (M).1 x1 = some (.inl (10, fs8))) ∧ kz_C G (d + 10) 0 0 mX11_truncateInput [.ref x1, .int (xs (x5 + 1).toNatClampNeg)] M (fun v M1 => ∃ r2 : Int32, v = some (.int r2) ∧ (vp_in (x5 + 1) N ∧ ((∃ fs7, (M1).1 x2 = some (.inl (11, fs7))) ∧ kz_C G (d + 10) 0 0 mX12_truncateInput [.ref x2, .int (xs (x5 + 1).toNatClampNeg)] M1 (fun v M4 => ∃ r5 : Int32, v = some (.int r5) ∧ ((r2 = r5 → zL_law_2913 G d mc ms Qr Qx x0 x1 x2 x3 x4 x5 M4 c sl) ∧ (¬ r2 = r5 → Qr (some (.int 0)) M4))) Qx))) Qx)) : zL_law_325 G d mc ms Qr Qx x0 x1 x2 x3 x4 x5  M c sl := by
  show kz_Z G (d + 11) mc ms mL_law Qr Qx 325 [(0, .retAddr x0), (1, .ref x1), (2, .ref x2), (3, .ref x3), (4, .ref x4), (5, .int x5)] [] M c sl
  refine kz_aload_n (pc := 325) 1 (v := .ref x1) (i := 1) rfl rfl rfl dL_law_325 ?_
  refine kz_aload_n (pc := 326) 0 (v := .retAddr x0) (i := 0) rfl rfl rfl dL_law_326 ?_
  refine kz_iload (pc := 327) 5 (i := 5) rfl dL_law_327 ?_
  refine kz_iconst (pc := 329) (v := 1) (by decide) dL_law_329 ?_
  refine kz_iadd (pc := 330) dL_law_330 ?_
  obtain ⟨hi, h⟩ := h
  refine kz_sld (pc := 331) hX hbs hi dL_law_331 ?_
  obtain ⟨⟨fs8, he⟩, h⟩ := h
  refine kz_callV (pc := 332) (μ' := mX11_truncateInput) (ci := 10) (q := (RX11, TX11, 10)) (b := x1) (d' := d + 10) (mc' := 0) (ms' := 0) (As := [.int (xs (x5 + 1).toNatClampNeg)]) (st := []) (c := c) (sl := sl) kmX11_truncateInput kw_322 (by omega) rfl (Nat.le_of_ble_eq_true rfl) he rfl rfl hc hs dL_law_332 (fun E M9 hx => kz_Tout rfl hc hs hx) (kz_Cmono (fun v M1 h => ?_) (fun _ _ h => h) h)
  obtain ⟨r2, rfl, h⟩ := h
  show kz_Z G (d + 11) mc ms mL_law Qr Qx 335 [(0, .retAddr x0), (1, .ref x1), (2, .ref x2), (3, .ref x3), (4, .ref x4), (5, .int x5)] [.int r2] M1 c sl
  refine kz_aload_n (pc := 335) 2 (v := .ref x2) (i := 2) rfl rfl rfl dL_law_335 ?_
  refine kz_aload_n (pc := 336) 0 (v := .retAddr x0) (i := 0) rfl rfl rfl dL_law_336 ?_
  refine kz_iload (pc := 337) 5 (i := 5) rfl dL_law_337 ?_
  refine kz_iconst (pc := 339) (v := 1) (by decide) dL_law_339 ?_
  refine kz_iadd (pc := 340) dL_law_340 ?_
  obtain ⟨hi, h⟩ := h
  refine kz_sld (pc := 341) hX hbs hi dL_law_341 ?_
  obtain ⟨⟨fs7, he⟩, h⟩ := h
  refine kz_callV (pc := 342) (μ' := mX12_truncateInput) (ci := 11) (q := (RX12, TX12, 32)) (b := x2) (d' := d + 10) (mc' := 0) (ms' := 0) (As := [.int (xs (x5 + 1).toNatClampNeg)]) (st := [.int r2]) (c := c) (sl := sl) kmX12_truncateInput kw_1487 (by omega) rfl (Nat.le_of_ble_eq_true rfl) he rfl rfl hc hs dL_law_342 (fun E M9 hx => kz_Tout rfl hc hs hx) (kz_Cmono (fun v M4 h => ?_) (fun _ _ h => h) h)
  obtain ⟨r5, rfl, h⟩ := h
  show kz_Z G (d + 11) mc ms mL_law Qr Qx 345 [(0, .retAddr x0), (1, .ref x1), (2, .ref x2), (3, .ref x3), (4, .ref x4), (5, .int x5)] [.int r5, .int r2] M4 c sl
  refine kz_icmp_eq (pc := 345) (tgt := 2913) (by decide) dL_law_345 (fun hb => ?_) (fun hb => ?_)
  · replace h := h.1 hb
    exact h
  · replace h := h.2 hb
    refine kz_iconst (pc := 348) (v := 0) (by decide) dL_law_348 ?_
    exact kz_zret (pc := 349) (ty := .boolean) rfl (by decide) hc hs dL_law_349 h
theorem rL_law_350 {G : kz_G} {N : Nat} {xs : Nat → Int32} {d : Nat} {mc ms : Nat} {Qr : Option Value → kz_M → Prop} {Qx : String → kz_M → Prop} {x0 : Nat} {x1 : Nat} {x2 : Nat} {x3 : Nat} {x4 : Nat} {x5 : Int32}  {M : kz_M} {c sl : Nat} (hc : c ≤ mc) (hs : sl ≤ ms) (hX : va_X (G.2.2.2 x0) N xs G.2.2.1 G.2.2.1.heap) (hbs : G.2.2.2 x0 < G.2.2.1.heap.size) (h : (∃ fs8, (M).1 x1 = some (.inl (10, fs8))) ∧ kz_C G (d + 10) 0 0 mX11_loadOffice [.ref x1] M (fun v M1 => ∃ r2 : Int32, v = some (.int r2) ∧ ((∃ fs7, (M1).1 x2 = some (.inl (11, fs7))) ∧ kz_C G (d + 10) 0 0 mX12_loadOffice [.ref x2] M1 (fun v M4 => ∃ r5 : Int32, v = some (.int r5) ∧ ((r2 = r5 → zL_law_2913 G d mc ms Qr Qx x0 x1 x2 x3 x4 x5 M4 c sl) ∧ (¬ r2 = r5 → Qr (some (.int 0)) M4))) Qx)) Qx) : zL_law_350 G d mc ms Qr Qx x0 x1 x2 x3 x4 x5  M c sl := by
  show kz_Z G (d + 11) mc ms mL_law Qr Qx 350 [(0, .retAddr x0), (1, .ref x1), (2, .ref x2), (3, .ref x3), (4, .ref x4), (5, .int x5)] [] M c sl
  refine kz_aload_n (pc := 350) 1 (v := .ref x1) (i := 1) rfl rfl rfl dL_law_350 ?_
  obtain ⟨⟨fs8, he⟩, h⟩ := h
  refine kz_callV (pc := 351) (μ' := mX11_loadOffice) (ci := 10) (q := (RX11, TX11, 10)) (b := x1) (d' := d + 10) (mc' := 0) (ms' := 0) (As := []) (st := []) (c := c) (sl := sl) kmX11_loadOffice kw_326 (by omega) rfl (Nat.le_of_ble_eq_true rfl) he rfl rfl hc hs dL_law_351 (fun E M9 hx => kz_Tout rfl hc hs hx) (kz_Cmono (fun v M1 h => ?_) (fun _ _ h => h) h)
  obtain ⟨r2, rfl, h⟩ := h
  show kz_Z G (d + 11) mc ms mL_law Qr Qx 354 [(0, .retAddr x0), (1, .ref x1), (2, .ref x2), (3, .ref x3), (4, .ref x4), (5, .int x5)] [.int r2] M1 c sl
  refine kz_aload_n (pc := 354) 2 (v := .ref x2) (i := 2) rfl rfl rfl dL_law_354 ?_
  obtain ⟨⟨fs7, he⟩, h⟩ := h
  refine kz_callV (pc := 355) (μ' := mX12_loadOffice) (ci := 11) (q := (RX12, TX12, 32)) (b := x2) (d' := d + 10) (mc' := 0) (ms' := 0) (As := []) (st := [.int r2]) (c := c) (sl := sl) kmX12_loadOffice kw_1494 (by omega) rfl (Nat.le_of_ble_eq_true rfl) he rfl rfl hc hs dL_law_355 (fun E M9 hx => kz_Tout rfl hc hs hx) (kz_Cmono (fun v M4 h => ?_) (fun _ _ h => h) h)
  obtain ⟨r5, rfl, h⟩ := h
  show kz_Z G (d + 11) mc ms mL_law Qr Qx 358 [(0, .retAddr x0), (1, .ref x1), (2, .ref x2), (3, .ref x3), (4, .ref x4), (5, .int x5)] [.int r5, .int r2] M4 c sl
  refine kz_icmp_eq (pc := 358) (tgt := 2913) (by decide) dL_law_358 (fun hb => ?_) (fun hb => ?_)
  · replace h := h.1 hb
    exact h
  · replace h := h.2 hb
    refine kz_iconst (pc := 361) (v := 0) (by decide) dL_law_361 ?_
    exact kz_zret (pc := 362) (ty := .boolean) rfl (by decide) hc hs dL_law_362 h
theorem rL_law_363 {G : kz_G} {N : Nat} {xs : Nat → Int32} {d : Nat} {mc ms : Nat} {Qr : Option Value → kz_M → Prop} {Qx : String → kz_M → Prop} {x0 : Nat} {x1 : Nat} {x2 : Nat} {x3 : Nat} {x4 : Nat} {x5 : Int32}  {M : kz_M} {c sl : Nat} (hc : c ≤ mc) (hs : sl ≤ ms) (hX : va_X (G.2.2.2 x0) N xs G.2.2.1 G.2.2.1.heap) (hbs : G.2.2.2 x0 < G.2.2.1.heap.size) (h : (∃ fs8, (M).1 x1 = some (.inl (10, fs8))) ∧ kz_C G (d + 10) 0 0 mX11_errorCode [.ref x1] M (fun v M1 => ∃ r2 : Int32, v = some (.int r2) ∧ ((∃ fs7, (M1).1 x2 = some (.inl (11, fs7))) ∧ kz_C G (d + 10) 0 0 mX12_errorCode [.ref x2] M1 (fun v M4 => ∃ r5 : Int32, v = some (.int r5) ∧ ((r2 = r5 → zL_law_2913 G d mc ms Qr Qx x0 x1 x2 x3 x4 x5 M4 c sl) ∧ (¬ r2 = r5 → Qr (some (.int 0)) M4))) Qx)) Qx) : zL_law_363 G d mc ms Qr Qx x0 x1 x2 x3 x4 x5  M c sl := by
  show kz_Z G (d + 11) mc ms mL_law Qr Qx 363 [(0, .retAddr x0), (1, .ref x1), (2, .ref x2), (3, .ref x3), (4, .ref x4), (5, .int x5)] [] M c sl
  refine kz_aload_n (pc := 363) 1 (v := .ref x1) (i := 1) rfl rfl rfl dL_law_363 ?_
  obtain ⟨⟨fs8, he⟩, h⟩ := h
  refine kz_callV (pc := 364) (μ' := mX11_errorCode) (ci := 10) (q := (RX11, TX11, 10)) (b := x1) (d' := d + 10) (mc' := 0) (ms' := 0) (As := []) (st := []) (c := c) (sl := sl) kmX11_errorCode kw_432 (by omega) rfl (Nat.le_of_ble_eq_true rfl) he rfl rfl hc hs dL_law_364 (fun E M9 hx => kz_Tout rfl hc hs hx) (kz_Cmono (fun v M1 h => ?_) (fun _ _ h => h) h)
  obtain ⟨r2, rfl, h⟩ := h
  show kz_Z G (d + 11) mc ms mL_law Qr Qx 367 [(0, .retAddr x0), (1, .ref x1), (2, .ref x2), (3, .ref x3), (4, .ref x4), (5, .int x5)] [.int r2] M1 c sl
  refine kz_aload_n (pc := 367) 2 (v := .ref x2) (i := 2) rfl rfl rfl dL_law_367 ?_
  obtain ⟨⟨fs7, he⟩, h⟩ := h
  refine kz_callV (pc := 368) (μ' := mX12_errorCode) (ci := 11) (q := (RX12, TX12, 32)) (b := x2) (d' := d + 10) (mc' := 0) (ms' := 0) (As := []) (st := [.int r2]) (c := c) (sl := sl) kmX12_errorCode kw_1600 (by omega) rfl (Nat.le_of_ble_eq_true rfl) he rfl rfl hc hs dL_law_368 (fun E M9 hx => kz_Tout rfl hc hs hx) (kz_Cmono (fun v M4 h => ?_) (fun _ _ h => h) h)
  obtain ⟨r5, rfl, h⟩ := h
  show kz_Z G (d + 11) mc ms mL_law Qr Qx 371 [(0, .retAddr x0), (1, .ref x1), (2, .ref x2), (3, .ref x3), (4, .ref x4), (5, .int x5)] [.int r5, .int r2] M4 c sl
  refine kz_icmp_eq (pc := 371) (tgt := 2913) (by decide) dL_law_371 (fun hb => ?_) (fun hb => ?_)
  · replace h := h.1 hb
    exact h
  · replace h := h.2 hb
    refine kz_iconst (pc := 374) (v := 0) (by decide) dL_law_374 ?_
    exact kz_zret (pc := 375) (ty := .boolean) rfl (by decide) hc hs dL_law_375 h
theorem rL_law_376 {G : kz_G} {N : Nat} {xs : Nat → Int32} {d : Nat} {mc ms : Nat} {Qr : Option Value → kz_M → Prop} {Qx : String → kz_M → Prop} {x0 : Nat} {x1 : Nat} {x2 : Nat} {x3 : Nat} {x4 : Nat} {x5 : Int32}  {M : kz_M} {c sl : Nat} (hc : c ≤ mc) (hs : sl ≤ ms) (hX : va_X (G.2.2.2 x0) N xs G.2.2.1 G.2.2.1.heap) (hbs : G.2.2.2 x0 < G.2.2.1.heap.size) (h : (∃ fs8, (M).1 x1 = some (.inl (10, fs8))) ∧ kz_C G (d + 10) 0 0 mX11_errorOffset [.ref x1] M (fun v M1 => ∃ r2 : Int32, v = some (.int r2) ∧ ((∃ fs7, (M1).1 x2 = some (.inl (11, fs7))) ∧ kz_C G (d + 10) 0 0 mX12_errorOffset [.ref x2] M1 (fun v M4 => ∃ r5 : Int32, v = some (.int r5) ∧ ((r2 = r5 → zL_law_2913 G d mc ms Qr Qx x0 x1 x2 x3 x4 x5 M4 c sl) ∧ (¬ r2 = r5 → Qr (some (.int 0)) M4))) Qx)) Qx) : zL_law_376 G d mc ms Qr Qx x0 x1 x2 x3 x4 x5  M c sl := by
  show kz_Z G (d + 11) mc ms mL_law Qr Qx 376 [(0, .retAddr x0), (1, .ref x1), (2, .ref x2), (3, .ref x3), (4, .ref x4), (5, .int x5)] [] M c sl
  refine kz_aload_n (pc := 376) 1 (v := .ref x1) (i := 1) rfl rfl rfl dL_law_376 ?_
  obtain ⟨⟨fs8, he⟩, h⟩ := h
  refine kz_callV (pc := 377) (μ' := mX11_errorOffset) (ci := 10) (q := (RX11, TX11, 10)) (b := x1) (d' := d + 10) (mc' := 0) (ms' := 0) (As := []) (st := []) (c := c) (sl := sl) kmX11_errorOffset kw_436 (by omega) rfl (Nat.le_of_ble_eq_true rfl) he rfl rfl hc hs dL_law_377 (fun E M9 hx => kz_Tout rfl hc hs hx) (kz_Cmono (fun v M1 h => ?_) (fun _ _ h => h) h)
  obtain ⟨r2, rfl, h⟩ := h
  show kz_Z G (d + 11) mc ms mL_law Qr Qx 380 [(0, .retAddr x0), (1, .ref x1), (2, .ref x2), (3, .ref x3), (4, .ref x4), (5, .int x5)] [.int r2] M1 c sl
  refine kz_aload_n (pc := 380) 2 (v := .ref x2) (i := 2) rfl rfl rfl dL_law_380 ?_
  obtain ⟨⟨fs7, he⟩, h⟩ := h
  refine kz_callV (pc := 381) (μ' := mX12_errorOffset) (ci := 11) (q := (RX12, TX12, 32)) (b := x2) (d' := d + 10) (mc' := 0) (ms' := 0) (As := []) (st := [.int r2]) (c := c) (sl := sl) kmX12_errorOffset kw_1604 (by omega) rfl (Nat.le_of_ble_eq_true rfl) he rfl rfl hc hs dL_law_381 (fun E M9 hx => kz_Tout rfl hc hs hx) (kz_Cmono (fun v M4 h => ?_) (fun _ _ h => h) h)
  obtain ⟨r5, rfl, h⟩ := h
  show kz_Z G (d + 11) mc ms mL_law Qr Qx 384 [(0, .retAddr x0), (1, .ref x1), (2, .ref x2), (3, .ref x3), (4, .ref x4), (5, .int x5)] [.int r5, .int r2] M4 c sl
  refine kz_icmp_eq (pc := 384) (tgt := 2913) (by decide) dL_law_384 (fun hb => ?_) (fun hb => ?_)
  · replace h := h.1 hb
    exact h
  · replace h := h.2 hb
    refine kz_iconst (pc := 387) (v := 0) (by decide) dL_law_387 ?_
    exact kz_zret (pc := 388) (ty := .boolean) rfl (by decide) hc hs dL_law_388 h
theorem rL_law_389 {G : kz_G} {N : Nat} {xs : Nat → Int32} {d : Nat} {mc ms : Nat} {Qr : Option Value → kz_M → Prop} {Qx : String → kz_M → Prop} {x0 : Nat} {x1 : Nat} {x2 : Nat} {x3 : Nat} {x4 : Nat} {x5 : Int32}  {M : kz_M} {c sl : Nat} (hc : c ≤ mc) (hs : sl ≤ ms) (hX : va_X (G.2.2.2 x0) N xs G.2.2.1 G.2.2.1.heap) (hbs : G.2.2.2 x0 < G.2.2.1.heap.size) (h : vp_in (x5 + 1) N ∧ (∃ mc3 ms3, c + mc3 ≤ mc ∧ sl + ms3 ≤ ms ∧ kz_C G (d + 10) mc3 ms3 mL_count [.ref x1, .int (xs (x5 + 1).toNatClampNeg), .ref x3] M (fun v M1 => ∃ r2 : Int32, v = some (.int r2) ∧ (vp_in (x5 + 1) N ∧ ((∃ fs13, (M1).1 x2 = some (.inl (11, fs13))) ∧ kz_C G (d + 10) 0 0 mX12_count [.ref x2, .int (xs (x5 + 1).toNatClampNeg)] M1 (fun v M4 => ∃ r5 : Int32, v = some (.int r5) ∧ ((∃ fs12, (M4).1 x2 = some (.inl (11, fs12))) ∧ kz_C G (d + 10) 0 0 mX12_thrown [.ref x2] M4 (fun v M7 => ∃ r8 : Int32, v = some (.int r8) ∧ ((r8 = r2 → (¬ r2 = 0 → zL_law_2913 G d mc ms Qr Qx x0 x1 x2 x3 x4 x5 M7 (c + mc3) (sl + ms3)) ∧ (r2 = 0 → ∃ n10 f11, (M7).1 x3 = some (.inr (.long, n10, .inr (.inl f11))) ∧ vp_in (0 : Int32) n10 ∧ (((f11 (0 : Int32).toNatClampNeg) = ((r5 : Int32).toInt64) → zL_law_2913 G d mc ms Qr Qx x0 x1 x2 x3 x4 x5 M7 (c + mc3) (sl + ms3)) ∧ (¬ (f11 (0 : Int32).toNatClampNeg) = ((r5 : Int32).toInt64) → Qr (some (.int 0)) M7)))) ∧ (¬ r8 = r2 → Qr (some (.int 0)) M7))) Qx)) Qx))) Qx)) : zL_law_389 G d mc ms Qr Qx x0 x1 x2 x3 x4 x5  M c sl := by
  show kz_Z G (d + 11) mc ms mL_law Qr Qx 389 [(0, .retAddr x0), (1, .ref x1), (2, .ref x2), (3, .ref x3), (4, .ref x4), (5, .int x5)] [] M c sl
  refine kz_aload_n (pc := 389) 1 (v := .ref x1) (i := 1) rfl rfl rfl dL_law_389 ?_
  refine kz_aload_n (pc := 390) 0 (v := .retAddr x0) (i := 0) rfl rfl rfl dL_law_390 ?_
  refine kz_iload (pc := 391) 5 (i := 5) rfl dL_law_391 ?_
  refine kz_iconst (pc := 393) (v := 1) (by decide) dL_law_393 ?_
  refine kz_iadd (pc := 394) dL_law_394 ?_
  obtain ⟨hi, h⟩ := h
  refine kz_sld (pc := 395) hX hbs hi dL_law_395 ?_
  refine kz_aload_n (pc := 396) 3 (v := .ref x3) (i := 3) rfl rfl rfl dL_law_396 ?_
  obtain ⟨mc3, ms3, hc3, hs3, h⟩ := h
  refine kz_callSX (pc := 397) (μ' := mL_count) (d' := d + 10) (mc' := mc3) (ms' := ms3) (As := [.ref x1, .int (xs (x5 + 1).toNatClampNeg), .ref x3]) (st := []) (c := c) (sl := sl) kmL_count kw_513 (by omega) rfl (Nat.le_of_ble_eq_true rfl) hc3 hs3 dL_law_397 (fun E M9 hx => kz_Tout rfl hc3 hs3 hx) (kz_Cmono (fun v M1 h => ?_) (fun _ _ h => h) h)
  obtain ⟨r2, rfl, h⟩ := h
  show kz_Z G (d + 11) mc ms mL_law Qr Qx 400 [(0, .retAddr x0), (1, .ref x1), (2, .ref x2), (3, .ref x3), (4, .ref x4), (5, .int x5)] [.int r2] M1 (c + mc3) (sl + ms3)
  refine kz_istore (pc := 400) (i := 6) (ls' := [(0, .retAddr x0), (1, .ref x1), (2, .ref x2), (3, .ref x3), (4, .ref x4), (5, .int x5)]) (by decide) rfl dL_law_400 ?_
  refine kz_aload_n (pc := 402) 3 (v := .ref x2) (i := 2) rfl rfl rfl dL_law_402 ?_
  refine kz_aload_n (pc := 403) 1 (v := .retAddr x0) (i := 0) rfl rfl rfl dL_law_403 ?_
  refine kz_iload (pc := 404) 6 (i := 5) rfl dL_law_404 ?_
  refine kz_iconst (pc := 406) (v := 1) (by decide) dL_law_406 ?_
  refine kz_iadd (pc := 407) dL_law_407 ?_
  obtain ⟨hi, h⟩ := h
  refine kz_sld (pc := 408) hX hbs hi dL_law_408 ?_
  obtain ⟨⟨fs13, he⟩, h⟩ := h
  refine kz_callV (pc := 409) (μ' := mX12_count) (ci := 11) (q := (RX12, TX12, 32)) (b := x2) (d' := d + 10) (mc' := 0) (ms' := 0) (As := [.int (xs (x5 + 1).toNatClampNeg)]) (st := []) (c := c + mc3) (sl := sl + ms3) kmX12_count kw_1608 (by omega) rfl (Nat.le_of_ble_eq_true rfl) he rfl rfl hc3 hs3 dL_law_409 (fun E M9 hx => kz_Tout rfl hc3 hs3 hx) (kz_Cmono (fun v M4 h => ?_) (fun _ _ h => h) h)
  obtain ⟨r5, rfl, h⟩ := h
  show kz_Z G (d + 11) mc ms mL_law Qr Qx 412 [(6, .int r2), (0, .retAddr x0), (1, .ref x1), (2, .ref x2), (3, .ref x3), (4, .ref x4), (5, .int x5)] [.int r5] M4 (c + mc3) (sl + ms3)
  refine kz_istore (pc := 412) (i := 7) (ls' := [(6, .int r2), (0, .retAddr x0), (1, .ref x1), (2, .ref x2), (3, .ref x3), (4, .ref x4), (5, .int x5)]) (by decide) rfl dL_law_412 ?_
  refine kz_aload_n (pc := 414) 4 (v := .ref x2) (i := 2) rfl rfl rfl dL_law_414 ?_
  obtain ⟨⟨fs12, he⟩, h⟩ := h
  refine kz_callV (pc := 415) (μ' := mX12_thrown) (ci := 11) (q := (RX12, TX12, 32)) (b := x2) (d' := d + 10) (mc' := 0) (ms' := 0) (As := []) (st := []) (c := c + mc3) (sl := sl + ms3) kmX12_thrown kw_1475 (by omega) rfl (Nat.le_of_ble_eq_true rfl) he rfl rfl hc3 hs3 dL_law_415 (fun E M9 hx => kz_Tout rfl hc3 hs3 hx) (kz_Cmono (fun v M7 h => ?_) (fun _ _ h => h) h)
  obtain ⟨r8, rfl, h⟩ := h
  show kz_Z G (d + 11) mc ms mL_law Qr Qx 418 [(7, .int r5), (6, .int r2), (0, .retAddr x0), (1, .ref x1), (2, .ref x2), (3, .ref x3), (4, .ref x4), (5, .int x5)] [.int r8] M7 (c + mc3) (sl + ms3)
  refine kz_iload (pc := 418) 1 (i := 6) rfl dL_law_418 ?_
  refine kz_icmp_eq (pc := 420) (tgt := 425) (by decide) dL_law_420 (fun hb => ?_) (fun hb => ?_)
  · replace h := h.1 hb
    refine kz_iload (pc := 425) 1 (i := 6) rfl dL_law_425 ?_
    refine kz_if_ne (pc := 427) (tgt := 442) (by decide) dL_law_427 (fun hb => ?_) (fun hb => ?_)
    · replace h := h.1 hb
      refine kz_goto (pc := 442) (tgt := 2913) (by decide) dL_law_442 ?_
      refine kz_sub [2, 3, 4, 5, 6, 7] rfl ?_
      exact h
    · replace h := h.2 hb
      refine kz_aload_n (pc := 430) 5 (v := .ref x3) (i := 3) rfl rfl rfl dL_law_430 ?_
      refine kz_iconst (pc := 431) (v := 0) (by decide) dL_law_431 ?_
      obtain ⟨n10, f11, hM, hi, h⟩ := h
      refine kz_lald (pc := 432) hM hi dL_law_432 ?_
      refine kz_iload (pc := 433) 0 (i := 7) rfl dL_law_433 ?_
      refine kz_i2l (pc := 435) dL_law_435 ?_
      refine kz_lcmp_eq (pc := 436) (tgt := 442) (by decide) dL_law_436 dL_law_437 (fun hb => ?_) (fun hb => ?_)
      · replace h := h.1 hb
        refine kz_goto (pc := 442) (tgt := 2913) (by decide) dL_law_442 ?_
        refine kz_sub [2, 3, 4, 5, 6, 7] rfl ?_
        exact h
      · replace h := h.2 hb
        refine kz_iconst (pc := 440) (v := 0) (by decide) dL_law_440 ?_
        exact kz_zret (pc := 441) (ty := .boolean) rfl (by decide) hc3 hs3 dL_law_441 h
  · replace h := h.2 hb
    refine kz_iconst (pc := 423) (v := 0) (by decide) dL_law_423 ?_
    exact kz_zret (pc := 424) (ty := .boolean) rfl (by decide) hc3 hs3 dL_law_424 h
theorem rL_law_445 {G : kz_G} {N : Nat} {xs : Nat → Int32} {d : Nat} {mc ms : Nat} {Qr : Option Value → kz_M → Prop} {Qx : String → kz_M → Prop} {x0 : Nat} {x1 : Nat} {x2 : Nat} {x3 : Nat} {x4 : Nat} {x5 : Int32}  {M : kz_M} {c sl : Nat} (hc : c ≤ mc) (hs : sl ≤ ms) (hX : va_X (G.2.2.2 x0) N xs G.2.2.1 G.2.2.1.heap) (hbs : G.2.2.2 x0 < G.2.2.1.heap.size) (h : vp_in (x5 + 1) N ∧ (∃ mc3 ms3, c + mc3 ≤ mc ∧ sl + ms3 ≤ ms ∧ kz_C G (d + 10) mc3 ms3 mL_setting [.ref x1, .int (xs (x5 + 1).toNatClampNeg), .ref x3] M (fun v M1 => ∃ r2 : Int32, v = some (.int r2) ∧ (vp_in (x5 + 1) N ∧ ((∃ fs13, (M1).1 x2 = some (.inl (11, fs13))) ∧ kz_C G (d + 10) 0 0 mX12_setting [.ref x2, .int (xs (x5 + 1).toNatClampNeg)] M1 (fun v M4 => ∃ r5 : Int32, v = some (.int r5) ∧ ((∃ fs12, (M4).1 x2 = some (.inl (11, fs12))) ∧ kz_C G (d + 10) 0 0 mX12_thrown [.ref x2] M4 (fun v M7 => ∃ r8 : Int32, v = some (.int r8) ∧ ((r8 = r2 → (¬ r2 = 0 → zL_law_2913 G d mc ms Qr Qx x0 x1 x2 x3 x4 x5 M7 (c + mc3) (sl + ms3)) ∧ (r2 = 0 → ∃ n10 f11, (M7).1 x3 = some (.inr (.long, n10, .inr (.inl f11))) ∧ vp_in (0 : Int32) n10 ∧ (((f11 (0 : Int32).toNatClampNeg) = ((r5 : Int32).toInt64) → zL_law_2913 G d mc ms Qr Qx x0 x1 x2 x3 x4 x5 M7 (c + mc3) (sl + ms3)) ∧ (¬ (f11 (0 : Int32).toNatClampNeg) = ((r5 : Int32).toInt64) → Qr (some (.int 0)) M7)))) ∧ (¬ r8 = r2 → Qr (some (.int 0)) M7))) Qx)) Qx))) Qx)) : zL_law_445 G d mc ms Qr Qx x0 x1 x2 x3 x4 x5  M c sl := by
  show kz_Z G (d + 11) mc ms mL_law Qr Qx 445 [(0, .retAddr x0), (1, .ref x1), (2, .ref x2), (3, .ref x3), (4, .ref x4), (5, .int x5)] [] M c sl
  refine kz_aload_n (pc := 445) 1 (v := .ref x1) (i := 1) rfl rfl rfl dL_law_445 ?_
  refine kz_aload_n (pc := 446) 0 (v := .retAddr x0) (i := 0) rfl rfl rfl dL_law_446 ?_
  refine kz_iload (pc := 447) 5 (i := 5) rfl dL_law_447 ?_
  refine kz_iconst (pc := 449) (v := 1) (by decide) dL_law_449 ?_
  refine kz_iadd (pc := 450) dL_law_450 ?_
  obtain ⟨hi, h⟩ := h
  refine kz_sld (pc := 451) hX hbs hi dL_law_451 ?_
  refine kz_aload_n (pc := 452) 3 (v := .ref x3) (i := 3) rfl rfl rfl dL_law_452 ?_
  obtain ⟨mc3, ms3, hc3, hs3, h⟩ := h
  refine kz_callSX (pc := 453) (μ' := mL_setting) (d' := d + 10) (mc' := mc3) (ms' := ms3) (As := [.ref x1, .int (xs (x5 + 1).toNatClampNeg), .ref x3]) (st := []) (c := c) (sl := sl) kmL_setting kw_617 (by omega) rfl (Nat.le_of_ble_eq_true rfl) hc3 hs3 dL_law_453 (fun E M9 hx => kz_Tout rfl hc3 hs3 hx) (kz_Cmono (fun v M1 h => ?_) (fun _ _ h => h) h)
  obtain ⟨r2, rfl, h⟩ := h
  show kz_Z G (d + 11) mc ms mL_law Qr Qx 456 [(0, .retAddr x0), (1, .ref x1), (2, .ref x2), (3, .ref x3), (4, .ref x4), (5, .int x5)] [.int r2] M1 (c + mc3) (sl + ms3)
  refine kz_istore (pc := 456) (i := 6) (ls' := [(0, .retAddr x0), (1, .ref x1), (2, .ref x2), (3, .ref x3), (4, .ref x4), (5, .int x5)]) (by decide) rfl dL_law_456 ?_
  refine kz_aload_n (pc := 458) 3 (v := .ref x2) (i := 2) rfl rfl rfl dL_law_458 ?_
  refine kz_aload_n (pc := 459) 1 (v := .retAddr x0) (i := 0) rfl rfl rfl dL_law_459 ?_
  refine kz_iload (pc := 460) 6 (i := 5) rfl dL_law_460 ?_
  refine kz_iconst (pc := 462) (v := 1) (by decide) dL_law_462 ?_
  refine kz_iadd (pc := 463) dL_law_463 ?_
  obtain ⟨hi, h⟩ := h
  refine kz_sld (pc := 464) hX hbs hi dL_law_464 ?_
  obtain ⟨⟨fs13, he⟩, h⟩ := h
  refine kz_callV (pc := 465) (μ' := mX12_setting) (ci := 11) (q := (RX12, TX12, 32)) (b := x2) (d' := d + 10) (mc' := 0) (ms' := 0) (As := [.int (xs (x5 + 1).toNatClampNeg)]) (st := []) (c := c + mc3) (sl := sl + ms3) kmX12_setting kw_1649 (by omega) rfl (Nat.le_of_ble_eq_true rfl) he rfl rfl hc3 hs3 dL_law_465 (fun E M9 hx => kz_Tout rfl hc3 hs3 hx) (kz_Cmono (fun v M4 h => ?_) (fun _ _ h => h) h)
  obtain ⟨r5, rfl, h⟩ := h
  show kz_Z G (d + 11) mc ms mL_law Qr Qx 468 [(6, .int r2), (0, .retAddr x0), (1, .ref x1), (2, .ref x2), (3, .ref x3), (4, .ref x4), (5, .int x5)] [.int r5] M4 (c + mc3) (sl + ms3)
  refine kz_istore (pc := 468) (i := 7) (ls' := [(6, .int r2), (0, .retAddr x0), (1, .ref x1), (2, .ref x2), (3, .ref x3), (4, .ref x4), (5, .int x5)]) (by decide) rfl dL_law_468 ?_
  refine kz_aload_n (pc := 470) 4 (v := .ref x2) (i := 2) rfl rfl rfl dL_law_470 ?_
  obtain ⟨⟨fs12, he⟩, h⟩ := h
  refine kz_callV (pc := 471) (μ' := mX12_thrown) (ci := 11) (q := (RX12, TX12, 32)) (b := x2) (d' := d + 10) (mc' := 0) (ms' := 0) (As := []) (st := []) (c := c + mc3) (sl := sl + ms3) kmX12_thrown kw_1475 (by omega) rfl (Nat.le_of_ble_eq_true rfl) he rfl rfl hc3 hs3 dL_law_471 (fun E M9 hx => kz_Tout rfl hc3 hs3 hx) (kz_Cmono (fun v M7 h => ?_) (fun _ _ h => h) h)
  obtain ⟨r8, rfl, h⟩ := h
  show kz_Z G (d + 11) mc ms mL_law Qr Qx 474 [(7, .int r5), (6, .int r2), (0, .retAddr x0), (1, .ref x1), (2, .ref x2), (3, .ref x3), (4, .ref x4), (5, .int x5)] [.int r8] M7 (c + mc3) (sl + ms3)
  refine kz_iload (pc := 474) 1 (i := 6) rfl dL_law_474 ?_
  refine kz_icmp_eq (pc := 476) (tgt := 481) (by decide) dL_law_476 (fun hb => ?_) (fun hb => ?_)
  · replace h := h.1 hb
    refine kz_iload (pc := 481) 1 (i := 6) rfl dL_law_481 ?_
    refine kz_if_ne (pc := 483) (tgt := 498) (by decide) dL_law_483 (fun hb => ?_) (fun hb => ?_)
    · replace h := h.1 hb
      refine kz_goto (pc := 498) (tgt := 2913) (by decide) dL_law_498 ?_
      refine kz_sub [2, 3, 4, 5, 6, 7] rfl ?_
      exact h
    · replace h := h.2 hb
      refine kz_aload_n (pc := 486) 5 (v := .ref x3) (i := 3) rfl rfl rfl dL_law_486 ?_
      refine kz_iconst (pc := 487) (v := 0) (by decide) dL_law_487 ?_
      obtain ⟨n10, f11, hM, hi, h⟩ := h
      refine kz_lald (pc := 488) hM hi dL_law_488 ?_
      refine kz_iload (pc := 489) 0 (i := 7) rfl dL_law_489 ?_
      refine kz_i2l (pc := 491) dL_law_491 ?_
      refine kz_lcmp_eq (pc := 492) (tgt := 498) (by decide) dL_law_492 dL_law_493 (fun hb => ?_) (fun hb => ?_)
      · replace h := h.1 hb
        refine kz_goto (pc := 498) (tgt := 2913) (by decide) dL_law_498 ?_
        refine kz_sub [2, 3, 4, 5, 6, 7] rfl ?_
        exact h
      · replace h := h.2 hb
        refine kz_iconst (pc := 496) (v := 0) (by decide) dL_law_496 ?_
        exact kz_zret (pc := 497) (ty := .boolean) rfl (by decide) hc3 hs3 dL_law_497 h
  · replace h := h.2 hb
    refine kz_iconst (pc := 479) (v := 0) (by decide) dL_law_479 ?_
    exact kz_zret (pc := 480) (ty := .boolean) rfl (by decide) hc3 hs3 dL_law_480 h
theorem rL_law_501 {G : kz_G} {N : Nat} {xs : Nat → Int32} {d : Nat} {mc ms : Nat} {Qr : Option Value → kz_M → Prop} {Qx : String → kz_M → Prop} {x0 : Nat} {x1 : Nat} {x2 : Nat} {x3 : Nat} {x4 : Nat} {x5 : Int32}  {M : kz_M} {c sl : Nat} (hc : c ≤ mc) (hs : sl ≤ ms) (hX : va_X (G.2.2.2 x0) N xs G.2.2.1 G.2.2.1.heap) (hbs : G.2.2.2 x0 < G.2.2.1.heap.size) (h : vp_in (x5 + 1) N ∧ (vp_in (x5 + 2) N ∧ (∃ mc3 ms3, c + mc3 ≤ mc ∧ sl + ms3 ≤ ms ∧ kz_C G (d + 10) mc3 ms3 mL_writer [.ref x1, .int (xs (x5 + 1).toNatClampNeg), .int (xs (x5 + 2).toNatClampNeg), .ref x3] M (fun v M1 => ∃ r2 : Int32, v = some (.int r2) ∧ (vp_in (x5 + 1) N ∧ (vp_in (x5 + 2) N ∧ ((∃ fs13, (M1).1 x2 = some (.inl (11, fs13))) ∧ kz_C G (d + 10) 0 0 mX12_writer [.ref x2, .int (xs (x5 + 1).toNatClampNeg), .int (xs (x5 + 2).toNatClampNeg)] M1 (fun v M4 => ∃ r5 : Int32, v = some (.int r5) ∧ ((∃ fs12, (M4).1 x2 = some (.inl (11, fs12))) ∧ kz_C G (d + 10) 0 0 mX12_thrown [.ref x2] M4 (fun v M7 => ∃ r8 : Int32, v = some (.int r8) ∧ ((r8 = r2 → (¬ r2 = 0 → zL_law_2913 G d mc ms Qr Qx x0 x1 x2 x3 x4 x5 M7 (c + mc3) (sl + ms3)) ∧ (r2 = 0 → ∃ n10 f11, (M7).1 x3 = some (.inr (.long, n10, .inr (.inl f11))) ∧ vp_in (0 : Int32) n10 ∧ (((f11 (0 : Int32).toNatClampNeg) = ((r5 : Int32).toInt64) → zL_law_2913 G d mc ms Qr Qx x0 x1 x2 x3 x4 x5 M7 (c + mc3) (sl + ms3)) ∧ (¬ (f11 (0 : Int32).toNatClampNeg) = ((r5 : Int32).toInt64) → Qr (some (.int 0)) M7)))) ∧ (¬ r8 = r2 → Qr (some (.int 0)) M7))) Qx)) Qx)))) Qx))) : zL_law_501 G d mc ms Qr Qx x0 x1 x2 x3 x4 x5  M c sl := by
  show kz_Z G (d + 11) mc ms mL_law Qr Qx 501 [(0, .retAddr x0), (1, .ref x1), (2, .ref x2), (3, .ref x3), (4, .ref x4), (5, .int x5)] [] M c sl
  refine kz_aload_n (pc := 501) 1 (v := .ref x1) (i := 1) rfl rfl rfl dL_law_501 ?_
  refine kz_aload_n (pc := 502) 0 (v := .retAddr x0) (i := 0) rfl rfl rfl dL_law_502 ?_
  refine kz_iload (pc := 503) 5 (i := 5) rfl dL_law_503 ?_
  refine kz_iconst (pc := 505) (v := 1) (by decide) dL_law_505 ?_
  refine kz_iadd (pc := 506) dL_law_506 ?_
  obtain ⟨hi, h⟩ := h
  refine kz_sld (pc := 507) hX hbs hi dL_law_507 ?_
  refine kz_aload_n (pc := 508) 0 (v := .retAddr x0) (i := 0) rfl rfl rfl dL_law_508 ?_
  refine kz_iload (pc := 509) 5 (i := 5) rfl dL_law_509 ?_
  refine kz_iconst (pc := 511) (v := 2) (by decide) dL_law_511 ?_
  refine kz_iadd (pc := 512) dL_law_512 ?_
  obtain ⟨hi, h⟩ := h
  refine kz_sld (pc := 513) hX hbs hi dL_law_513 ?_
  refine kz_aload_n (pc := 514) 3 (v := .ref x3) (i := 3) rfl rfl rfl dL_law_514 ?_
  obtain ⟨mc3, ms3, hc3, hs3, h⟩ := h
  refine kz_callSX (pc := 515) (μ' := mL_writer) (d' := d + 10) (mc' := mc3) (ms' := ms3) (As := [.ref x1, .int (xs (x5 + 1).toNatClampNeg), .int (xs (x5 + 2).toNatClampNeg), .ref x3]) (st := []) (c := c) (sl := sl) kmL_writer kw_633 (by omega) rfl (Nat.le_of_ble_eq_true rfl) hc3 hs3 dL_law_515 (fun E M9 hx => kz_Tout rfl hc3 hs3 hx) (kz_Cmono (fun v M1 h => ?_) (fun _ _ h => h) h)
  obtain ⟨r2, rfl, h⟩ := h
  show kz_Z G (d + 11) mc ms mL_law Qr Qx 518 [(0, .retAddr x0), (1, .ref x1), (2, .ref x2), (3, .ref x3), (4, .ref x4), (5, .int x5)] [.int r2] M1 (c + mc3) (sl + ms3)
  refine kz_istore (pc := 518) (i := 6) (ls' := [(0, .retAddr x0), (1, .ref x1), (2, .ref x2), (3, .ref x3), (4, .ref x4), (5, .int x5)]) (by decide) rfl dL_law_518 ?_
  refine kz_aload_n (pc := 520) 3 (v := .ref x2) (i := 2) rfl rfl rfl dL_law_520 ?_
  refine kz_aload_n (pc := 521) 1 (v := .retAddr x0) (i := 0) rfl rfl rfl dL_law_521 ?_
  refine kz_iload (pc := 522) 6 (i := 5) rfl dL_law_522 ?_
  refine kz_iconst (pc := 524) (v := 1) (by decide) dL_law_524 ?_
  refine kz_iadd (pc := 525) dL_law_525 ?_
  obtain ⟨hi, h⟩ := h
  refine kz_sld (pc := 526) hX hbs hi dL_law_526 ?_
  refine kz_aload_n (pc := 527) 1 (v := .retAddr x0) (i := 0) rfl rfl rfl dL_law_527 ?_
  refine kz_iload (pc := 528) 6 (i := 5) rfl dL_law_528 ?_
  refine kz_iconst (pc := 530) (v := 2) (by decide) dL_law_530 ?_
  refine kz_iadd (pc := 531) dL_law_531 ?_
  obtain ⟨hi, h⟩ := h
  refine kz_sld (pc := 532) hX hbs hi dL_law_532 ?_
  obtain ⟨⟨fs13, he⟩, h⟩ := h
  refine kz_callV (pc := 533) (μ' := mX12_writer) (ci := 11) (q := (RX12, TX12, 32)) (b := x2) (d' := d + 10) (mc' := 0) (ms' := 0) (As := [.int (xs (x5 + 1).toNatClampNeg), .int (xs (x5 + 2).toNatClampNeg)]) (st := []) (c := c + mc3) (sl := sl + ms3) kmX12_writer kw_1661 (by omega) rfl (Nat.le_of_ble_eq_true rfl) he rfl rfl hc3 hs3 dL_law_533 (fun E M9 hx => kz_Tout rfl hc3 hs3 hx) (kz_Cmono (fun v M4 h => ?_) (fun _ _ h => h) h)
  obtain ⟨r5, rfl, h⟩ := h
  show kz_Z G (d + 11) mc ms mL_law Qr Qx 536 [(6, .int r2), (0, .retAddr x0), (1, .ref x1), (2, .ref x2), (3, .ref x3), (4, .ref x4), (5, .int x5)] [.int r5] M4 (c + mc3) (sl + ms3)
  refine kz_istore (pc := 536) (i := 7) (ls' := [(6, .int r2), (0, .retAddr x0), (1, .ref x1), (2, .ref x2), (3, .ref x3), (4, .ref x4), (5, .int x5)]) (by decide) rfl dL_law_536 ?_
  refine kz_aload_n (pc := 538) 4 (v := .ref x2) (i := 2) rfl rfl rfl dL_law_538 ?_
  obtain ⟨⟨fs12, he⟩, h⟩ := h
  refine kz_callV (pc := 539) (μ' := mX12_thrown) (ci := 11) (q := (RX12, TX12, 32)) (b := x2) (d' := d + 10) (mc' := 0) (ms' := 0) (As := []) (st := []) (c := c + mc3) (sl := sl + ms3) kmX12_thrown kw_1475 (by omega) rfl (Nat.le_of_ble_eq_true rfl) he rfl rfl hc3 hs3 dL_law_539 (fun E M9 hx => kz_Tout rfl hc3 hs3 hx) (kz_Cmono (fun v M7 h => ?_) (fun _ _ h => h) h)
  obtain ⟨r8, rfl, h⟩ := h
  show kz_Z G (d + 11) mc ms mL_law Qr Qx 542 [(7, .int r5), (6, .int r2), (0, .retAddr x0), (1, .ref x1), (2, .ref x2), (3, .ref x3), (4, .ref x4), (5, .int x5)] [.int r8] M7 (c + mc3) (sl + ms3)
  refine kz_iload (pc := 542) 1 (i := 6) rfl dL_law_542 ?_
  refine kz_icmp_eq (pc := 544) (tgt := 549) (by decide) dL_law_544 (fun hb => ?_) (fun hb => ?_)
  · replace h := h.1 hb
    refine kz_iload (pc := 549) 1 (i := 6) rfl dL_law_549 ?_
    refine kz_if_ne (pc := 551) (tgt := 566) (by decide) dL_law_551 (fun hb => ?_) (fun hb => ?_)
    · replace h := h.1 hb
      refine kz_goto (pc := 566) (tgt := 2913) (by decide) dL_law_566 ?_
      refine kz_sub [2, 3, 4, 5, 6, 7] rfl ?_
      exact h
    · replace h := h.2 hb
      refine kz_aload_n (pc := 554) 5 (v := .ref x3) (i := 3) rfl rfl rfl dL_law_554 ?_
      refine kz_iconst (pc := 555) (v := 0) (by decide) dL_law_555 ?_
      obtain ⟨n10, f11, hM, hi, h⟩ := h
      refine kz_lald (pc := 556) hM hi dL_law_556 ?_
      refine kz_iload (pc := 557) 0 (i := 7) rfl dL_law_557 ?_
      refine kz_i2l (pc := 559) dL_law_559 ?_
      refine kz_lcmp_eq (pc := 560) (tgt := 566) (by decide) dL_law_560 dL_law_561 (fun hb => ?_) (fun hb => ?_)
      · replace h := h.1 hb
        refine kz_goto (pc := 566) (tgt := 2913) (by decide) dL_law_566 ?_
        refine kz_sub [2, 3, 4, 5, 6, 7] rfl ?_
        exact h
      · replace h := h.2 hb
        refine kz_iconst (pc := 564) (v := 0) (by decide) dL_law_564 ?_
        exact kz_zret (pc := 565) (ty := .boolean) rfl (by decide) hc3 hs3 dL_law_565 h
  · replace h := h.2 hb
    refine kz_iconst (pc := 547) (v := 0) (by decide) dL_law_547 ?_
    exact kz_zret (pc := 548) (ty := .boolean) rfl (by decide) hc3 hs3 dL_law_548 h
theorem rL_law_569 {G : kz_G} {N : Nat} {xs : Nat → Int32} {d : Nat} {mc ms : Nat} {Qr : Option Value → kz_M → Prop} {Qx : String → kz_M → Prop} {x0 : Nat} {x1 : Nat} {x2 : Nat} {x3 : Nat} {x4 : Nat} {x5 : Int32}  {M : kz_M} {c sl : Nat} (hc : c ≤ mc) (hs : sl ≤ ms) (hX : va_X (G.2.2.2 x0) N xs G.2.2.1 G.2.2.1.heap) (hbs : G.2.2.2 x0 < G.2.2.1.heap.size) (h : vp_in (x5 + 1) N ∧ (vp_in (x5 + 2) N ∧ (∃ mc3 ms3, c + mc3 ≤ mc ∧ sl + ms3 ≤ ms ∧ kz_C G (d + 10) mc3 ms3 mL_work [.ref x1, .int (xs (x5 + 1).toNatClampNeg), .int (xs (x5 + 2).toNatClampNeg), .ref x3] M (fun v M1 => ∃ r2 : Int32, v = some (.int r2) ∧ (vp_in (x5 + 1) N ∧ (vp_in (x5 + 2) N ∧ ((∃ fs13, (M1).1 x2 = some (.inl (11, fs13))) ∧ kz_C G (d + 10) 0 0 mX12_work [.ref x2, .int (xs (x5 + 1).toNatClampNeg), .int (xs (x5 + 2).toNatClampNeg)] M1 (fun v M4 => ∃ r5 : Int32, v = some (.int r5) ∧ ((∃ fs12, (M4).1 x2 = some (.inl (11, fs12))) ∧ kz_C G (d + 10) 0 0 mX12_thrown [.ref x2] M4 (fun v M7 => ∃ r8 : Int32, v = some (.int r8) ∧ ((r8 = r2 → (¬ r2 = 0 → zL_law_2913 G d mc ms Qr Qx x0 x1 x2 x3 x4 x5 M7 (c + mc3) (sl + ms3)) ∧ (r2 = 0 → ∃ n10 f11, (M7).1 x3 = some (.inr (.long, n10, .inr (.inl f11))) ∧ vp_in (0 : Int32) n10 ∧ (((f11 (0 : Int32).toNatClampNeg) = ((r5 : Int32).toInt64) → zL_law_2913 G d mc ms Qr Qx x0 x1 x2 x3 x4 x5 M7 (c + mc3) (sl + ms3)) ∧ (¬ (f11 (0 : Int32).toNatClampNeg) = ((r5 : Int32).toInt64) → Qr (some (.int 0)) M7)))) ∧ (¬ r8 = r2 → Qr (some (.int 0)) M7))) Qx)) Qx)))) Qx))) : zL_law_569 G d mc ms Qr Qx x0 x1 x2 x3 x4 x5  M c sl := by
  show kz_Z G (d + 11) mc ms mL_law Qr Qx 569 [(0, .retAddr x0), (1, .ref x1), (2, .ref x2), (3, .ref x3), (4, .ref x4), (5, .int x5)] [] M c sl
  refine kz_aload_n (pc := 569) 1 (v := .ref x1) (i := 1) rfl rfl rfl dL_law_569 ?_
  refine kz_aload_n (pc := 570) 0 (v := .retAddr x0) (i := 0) rfl rfl rfl dL_law_570 ?_
  refine kz_iload (pc := 571) 5 (i := 5) rfl dL_law_571 ?_
  refine kz_iconst (pc := 573) (v := 1) (by decide) dL_law_573 ?_
  refine kz_iadd (pc := 574) dL_law_574 ?_
  obtain ⟨hi, h⟩ := h
  refine kz_sld (pc := 575) hX hbs hi dL_law_575 ?_
  refine kz_aload_n (pc := 576) 0 (v := .retAddr x0) (i := 0) rfl rfl rfl dL_law_576 ?_
  refine kz_iload (pc := 577) 5 (i := 5) rfl dL_law_577 ?_
  refine kz_iconst (pc := 579) (v := 2) (by decide) dL_law_579 ?_
  refine kz_iadd (pc := 580) dL_law_580 ?_
  obtain ⟨hi, h⟩ := h
  refine kz_sld (pc := 581) hX hbs hi dL_law_581 ?_
  refine kz_aload_n (pc := 582) 3 (v := .ref x3) (i := 3) rfl rfl rfl dL_law_582 ?_
  obtain ⟨mc3, ms3, hc3, hs3, h⟩ := h
  refine kz_callSX (pc := 583) (μ' := mL_work) (d' := d + 10) (mc' := mc3) (ms' := ms3) (As := [.ref x1, .int (xs (x5 + 1).toNatClampNeg), .int (xs (x5 + 2).toNatClampNeg), .ref x3]) (st := []) (c := c) (sl := sl) kmL_work kw_737 (by omega) rfl (Nat.le_of_ble_eq_true rfl) hc3 hs3 dL_law_583 (fun E M9 hx => kz_Tout rfl hc3 hs3 hx) (kz_Cmono (fun v M1 h => ?_) (fun _ _ h => h) h)
  obtain ⟨r2, rfl, h⟩ := h
  show kz_Z G (d + 11) mc ms mL_law Qr Qx 586 [(0, .retAddr x0), (1, .ref x1), (2, .ref x2), (3, .ref x3), (4, .ref x4), (5, .int x5)] [.int r2] M1 (c + mc3) (sl + ms3)
  refine kz_istore (pc := 586) (i := 6) (ls' := [(0, .retAddr x0), (1, .ref x1), (2, .ref x2), (3, .ref x3), (4, .ref x4), (5, .int x5)]) (by decide) rfl dL_law_586 ?_
  refine kz_aload_n (pc := 588) 3 (v := .ref x2) (i := 2) rfl rfl rfl dL_law_588 ?_
  refine kz_aload_n (pc := 589) 1 (v := .retAddr x0) (i := 0) rfl rfl rfl dL_law_589 ?_
  refine kz_iload (pc := 590) 6 (i := 5) rfl dL_law_590 ?_
  refine kz_iconst (pc := 592) (v := 1) (by decide) dL_law_592 ?_
  refine kz_iadd (pc := 593) dL_law_593 ?_
  obtain ⟨hi, h⟩ := h
  refine kz_sld (pc := 594) hX hbs hi dL_law_594 ?_
  refine kz_aload_n (pc := 595) 1 (v := .retAddr x0) (i := 0) rfl rfl rfl dL_law_595 ?_
  refine kz_iload (pc := 596) 6 (i := 5) rfl dL_law_596 ?_
  refine kz_iconst (pc := 598) (v := 2) (by decide) dL_law_598 ?_
  refine kz_iadd (pc := 599) dL_law_599 ?_
  obtain ⟨hi, h⟩ := h
  refine kz_sld (pc := 600) hX hbs hi dL_law_600 ?_
  obtain ⟨⟨fs13, he⟩, h⟩ := h
  refine kz_callV (pc := 601) (μ' := mX12_work) (ci := 11) (q := (RX12, TX12, 32)) (b := x2) (d' := d + 10) (mc' := 0) (ms' := 0) (As := [.int (xs (x5 + 1).toNatClampNeg), .int (xs (x5 + 2).toNatClampNeg)]) (st := []) (c := c + mc3) (sl := sl + ms3) kmX12_work kw_1709 (by omega) rfl (Nat.le_of_ble_eq_true rfl) he rfl rfl hc3 hs3 dL_law_601 (fun E M9 hx => kz_Tout rfl hc3 hs3 hx) (kz_Cmono (fun v M4 h => ?_) (fun _ _ h => h) h)
  obtain ⟨r5, rfl, h⟩ := h
  show kz_Z G (d + 11) mc ms mL_law Qr Qx 604 [(6, .int r2), (0, .retAddr x0), (1, .ref x1), (2, .ref x2), (3, .ref x3), (4, .ref x4), (5, .int x5)] [.int r5] M4 (c + mc3) (sl + ms3)
  refine kz_istore (pc := 604) (i := 7) (ls' := [(6, .int r2), (0, .retAddr x0), (1, .ref x1), (2, .ref x2), (3, .ref x3), (4, .ref x4), (5, .int x5)]) (by decide) rfl dL_law_604 ?_
  refine kz_aload_n (pc := 606) 4 (v := .ref x2) (i := 2) rfl rfl rfl dL_law_606 ?_
  obtain ⟨⟨fs12, he⟩, h⟩ := h
  refine kz_callV (pc := 607) (μ' := mX12_thrown) (ci := 11) (q := (RX12, TX12, 32)) (b := x2) (d' := d + 10) (mc' := 0) (ms' := 0) (As := []) (st := []) (c := c + mc3) (sl := sl + ms3) kmX12_thrown kw_1475 (by omega) rfl (Nat.le_of_ble_eq_true rfl) he rfl rfl hc3 hs3 dL_law_607 (fun E M9 hx => kz_Tout rfl hc3 hs3 hx) (kz_Cmono (fun v M7 h => ?_) (fun _ _ h => h) h)
  obtain ⟨r8, rfl, h⟩ := h
  show kz_Z G (d + 11) mc ms mL_law Qr Qx 610 [(7, .int r5), (6, .int r2), (0, .retAddr x0), (1, .ref x1), (2, .ref x2), (3, .ref x3), (4, .ref x4), (5, .int x5)] [.int r8] M7 (c + mc3) (sl + ms3)
  refine kz_iload (pc := 610) 1 (i := 6) rfl dL_law_610 ?_
  refine kz_icmp_eq (pc := 612) (tgt := 617) (by decide) dL_law_612 (fun hb => ?_) (fun hb => ?_)
  · replace h := h.1 hb
    refine kz_iload (pc := 617) 1 (i := 6) rfl dL_law_617 ?_
    refine kz_if_ne (pc := 619) (tgt := 634) (by decide) dL_law_619 (fun hb => ?_) (fun hb => ?_)
    · replace h := h.1 hb
      refine kz_goto (pc := 634) (tgt := 2913) (by decide) dL_law_634 ?_
      refine kz_sub [2, 3, 4, 5, 6, 7] rfl ?_
      exact h
    · replace h := h.2 hb
      refine kz_aload_n (pc := 622) 5 (v := .ref x3) (i := 3) rfl rfl rfl dL_law_622 ?_
      refine kz_iconst (pc := 623) (v := 0) (by decide) dL_law_623 ?_
      obtain ⟨n10, f11, hM, hi, h⟩ := h
      refine kz_lald (pc := 624) hM hi dL_law_624 ?_
      refine kz_iload (pc := 625) 0 (i := 7) rfl dL_law_625 ?_
      refine kz_i2l (pc := 627) dL_law_627 ?_
      refine kz_lcmp_eq (pc := 628) (tgt := 634) (by decide) dL_law_628 dL_law_629 (fun hb => ?_) (fun hb => ?_)
      · replace h := h.1 hb
        refine kz_goto (pc := 634) (tgt := 2913) (by decide) dL_law_634 ?_
        refine kz_sub [2, 3, 4, 5, 6, 7] rfl ?_
        exact h
      · replace h := h.2 hb
        refine kz_iconst (pc := 632) (v := 0) (by decide) dL_law_632 ?_
        exact kz_zret (pc := 633) (ty := .boolean) rfl (by decide) hc3 hs3 dL_law_633 h
  · replace h := h.2 hb
    refine kz_iconst (pc := 615) (v := 0) (by decide) dL_law_615 ?_
    exact kz_zret (pc := 616) (ty := .boolean) rfl (by decide) hc3 hs3 dL_law_616 h
theorem rL_law_637 {G : kz_G} {N : Nat} {xs : Nat → Int32} {d : Nat} {mc ms : Nat} {Qr : Option Value → kz_M → Prop} {Qx : String → kz_M → Prop} {x0 : Nat} {x1 : Nat} {x2 : Nat} {x3 : Nat} {x4 : Nat} {x5 : Int32}  {M : kz_M} {c sl : Nat} (hc : c ≤ mc) (hs : sl ≤ ms) (hX : va_X (G.2.2.2 x0) N xs G.2.2.1 G.2.2.1.heap) (hbs : G.2.2.2 x0 < G.2.2.1.heap.size) (h : vp_in (x5 + 1) N ∧ (vp_in (x5 + 2) N ∧ (vp_in (x5 + 3) N ∧ (∃ mc3 ms3, c + mc3 ≤ mc ∧ sl + ms3 ≤ ms ∧ kz_C G (d + 10) mc3 ms3 mL_line [.ref x1, .int (xs (x5 + 1).toNatClampNeg), .int (xs (x5 + 2).toNatClampNeg), .int (xs (x5 + 3).toNatClampNeg), .ref x3] M (fun v M1 => ∃ r2 : Int32, v = some (.int r2) ∧ (vp_in (x5 + 1) N ∧ (vp_in (x5 + 2) N ∧ (vp_in (x5 + 3) N ∧ ((∃ fs13, (M1).1 x2 = some (.inl (11, fs13))) ∧ kz_C G (d + 10) 0 0 mX12_line [.ref x2, .int (xs (x5 + 1).toNatClampNeg), .int (xs (x5 + 2).toNatClampNeg), .int (xs (x5 + 3).toNatClampNeg)] M1 (fun v M4 => ∃ r5 : Int32, v = some (.int r5) ∧ ((∃ fs12, (M4).1 x2 = some (.inl (11, fs12))) ∧ kz_C G (d + 10) 0 0 mX12_thrown [.ref x2] M4 (fun v M7 => ∃ r8 : Int32, v = some (.int r8) ∧ ((r8 = r2 → (¬ r2 = 0 → zL_law_2913 G d mc ms Qr Qx x0 x1 x2 x3 x4 x5 M7 (c + mc3) (sl + ms3)) ∧ (r2 = 0 → ∃ n10 f11, (M7).1 x3 = some (.inr (.long, n10, .inr (.inl f11))) ∧ vp_in (0 : Int32) n10 ∧ (((f11 (0 : Int32).toNatClampNeg) = ((r5 : Int32).toInt64) → zL_law_2913 G d mc ms Qr Qx x0 x1 x2 x3 x4 x5 M7 (c + mc3) (sl + ms3)) ∧ (¬ (f11 (0 : Int32).toNatClampNeg) = ((r5 : Int32).toInt64) → Qr (some (.int 0)) M7)))) ∧ (¬ r8 = r2 → Qr (some (.int 0)) M7))) Qx)) Qx))))) Qx)))) : zL_law_637 G d mc ms Qr Qx x0 x1 x2 x3 x4 x5  M c sl := by
  show kz_Z G (d + 11) mc ms mL_law Qr Qx 637 [(0, .retAddr x0), (1, .ref x1), (2, .ref x2), (3, .ref x3), (4, .ref x4), (5, .int x5)] [] M c sl
  refine kz_aload_n (pc := 637) 1 (v := .ref x1) (i := 1) rfl rfl rfl dL_law_637 ?_
  refine kz_aload_n (pc := 638) 0 (v := .retAddr x0) (i := 0) rfl rfl rfl dL_law_638 ?_
  refine kz_iload (pc := 639) 5 (i := 5) rfl dL_law_639 ?_
  refine kz_iconst (pc := 641) (v := 1) (by decide) dL_law_641 ?_
  refine kz_iadd (pc := 642) dL_law_642 ?_
  obtain ⟨hi, h⟩ := h
  refine kz_sld (pc := 643) hX hbs hi dL_law_643 ?_
  refine kz_aload_n (pc := 644) 0 (v := .retAddr x0) (i := 0) rfl rfl rfl dL_law_644 ?_
  refine kz_iload (pc := 645) 5 (i := 5) rfl dL_law_645 ?_
  refine kz_iconst (pc := 647) (v := 2) (by decide) dL_law_647 ?_
  refine kz_iadd (pc := 648) dL_law_648 ?_
  obtain ⟨hi, h⟩ := h
  refine kz_sld (pc := 649) hX hbs hi dL_law_649 ?_
  refine kz_aload_n (pc := 650) 0 (v := .retAddr x0) (i := 0) rfl rfl rfl dL_law_650 ?_
  refine kz_iload (pc := 651) 5 (i := 5) rfl dL_law_651 ?_
  refine kz_iconst (pc := 653) (v := 3) (by decide) dL_law_653 ?_
  refine kz_iadd (pc := 654) dL_law_654 ?_
  obtain ⟨hi, h⟩ := h
  refine kz_sld (pc := 655) hX hbs hi dL_law_655 ?_
  refine kz_aload_n (pc := 656) 3 (v := .ref x3) (i := 3) rfl rfl rfl dL_law_656 ?_
  obtain ⟨mc3, ms3, hc3, hs3, h⟩ := h
  refine kz_callSX (pc := 657) (μ' := mL_line) (d' := d + 10) (mc' := mc3) (ms' := ms3) (As := [.ref x1, .int (xs (x5 + 1).toNatClampNeg), .int (xs (x5 + 2).toNatClampNeg), .int (xs (x5 + 3).toNatClampNeg), .ref x3]) (st := []) (c := c) (sl := sl) kmL_line kw_763 (by omega) rfl (Nat.le_of_ble_eq_true rfl) hc3 hs3 dL_law_657 (fun E M9 hx => kz_Tout rfl hc3 hs3 hx) (kz_Cmono (fun v M1 h => ?_) (fun _ _ h => h) h)
  obtain ⟨r2, rfl, h⟩ := h
  show kz_Z G (d + 11) mc ms mL_law Qr Qx 660 [(0, .retAddr x0), (1, .ref x1), (2, .ref x2), (3, .ref x3), (4, .ref x4), (5, .int x5)] [.int r2] M1 (c + mc3) (sl + ms3)
  refine kz_istore (pc := 660) (i := 6) (ls' := [(0, .retAddr x0), (1, .ref x1), (2, .ref x2), (3, .ref x3), (4, .ref x4), (5, .int x5)]) (by decide) rfl dL_law_660 ?_
  refine kz_aload_n (pc := 662) 3 (v := .ref x2) (i := 2) rfl rfl rfl dL_law_662 ?_
  refine kz_aload_n (pc := 663) 1 (v := .retAddr x0) (i := 0) rfl rfl rfl dL_law_663 ?_
  refine kz_iload (pc := 664) 6 (i := 5) rfl dL_law_664 ?_
  refine kz_iconst (pc := 666) (v := 1) (by decide) dL_law_666 ?_
  refine kz_iadd (pc := 667) dL_law_667 ?_
  obtain ⟨hi, h⟩ := h
  refine kz_sld (pc := 668) hX hbs hi dL_law_668 ?_
  refine kz_aload_n (pc := 669) 1 (v := .retAddr x0) (i := 0) rfl rfl rfl dL_law_669 ?_
  refine kz_iload (pc := 670) 6 (i := 5) rfl dL_law_670 ?_
  refine kz_iconst (pc := 672) (v := 2) (by decide) dL_law_672 ?_
  refine kz_iadd (pc := 673) dL_law_673 ?_
  obtain ⟨hi, h⟩ := h
  refine kz_sld (pc := 674) hX hbs hi dL_law_674 ?_
  refine kz_aload_n (pc := 675) 1 (v := .retAddr x0) (i := 0) rfl rfl rfl dL_law_675 ?_
  refine kz_iload (pc := 676) 6 (i := 5) rfl dL_law_676 ?_
  refine kz_iconst (pc := 678) (v := 3) (by decide) dL_law_678 ?_
  refine kz_iadd (pc := 679) dL_law_679 ?_
  obtain ⟨hi, h⟩ := h
  refine kz_sld (pc := 680) hX hbs hi dL_law_680 ?_
  obtain ⟨⟨fs13, he⟩, h⟩ := h
  refine kz_callV (pc := 681) (μ' := mX12_line) (ci := 11) (q := (RX12, TX12, 32)) (b := x2) (d' := d + 10) (mc' := 0) (ms' := 0) (As := [.int (xs (x5 + 1).toNatClampNeg), .int (xs (x5 + 2).toNatClampNeg), .int (xs (x5 + 3).toNatClampNeg)]) (st := []) (c := c + mc3) (sl := sl + ms3) kmX12_line kw_1725 (by omega) rfl (Nat.le_of_ble_eq_true rfl) he rfl rfl hc3 hs3 dL_law_681 (fun E M9 hx => kz_Tout rfl hc3 hs3 hx) (kz_Cmono (fun v M4 h => ?_) (fun _ _ h => h) h)
  obtain ⟨r5, rfl, h⟩ := h
  show kz_Z G (d + 11) mc ms mL_law Qr Qx 684 [(6, .int r2), (0, .retAddr x0), (1, .ref x1), (2, .ref x2), (3, .ref x3), (4, .ref x4), (5, .int x5)] [.int r5] M4 (c + mc3) (sl + ms3)
  refine kz_istore (pc := 684) (i := 7) (ls' := [(6, .int r2), (0, .retAddr x0), (1, .ref x1), (2, .ref x2), (3, .ref x3), (4, .ref x4), (5, .int x5)]) (by decide) rfl dL_law_684 ?_
  refine kz_aload_n (pc := 686) 4 (v := .ref x2) (i := 2) rfl rfl rfl dL_law_686 ?_
  obtain ⟨⟨fs12, he⟩, h⟩ := h
  refine kz_callV (pc := 687) (μ' := mX12_thrown) (ci := 11) (q := (RX12, TX12, 32)) (b := x2) (d' := d + 10) (mc' := 0) (ms' := 0) (As := []) (st := []) (c := c + mc3) (sl := sl + ms3) kmX12_thrown kw_1475 (by omega) rfl (Nat.le_of_ble_eq_true rfl) he rfl rfl hc3 hs3 dL_law_687 (fun E M9 hx => kz_Tout rfl hc3 hs3 hx) (kz_Cmono (fun v M7 h => ?_) (fun _ _ h => h) h)
  obtain ⟨r8, rfl, h⟩ := h
  show kz_Z G (d + 11) mc ms mL_law Qr Qx 690 [(7, .int r5), (6, .int r2), (0, .retAddr x0), (1, .ref x1), (2, .ref x2), (3, .ref x3), (4, .ref x4), (5, .int x5)] [.int r8] M7 (c + mc3) (sl + ms3)
  refine kz_iload (pc := 690) 1 (i := 6) rfl dL_law_690 ?_
  refine kz_icmp_eq (pc := 692) (tgt := 697) (by decide) dL_law_692 (fun hb => ?_) (fun hb => ?_)
  · replace h := h.1 hb
    refine kz_iload (pc := 697) 1 (i := 6) rfl dL_law_697 ?_
    refine kz_if_ne (pc := 699) (tgt := 714) (by decide) dL_law_699 (fun hb => ?_) (fun hb => ?_)
    · replace h := h.1 hb
      refine kz_goto (pc := 714) (tgt := 2913) (by decide) dL_law_714 ?_
      refine kz_sub [2, 3, 4, 5, 6, 7] rfl ?_
      exact h
    · replace h := h.2 hb
      refine kz_aload_n (pc := 702) 5 (v := .ref x3) (i := 3) rfl rfl rfl dL_law_702 ?_
      refine kz_iconst (pc := 703) (v := 0) (by decide) dL_law_703 ?_
      obtain ⟨n10, f11, hM, hi, h⟩ := h
      refine kz_lald (pc := 704) hM hi dL_law_704 ?_
      refine kz_iload (pc := 705) 0 (i := 7) rfl dL_law_705 ?_
      refine kz_i2l (pc := 707) dL_law_707 ?_
      refine kz_lcmp_eq (pc := 708) (tgt := 714) (by decide) dL_law_708 dL_law_709 (fun hb => ?_) (fun hb => ?_)
      · replace h := h.1 hb
        refine kz_goto (pc := 714) (tgt := 2913) (by decide) dL_law_714 ?_
        refine kz_sub [2, 3, 4, 5, 6, 7] rfl ?_
        exact h
      · replace h := h.2 hb
        refine kz_iconst (pc := 712) (v := 0) (by decide) dL_law_712 ?_
        exact kz_zret (pc := 713) (ty := .boolean) rfl (by decide) hc3 hs3 dL_law_713 h
  · replace h := h.2 hb
    refine kz_iconst (pc := 695) (v := 0) (by decide) dL_law_695 ?_
    exact kz_zret (pc := 696) (ty := .boolean) rfl (by decide) hc3 hs3 dL_law_696 h
theorem rL_law_717 {G : kz_G} {N : Nat} {xs : Nat → Int32} {d : Nat} {mc ms : Nat} {Qr : Option Value → kz_M → Prop} {Qx : String → kz_M → Prop} {x0 : Nat} {x1 : Nat} {x2 : Nat} {x3 : Nat} {x4 : Nat} {x5 : Int32}  {M : kz_M} {c sl : Nat} (hc : c ≤ mc) (hs : sl ≤ ms) (hX : va_X (G.2.2.2 x0) N xs G.2.2.1 G.2.2.1.heap) (hbs : G.2.2.2 x0 < G.2.2.1.heap.size) (h : vp_in (x5 + 1) N ∧ (vp_in (x5 + 2) N ∧ (∃ mc3 ms3, c + mc3 ≤ mc ∧ sl + ms3 ≤ ms ∧ kz_C G (d + 10) mc3 ms3 mL_likeLine [.ref x1, .int (xs (x5 + 1).toNatClampNeg), .int (xs (x5 + 2).toNatClampNeg), .ref x3] M (fun v M1 => ∃ r2 : Int32, v = some (.int r2) ∧ (vp_in (x5 + 1) N ∧ (vp_in (x5 + 2) N ∧ ((∃ fs13, (M1).1 x2 = some (.inl (11, fs13))) ∧ kz_C G (d + 10) 0 0 mX12_likeLine [.ref x2, .int (xs (x5 + 1).toNatClampNeg), .int (xs (x5 + 2).toNatClampNeg)] M1 (fun v M4 => ∃ r5 : Int32, v = some (.int r5) ∧ ((∃ fs12, (M4).1 x2 = some (.inl (11, fs12))) ∧ kz_C G (d + 10) 0 0 mX12_thrown [.ref x2] M4 (fun v M7 => ∃ r8 : Int32, v = some (.int r8) ∧ ((r8 = r2 → (¬ r2 = 0 → zL_law_2913 G d mc ms Qr Qx x0 x1 x2 x3 x4 x5 M7 (c + mc3) (sl + ms3)) ∧ (r2 = 0 → ∃ n10 f11, (M7).1 x3 = some (.inr (.long, n10, .inr (.inl f11))) ∧ vp_in (0 : Int32) n10 ∧ (((f11 (0 : Int32).toNatClampNeg) = ((r5 : Int32).toInt64) → zL_law_2913 G d mc ms Qr Qx x0 x1 x2 x3 x4 x5 M7 (c + mc3) (sl + ms3)) ∧ (¬ (f11 (0 : Int32).toNatClampNeg) = ((r5 : Int32).toInt64) → Qr (some (.int 0)) M7)))) ∧ (¬ r8 = r2 → Qr (some (.int 0)) M7))) Qx)) Qx)))) Qx))) : zL_law_717 G d mc ms Qr Qx x0 x1 x2 x3 x4 x5  M c sl := by
  show kz_Z G (d + 11) mc ms mL_law Qr Qx 717 [(0, .retAddr x0), (1, .ref x1), (2, .ref x2), (3, .ref x3), (4, .ref x4), (5, .int x5)] [] M c sl
  refine kz_aload_n (pc := 717) 1 (v := .ref x1) (i := 1) rfl rfl rfl dL_law_717 ?_
  refine kz_aload_n (pc := 718) 0 (v := .retAddr x0) (i := 0) rfl rfl rfl dL_law_718 ?_
  refine kz_iload (pc := 719) 5 (i := 5) rfl dL_law_719 ?_
  refine kz_iconst (pc := 721) (v := 1) (by decide) dL_law_721 ?_
  refine kz_iadd (pc := 722) dL_law_722 ?_
  obtain ⟨hi, h⟩ := h
  refine kz_sld (pc := 723) hX hbs hi dL_law_723 ?_
  refine kz_aload_n (pc := 724) 0 (v := .retAddr x0) (i := 0) rfl rfl rfl dL_law_724 ?_
  refine kz_iload (pc := 725) 5 (i := 5) rfl dL_law_725 ?_
  refine kz_iconst (pc := 727) (v := 2) (by decide) dL_law_727 ?_
  refine kz_iadd (pc := 728) dL_law_728 ?_
  obtain ⟨hi, h⟩ := h
  refine kz_sld (pc := 729) hX hbs hi dL_law_729 ?_
  refine kz_aload_n (pc := 730) 3 (v := .ref x3) (i := 3) rfl rfl rfl dL_law_730 ?_
  obtain ⟨mc3, ms3, hc3, hs3, h⟩ := h
  refine kz_callSX (pc := 731) (μ' := mL_likeLine) (d' := d + 10) (mc' := mc3) (ms' := ms3) (As := [.ref x1, .int (xs (x5 + 1).toNatClampNeg), .int (xs (x5 + 2).toNatClampNeg), .ref x3]) (st := []) (c := c) (sl := sl) kmL_likeLine kw_782 (by omega) rfl (Nat.le_of_ble_eq_true rfl) hc3 hs3 dL_law_731 (fun E M9 hx => kz_Tout rfl hc3 hs3 hx) (kz_Cmono (fun v M1 h => ?_) (fun _ _ h => h) h)
  obtain ⟨r2, rfl, h⟩ := h
  show kz_Z G (d + 11) mc ms mL_law Qr Qx 734 [(0, .retAddr x0), (1, .ref x1), (2, .ref x2), (3, .ref x3), (4, .ref x4), (5, .int x5)] [.int r2] M1 (c + mc3) (sl + ms3)
  refine kz_istore (pc := 734) (i := 6) (ls' := [(0, .retAddr x0), (1, .ref x1), (2, .ref x2), (3, .ref x3), (4, .ref x4), (5, .int x5)]) (by decide) rfl dL_law_734 ?_
  refine kz_aload_n (pc := 736) 3 (v := .ref x2) (i := 2) rfl rfl rfl dL_law_736 ?_
  refine kz_aload_n (pc := 737) 1 (v := .retAddr x0) (i := 0) rfl rfl rfl dL_law_737 ?_
  refine kz_iload (pc := 738) 6 (i := 5) rfl dL_law_738 ?_
  refine kz_iconst (pc := 740) (v := 1) (by decide) dL_law_740 ?_
  refine kz_iadd (pc := 741) dL_law_741 ?_
  obtain ⟨hi, h⟩ := h
  refine kz_sld (pc := 742) hX hbs hi dL_law_742 ?_
  refine kz_aload_n (pc := 743) 1 (v := .retAddr x0) (i := 0) rfl rfl rfl dL_law_743 ?_
  refine kz_iload (pc := 744) 6 (i := 5) rfl dL_law_744 ?_
  refine kz_iconst (pc := 746) (v := 2) (by decide) dL_law_746 ?_
  refine kz_iadd (pc := 747) dL_law_747 ?_
  obtain ⟨hi, h⟩ := h
  refine kz_sld (pc := 748) hX hbs hi dL_law_748 ?_
  obtain ⟨⟨fs13, he⟩, h⟩ := h
  refine kz_callV (pc := 749) (μ' := mX12_likeLine) (ci := 11) (q := (RX12, TX12, 32)) (b := x2) (d' := d + 10) (mc' := 0) (ms' := 0) (As := [.int (xs (x5 + 1).toNatClampNeg), .int (xs (x5 + 2).toNatClampNeg)]) (st := []) (c := c + mc3) (sl := sl + ms3) kmX12_likeLine kw_1744 (by omega) rfl (Nat.le_of_ble_eq_true rfl) he rfl rfl hc3 hs3 dL_law_749 (fun E M9 hx => kz_Tout rfl hc3 hs3 hx) (kz_Cmono (fun v M4 h => ?_) (fun _ _ h => h) h)
  obtain ⟨r5, rfl, h⟩ := h
  show kz_Z G (d + 11) mc ms mL_law Qr Qx 752 [(6, .int r2), (0, .retAddr x0), (1, .ref x1), (2, .ref x2), (3, .ref x3), (4, .ref x4), (5, .int x5)] [.int r5] M4 (c + mc3) (sl + ms3)
  refine kz_istore (pc := 752) (i := 7) (ls' := [(6, .int r2), (0, .retAddr x0), (1, .ref x1), (2, .ref x2), (3, .ref x3), (4, .ref x4), (5, .int x5)]) (by decide) rfl dL_law_752 ?_
  refine kz_aload_n (pc := 754) 4 (v := .ref x2) (i := 2) rfl rfl rfl dL_law_754 ?_
  obtain ⟨⟨fs12, he⟩, h⟩ := h
  refine kz_callV (pc := 755) (μ' := mX12_thrown) (ci := 11) (q := (RX12, TX12, 32)) (b := x2) (d' := d + 10) (mc' := 0) (ms' := 0) (As := []) (st := []) (c := c + mc3) (sl := sl + ms3) kmX12_thrown kw_1475 (by omega) rfl (Nat.le_of_ble_eq_true rfl) he rfl rfl hc3 hs3 dL_law_755 (fun E M9 hx => kz_Tout rfl hc3 hs3 hx) (kz_Cmono (fun v M7 h => ?_) (fun _ _ h => h) h)
  obtain ⟨r8, rfl, h⟩ := h
  show kz_Z G (d + 11) mc ms mL_law Qr Qx 758 [(7, .int r5), (6, .int r2), (0, .retAddr x0), (1, .ref x1), (2, .ref x2), (3, .ref x3), (4, .ref x4), (5, .int x5)] [.int r8] M7 (c + mc3) (sl + ms3)
  refine kz_iload (pc := 758) 1 (i := 6) rfl dL_law_758 ?_
  refine kz_icmp_eq (pc := 760) (tgt := 765) (by decide) dL_law_760 (fun hb => ?_) (fun hb => ?_)
  · replace h := h.1 hb
    refine kz_iload (pc := 765) 1 (i := 6) rfl dL_law_765 ?_
    refine kz_if_ne (pc := 767) (tgt := 782) (by decide) dL_law_767 (fun hb => ?_) (fun hb => ?_)
    · replace h := h.1 hb
      refine kz_goto (pc := 782) (tgt := 2913) (by decide) dL_law_782 ?_
      refine kz_sub [2, 3, 4, 5, 6, 7] rfl ?_
      exact h
    · replace h := h.2 hb
      refine kz_aload_n (pc := 770) 5 (v := .ref x3) (i := 3) rfl rfl rfl dL_law_770 ?_
      refine kz_iconst (pc := 771) (v := 0) (by decide) dL_law_771 ?_
      obtain ⟨n10, f11, hM, hi, h⟩ := h
      refine kz_lald (pc := 772) hM hi dL_law_772 ?_
      refine kz_iload (pc := 773) 0 (i := 7) rfl dL_law_773 ?_
      refine kz_i2l (pc := 775) dL_law_775 ?_
      refine kz_lcmp_eq (pc := 776) (tgt := 782) (by decide) dL_law_776 dL_law_777 (fun hb => ?_) (fun hb => ?_)
      · replace h := h.1 hb
        refine kz_goto (pc := 782) (tgt := 2913) (by decide) dL_law_782 ?_
        refine kz_sub [2, 3, 4, 5, 6, 7] rfl ?_
        exact h
      · replace h := h.2 hb
        refine kz_iconst (pc := 780) (v := 0) (by decide) dL_law_780 ?_
        exact kz_zret (pc := 781) (ty := .boolean) rfl (by decide) hc3 hs3 dL_law_781 h
  · replace h := h.2 hb
    refine kz_iconst (pc := 763) (v := 0) (by decide) dL_law_763 ?_
    exact kz_zret (pc := 764) (ty := .boolean) rfl (by decide) hc3 hs3 dL_law_764 h
theorem rL_law_785 {G : kz_G} {N : Nat} {xs : Nat → Int32} {d : Nat} {mc ms : Nat} {Qr : Option Value → kz_M → Prop} {Qx : String → kz_M → Prop} {x0 : Nat} {x1 : Nat} {x2 : Nat} {x3 : Nat} {x4 : Nat} {x5 : Int32}  {M : kz_M} {c sl : Nat} (hc : c ≤ mc) (hs : sl ≤ ms) (hX : va_X (G.2.2.2 x0) N xs G.2.2.1 G.2.2.1.heap) (hbs : G.2.2.2 x0 < G.2.2.1.heap.size) (h : vp_in (x5 + 1) N ∧ (vp_in (x5 + 2) N ∧ (∃ mc3 ms3, c + mc3 ≤ mc ∧ sl + ms3 ≤ ms ∧ kz_C G (d + 10) mc3 ms3 mL_letters [.ref x1, .int (xs (x5 + 1).toNatClampNeg), .int (xs (x5 + 2).toNatClampNeg), .ref x3] M (fun v M1 => ∃ r2 : Int32, v = some (.int r2) ∧ (vp_in (x5 + 1) N ∧ (vp_in (x5 + 2) N ∧ ((∃ fs13, (M1).1 x2 = some (.inl (11, fs13))) ∧ kz_C G (d + 10) 0 0 mX12_letters [.ref x2, .int (xs (x5 + 1).toNatClampNeg), .int (xs (x5 + 2).toNatClampNeg)] M1 (fun v M4 => ∃ r5 : Int32, v = some (.int r5) ∧ ((∃ fs12, (M4).1 x2 = some (.inl (11, fs12))) ∧ kz_C G (d + 10) 0 0 mX12_thrown [.ref x2] M4 (fun v M7 => ∃ r8 : Int32, v = some (.int r8) ∧ ((r8 = r2 → (¬ r2 = 0 → zL_law_2913 G d mc ms Qr Qx x0 x1 x2 x3 x4 x5 M7 (c + mc3) (sl + ms3)) ∧ (r2 = 0 → ∃ n10 f11, (M7).1 x3 = some (.inr (.long, n10, .inr (.inl f11))) ∧ vp_in (0 : Int32) n10 ∧ (((f11 (0 : Int32).toNatClampNeg) = ((r5 : Int32).toInt64) → zL_law_2913 G d mc ms Qr Qx x0 x1 x2 x3 x4 x5 M7 (c + mc3) (sl + ms3)) ∧ (¬ (f11 (0 : Int32).toNatClampNeg) = ((r5 : Int32).toInt64) → Qr (some (.int 0)) M7)))) ∧ (¬ r8 = r2 → Qr (some (.int 0)) M7))) Qx)) Qx)))) Qx))) : zL_law_785 G d mc ms Qr Qx x0 x1 x2 x3 x4 x5  M c sl := by
  show kz_Z G (d + 11) mc ms mL_law Qr Qx 785 [(0, .retAddr x0), (1, .ref x1), (2, .ref x2), (3, .ref x3), (4, .ref x4), (5, .int x5)] [] M c sl
  refine kz_aload_n (pc := 785) 1 (v := .ref x1) (i := 1) rfl rfl rfl dL_law_785 ?_
  refine kz_aload_n (pc := 786) 0 (v := .retAddr x0) (i := 0) rfl rfl rfl dL_law_786 ?_
  refine kz_iload (pc := 787) 5 (i := 5) rfl dL_law_787 ?_
  refine kz_iconst (pc := 789) (v := 1) (by decide) dL_law_789 ?_
  refine kz_iadd (pc := 790) dL_law_790 ?_
  obtain ⟨hi, h⟩ := h
  refine kz_sld (pc := 791) hX hbs hi dL_law_791 ?_
  refine kz_aload_n (pc := 792) 0 (v := .retAddr x0) (i := 0) rfl rfl rfl dL_law_792 ?_
  refine kz_iload (pc := 793) 5 (i := 5) rfl dL_law_793 ?_
  refine kz_iconst (pc := 795) (v := 2) (by decide) dL_law_795 ?_
  refine kz_iadd (pc := 796) dL_law_796 ?_
  obtain ⟨hi, h⟩ := h
  refine kz_sld (pc := 797) hX hbs hi dL_law_797 ?_
  refine kz_aload_n (pc := 798) 3 (v := .ref x3) (i := 3) rfl rfl rfl dL_law_798 ?_
  obtain ⟨mc3, ms3, hc3, hs3, h⟩ := h
  refine kz_callSX (pc := 799) (μ' := mL_letters) (d' := d + 10) (mc' := mc3) (ms' := ms3) (As := [.ref x1, .int (xs (x5 + 1).toNatClampNeg), .int (xs (x5 + 2).toNatClampNeg), .ref x3]) (st := []) (c := c) (sl := sl) kmL_letters kw_798 (by omega) rfl (Nat.le_of_ble_eq_true rfl) hc3 hs3 dL_law_799 (fun E M9 hx => kz_Tout rfl hc3 hs3 hx) (kz_Cmono (fun v M1 h => ?_) (fun _ _ h => h) h)
  obtain ⟨r2, rfl, h⟩ := h
  show kz_Z G (d + 11) mc ms mL_law Qr Qx 802 [(0, .retAddr x0), (1, .ref x1), (2, .ref x2), (3, .ref x3), (4, .ref x4), (5, .int x5)] [.int r2] M1 (c + mc3) (sl + ms3)
  refine kz_istore (pc := 802) (i := 6) (ls' := [(0, .retAddr x0), (1, .ref x1), (2, .ref x2), (3, .ref x3), (4, .ref x4), (5, .int x5)]) (by decide) rfl dL_law_802 ?_
  refine kz_aload_n (pc := 804) 3 (v := .ref x2) (i := 2) rfl rfl rfl dL_law_804 ?_
  refine kz_aload_n (pc := 805) 1 (v := .retAddr x0) (i := 0) rfl rfl rfl dL_law_805 ?_
  refine kz_iload (pc := 806) 6 (i := 5) rfl dL_law_806 ?_
  refine kz_iconst (pc := 808) (v := 1) (by decide) dL_law_808 ?_
  refine kz_iadd (pc := 809) dL_law_809 ?_
  obtain ⟨hi, h⟩ := h
  refine kz_sld (pc := 810) hX hbs hi dL_law_810 ?_
  refine kz_aload_n (pc := 811) 1 (v := .retAddr x0) (i := 0) rfl rfl rfl dL_law_811 ?_
  refine kz_iload (pc := 812) 6 (i := 5) rfl dL_law_812 ?_
  refine kz_iconst (pc := 814) (v := 2) (by decide) dL_law_814 ?_
  refine kz_iadd (pc := 815) dL_law_815 ?_
  obtain ⟨hi, h⟩ := h
  refine kz_sld (pc := 816) hX hbs hi dL_law_816 ?_
  obtain ⟨⟨fs13, he⟩, h⟩ := h
  refine kz_callV (pc := 817) (μ' := mX12_letters) (ci := 11) (q := (RX12, TX12, 32)) (b := x2) (d' := d + 10) (mc' := 0) (ms' := 0) (As := [.int (xs (x5 + 1).toNatClampNeg), .int (xs (x5 + 2).toNatClampNeg)]) (st := []) (c := c + mc3) (sl := sl + ms3) kmX12_letters kw_1752 (by omega) rfl (Nat.le_of_ble_eq_true rfl) he rfl rfl hc3 hs3 dL_law_817 (fun E M9 hx => kz_Tout rfl hc3 hs3 hx) (kz_Cmono (fun v M4 h => ?_) (fun _ _ h => h) h)
  obtain ⟨r5, rfl, h⟩ := h
  show kz_Z G (d + 11) mc ms mL_law Qr Qx 820 [(6, .int r2), (0, .retAddr x0), (1, .ref x1), (2, .ref x2), (3, .ref x3), (4, .ref x4), (5, .int x5)] [.int r5] M4 (c + mc3) (sl + ms3)
  refine kz_istore (pc := 820) (i := 7) (ls' := [(6, .int r2), (0, .retAddr x0), (1, .ref x1), (2, .ref x2), (3, .ref x3), (4, .ref x4), (5, .int x5)]) (by decide) rfl dL_law_820 ?_
  refine kz_aload_n (pc := 822) 4 (v := .ref x2) (i := 2) rfl rfl rfl dL_law_822 ?_
  obtain ⟨⟨fs12, he⟩, h⟩ := h
  refine kz_callV (pc := 823) (μ' := mX12_thrown) (ci := 11) (q := (RX12, TX12, 32)) (b := x2) (d' := d + 10) (mc' := 0) (ms' := 0) (As := []) (st := []) (c := c + mc3) (sl := sl + ms3) kmX12_thrown kw_1475 (by omega) rfl (Nat.le_of_ble_eq_true rfl) he rfl rfl hc3 hs3 dL_law_823 (fun E M9 hx => kz_Tout rfl hc3 hs3 hx) (kz_Cmono (fun v M7 h => ?_) (fun _ _ h => h) h)
  obtain ⟨r8, rfl, h⟩ := h
  show kz_Z G (d + 11) mc ms mL_law Qr Qx 826 [(7, .int r5), (6, .int r2), (0, .retAddr x0), (1, .ref x1), (2, .ref x2), (3, .ref x3), (4, .ref x4), (5, .int x5)] [.int r8] M7 (c + mc3) (sl + ms3)
  refine kz_iload (pc := 826) 1 (i := 6) rfl dL_law_826 ?_
  refine kz_icmp_eq (pc := 828) (tgt := 833) (by decide) dL_law_828 (fun hb => ?_) (fun hb => ?_)
  · replace h := h.1 hb
    refine kz_iload (pc := 833) 1 (i := 6) rfl dL_law_833 ?_
    refine kz_if_ne (pc := 835) (tgt := 850) (by decide) dL_law_835 (fun hb => ?_) (fun hb => ?_)
    · replace h := h.1 hb
      refine kz_goto (pc := 850) (tgt := 2913) (by decide) dL_law_850 ?_
      refine kz_sub [2, 3, 4, 5, 6, 7] rfl ?_
      exact h
    · replace h := h.2 hb
      refine kz_aload_n (pc := 838) 5 (v := .ref x3) (i := 3) rfl rfl rfl dL_law_838 ?_
      refine kz_iconst (pc := 839) (v := 0) (by decide) dL_law_839 ?_
      obtain ⟨n10, f11, hM, hi, h⟩ := h
      refine kz_lald (pc := 840) hM hi dL_law_840 ?_
      refine kz_iload (pc := 841) 0 (i := 7) rfl dL_law_841 ?_
      refine kz_i2l (pc := 843) dL_law_843 ?_
      refine kz_lcmp_eq (pc := 844) (tgt := 850) (by decide) dL_law_844 dL_law_845 (fun hb => ?_) (fun hb => ?_)
      · replace h := h.1 hb
        refine kz_goto (pc := 850) (tgt := 2913) (by decide) dL_law_850 ?_
        refine kz_sub [2, 3, 4, 5, 6, 7] rfl ?_
        exact h
      · replace h := h.2 hb
        refine kz_iconst (pc := 848) (v := 0) (by decide) dL_law_848 ?_
        exact kz_zret (pc := 849) (ty := .boolean) rfl (by decide) hc3 hs3 dL_law_849 h
  · replace h := h.2 hb
    refine kz_iconst (pc := 831) (v := 0) (by decide) dL_law_831 ?_
    exact kz_zret (pc := 832) (ty := .boolean) rfl (by decide) hc3 hs3 dL_law_832 h
theorem rL_law_853 {G : kz_G} {N : Nat} {xs : Nat → Int32} {d : Nat} {mc ms : Nat} {Qr : Option Value → kz_M → Prop} {Qx : String → kz_M → Prop} {x0 : Nat} {x1 : Nat} {x2 : Nat} {x3 : Nat} {x4 : Nat} {x5 : Int32}  {M : kz_M} {c sl : Nat} (hc : c ≤ mc) (hs : sl ≤ ms) (hX : va_X (G.2.2.2 x0) N xs G.2.2.1 G.2.2.1.heap) (hbs : G.2.2.2 x0 < G.2.2.1.heap.size) (h : vp_in (x5 + 1) N ∧ (∃ mc3 ms3, c + mc3 ≤ mc ∧ sl + ms3 ≤ ms ∧ kz_C G (d + 10) mc3 ms3 mL_uses [.ref x1, .int (xs (x5 + 1).toNatClampNeg), .ref x3] M (fun v M1 => ∃ r2 : Int32, v = some (.int r2) ∧ (vp_in (x5 + 1) N ∧ ((∃ fs13, (M1).1 x2 = some (.inl (11, fs13))) ∧ kz_C G (d + 10) 0 0 mX12_uses [.ref x2, .int (xs (x5 + 1).toNatClampNeg)] M1 (fun v M4 => ∃ r5 : Int32, v = some (.int r5) ∧ ((∃ fs12, (M4).1 x2 = some (.inl (11, fs12))) ∧ kz_C G (d + 10) 0 0 mX12_thrown [.ref x2] M4 (fun v M7 => ∃ r8 : Int32, v = some (.int r8) ∧ ((r8 = r2 → (¬ r2 = 0 → zL_law_2913 G d mc ms Qr Qx x0 x1 x2 x3 x4 x5 M7 (c + mc3) (sl + ms3)) ∧ (r2 = 0 → ∃ n10 f11, (M7).1 x3 = some (.inr (.long, n10, .inr (.inl f11))) ∧ vp_in (0 : Int32) n10 ∧ (((f11 (0 : Int32).toNatClampNeg) = ((r5 : Int32).toInt64) → zL_law_2913 G d mc ms Qr Qx x0 x1 x2 x3 x4 x5 M7 (c + mc3) (sl + ms3)) ∧ (¬ (f11 (0 : Int32).toNatClampNeg) = ((r5 : Int32).toInt64) → Qr (some (.int 0)) M7)))) ∧ (¬ r8 = r2 → Qr (some (.int 0)) M7))) Qx)) Qx))) Qx)) : zL_law_853 G d mc ms Qr Qx x0 x1 x2 x3 x4 x5  M c sl := by
  show kz_Z G (d + 11) mc ms mL_law Qr Qx 853 [(0, .retAddr x0), (1, .ref x1), (2, .ref x2), (3, .ref x3), (4, .ref x4), (5, .int x5)] [] M c sl
  refine kz_aload_n (pc := 853) 1 (v := .ref x1) (i := 1) rfl rfl rfl dL_law_853 ?_
  refine kz_aload_n (pc := 854) 0 (v := .retAddr x0) (i := 0) rfl rfl rfl dL_law_854 ?_
  refine kz_iload (pc := 855) 5 (i := 5) rfl dL_law_855 ?_
  refine kz_iconst (pc := 857) (v := 1) (by decide) dL_law_857 ?_
  refine kz_iadd (pc := 858) dL_law_858 ?_
  obtain ⟨hi, h⟩ := h
  refine kz_sld (pc := 859) hX hbs hi dL_law_859 ?_
  refine kz_aload_n (pc := 860) 3 (v := .ref x3) (i := 3) rfl rfl rfl dL_law_860 ?_
  obtain ⟨mc3, ms3, hc3, hs3, h⟩ := h
  refine kz_callSX (pc := 861) (μ' := mL_uses) (d' := d + 10) (mc' := mc3) (ms' := ms3) (As := [.ref x1, .int (xs (x5 + 1).toNatClampNeg), .ref x3]) (st := []) (c := c) (sl := sl) kmL_uses kw_806 (by omega) rfl (Nat.le_of_ble_eq_true rfl) hc3 hs3 dL_law_861 (fun E M9 hx => kz_Tout rfl hc3 hs3 hx) (kz_Cmono (fun v M1 h => ?_) (fun _ _ h => h) h)
  obtain ⟨r2, rfl, h⟩ := h
  show kz_Z G (d + 11) mc ms mL_law Qr Qx 864 [(0, .retAddr x0), (1, .ref x1), (2, .ref x2), (3, .ref x3), (4, .ref x4), (5, .int x5)] [.int r2] M1 (c + mc3) (sl + ms3)
  refine kz_istore (pc := 864) (i := 6) (ls' := [(0, .retAddr x0), (1, .ref x1), (2, .ref x2), (3, .ref x3), (4, .ref x4), (5, .int x5)]) (by decide) rfl dL_law_864 ?_
  refine kz_aload_n (pc := 866) 3 (v := .ref x2) (i := 2) rfl rfl rfl dL_law_866 ?_
  refine kz_aload_n (pc := 867) 1 (v := .retAddr x0) (i := 0) rfl rfl rfl dL_law_867 ?_
  refine kz_iload (pc := 868) 6 (i := 5) rfl dL_law_868 ?_
  refine kz_iconst (pc := 870) (v := 1) (by decide) dL_law_870 ?_
  refine kz_iadd (pc := 871) dL_law_871 ?_
  obtain ⟨hi, h⟩ := h
  refine kz_sld (pc := 872) hX hbs hi dL_law_872 ?_
  obtain ⟨⟨fs13, he⟩, h⟩ := h
  refine kz_callV (pc := 873) (μ' := mX12_uses) (ci := 11) (q := (RX12, TX12, 32)) (b := x2) (d' := d + 10) (mc' := 0) (ms' := 0) (As := [.int (xs (x5 + 1).toNatClampNeg)]) (st := []) (c := c + mc3) (sl := sl + ms3) kmX12_uses kw_1756 (by omega) rfl (Nat.le_of_ble_eq_true rfl) he rfl rfl hc3 hs3 dL_law_873 (fun E M9 hx => kz_Tout rfl hc3 hs3 hx) (kz_Cmono (fun v M4 h => ?_) (fun _ _ h => h) h)
  obtain ⟨r5, rfl, h⟩ := h
  show kz_Z G (d + 11) mc ms mL_law Qr Qx 876 [(6, .int r2), (0, .retAddr x0), (1, .ref x1), (2, .ref x2), (3, .ref x3), (4, .ref x4), (5, .int x5)] [.int r5] M4 (c + mc3) (sl + ms3)
  refine kz_istore (pc := 876) (i := 7) (ls' := [(6, .int r2), (0, .retAddr x0), (1, .ref x1), (2, .ref x2), (3, .ref x3), (4, .ref x4), (5, .int x5)]) (by decide) rfl dL_law_876 ?_
  refine kz_aload_n (pc := 878) 4 (v := .ref x2) (i := 2) rfl rfl rfl dL_law_878 ?_
  obtain ⟨⟨fs12, he⟩, h⟩ := h
  refine kz_callV (pc := 879) (μ' := mX12_thrown) (ci := 11) (q := (RX12, TX12, 32)) (b := x2) (d' := d + 10) (mc' := 0) (ms' := 0) (As := []) (st := []) (c := c + mc3) (sl := sl + ms3) kmX12_thrown kw_1475 (by omega) rfl (Nat.le_of_ble_eq_true rfl) he rfl rfl hc3 hs3 dL_law_879 (fun E M9 hx => kz_Tout rfl hc3 hs3 hx) (kz_Cmono (fun v M7 h => ?_) (fun _ _ h => h) h)
  obtain ⟨r8, rfl, h⟩ := h
  show kz_Z G (d + 11) mc ms mL_law Qr Qx 882 [(7, .int r5), (6, .int r2), (0, .retAddr x0), (1, .ref x1), (2, .ref x2), (3, .ref x3), (4, .ref x4), (5, .int x5)] [.int r8] M7 (c + mc3) (sl + ms3)
  refine kz_iload (pc := 882) 1 (i := 6) rfl dL_law_882 ?_
  refine kz_icmp_eq (pc := 884) (tgt := 889) (by decide) dL_law_884 (fun hb => ?_) (fun hb => ?_)
  · replace h := h.1 hb
    refine kz_iload (pc := 889) 1 (i := 6) rfl dL_law_889 ?_
    refine kz_if_ne (pc := 891) (tgt := 906) (by decide) dL_law_891 (fun hb => ?_) (fun hb => ?_)
    · replace h := h.1 hb
      refine kz_goto (pc := 906) (tgt := 2913) (by decide) dL_law_906 ?_
      refine kz_sub [2, 3, 4, 5, 6, 7] rfl ?_
      exact h
    · replace h := h.2 hb
      refine kz_aload_n (pc := 894) 5 (v := .ref x3) (i := 3) rfl rfl rfl dL_law_894 ?_
      refine kz_iconst (pc := 895) (v := 0) (by decide) dL_law_895 ?_
      obtain ⟨n10, f11, hM, hi, h⟩ := h
      refine kz_lald (pc := 896) hM hi dL_law_896 ?_
      refine kz_iload (pc := 897) 0 (i := 7) rfl dL_law_897 ?_
      refine kz_i2l (pc := 899) dL_law_899 ?_
      refine kz_lcmp_eq (pc := 900) (tgt := 906) (by decide) dL_law_900 dL_law_901 (fun hb => ?_) (fun hb => ?_)
      · replace h := h.1 hb
        refine kz_goto (pc := 906) (tgt := 2913) (by decide) dL_law_906 ?_
        refine kz_sub [2, 3, 4, 5, 6, 7] rfl ?_
        exact h
      · replace h := h.2 hb
        refine kz_iconst (pc := 904) (v := 0) (by decide) dL_law_904 ?_
        exact kz_zret (pc := 905) (ty := .boolean) rfl (by decide) hc3 hs3 dL_law_905 h
  · replace h := h.2 hb
    refine kz_iconst (pc := 887) (v := 0) (by decide) dL_law_887 ?_
    exact kz_zret (pc := 888) (ty := .boolean) rfl (by decide) hc3 hs3 dL_law_888 h
theorem rL_law_909 {G : kz_G} {N : Nat} {xs : Nat → Int32} {d : Nat} {mc ms : Nat} {Qr : Option Value → kz_M → Prop} {Qx : String → kz_M → Prop} {x0 : Nat} {x1 : Nat} {x2 : Nat} {x3 : Nat} {x4 : Nat} {x5 : Int32}  {M : kz_M} {c sl : Nat} (hc : c ≤ mc) (hs : sl ≤ ms) (hX : va_X (G.2.2.2 x0) N xs G.2.2.1 G.2.2.1.heap) (hbs : G.2.2.2 x0 < G.2.2.1.heap.size) (h : vp_in (x5 + 1) N ∧ (∃ mc3 ms3, c + mc3 ≤ mc ∧ sl + ms3 ≤ ms ∧ kz_C G (d + 10) mc3 ms3 mL_favourite [.ref x1, .int (xs (x5 + 1).toNatClampNeg), .ref x3] M (fun v M1 => ∃ r2 : Int32, v = some (.int r2) ∧ (vp_in (x5 + 1) N ∧ ((∃ fs13, (M1).1 x2 = some (.inl (11, fs13))) ∧ kz_C G (d + 10) 0 0 mX12_favourite [.ref x2, .int (xs (x5 + 1).toNatClampNeg)] M1 (fun v M4 => ∃ r5 : Int32, v = some (.int r5) ∧ ((∃ fs12, (M4).1 x2 = some (.inl (11, fs12))) ∧ kz_C G (d + 10) 0 0 mX12_thrown [.ref x2] M4 (fun v M7 => ∃ r8 : Int32, v = some (.int r8) ∧ ((r8 = r2 → (¬ r2 = 0 → zL_law_2913 G d mc ms Qr Qx x0 x1 x2 x3 x4 x5 M7 (c + mc3) (sl + ms3)) ∧ (r2 = 0 → ∃ n10 f11, (M7).1 x3 = some (.inr (.long, n10, .inr (.inl f11))) ∧ vp_in (0 : Int32) n10 ∧ (((f11 (0 : Int32).toNatClampNeg) = ((r5 : Int32).toInt64) → zL_law_2913 G d mc ms Qr Qx x0 x1 x2 x3 x4 x5 M7 (c + mc3) (sl + ms3)) ∧ (¬ (f11 (0 : Int32).toNatClampNeg) = ((r5 : Int32).toInt64) → Qr (some (.int 0)) M7)))) ∧ (¬ r8 = r2 → Qr (some (.int 0)) M7))) Qx)) Qx))) Qx)) : zL_law_909 G d mc ms Qr Qx x0 x1 x2 x3 x4 x5  M c sl := by
  show kz_Z G (d + 11) mc ms mL_law Qr Qx 909 [(0, .retAddr x0), (1, .ref x1), (2, .ref x2), (3, .ref x3), (4, .ref x4), (5, .int x5)] [] M c sl
  refine kz_aload_n (pc := 909) 1 (v := .ref x1) (i := 1) rfl rfl rfl dL_law_909 ?_
  refine kz_aload_n (pc := 910) 0 (v := .retAddr x0) (i := 0) rfl rfl rfl dL_law_910 ?_
  refine kz_iload (pc := 911) 5 (i := 5) rfl dL_law_911 ?_
  refine kz_iconst (pc := 913) (v := 1) (by decide) dL_law_913 ?_
  refine kz_iadd (pc := 914) dL_law_914 ?_
  obtain ⟨hi, h⟩ := h
  refine kz_sld (pc := 915) hX hbs hi dL_law_915 ?_
  refine kz_aload_n (pc := 916) 3 (v := .ref x3) (i := 3) rfl rfl rfl dL_law_916 ?_
  obtain ⟨mc3, ms3, hc3, hs3, h⟩ := h
  refine kz_callSX (pc := 917) (μ' := mL_favourite) (d' := d + 10) (mc' := mc3) (ms' := ms3) (As := [.ref x1, .int (xs (x5 + 1).toNatClampNeg), .ref x3]) (st := []) (c := c) (sl := sl) kmL_favourite kw_813 (by omega) rfl (Nat.le_of_ble_eq_true rfl) hc3 hs3 dL_law_917 (fun E M9 hx => kz_Tout rfl hc3 hs3 hx) (kz_Cmono (fun v M1 h => ?_) (fun _ _ h => h) h)
  obtain ⟨r2, rfl, h⟩ := h
  show kz_Z G (d + 11) mc ms mL_law Qr Qx 920 [(0, .retAddr x0), (1, .ref x1), (2, .ref x2), (3, .ref x3), (4, .ref x4), (5, .int x5)] [.int r2] M1 (c + mc3) (sl + ms3)
  refine kz_istore (pc := 920) (i := 6) (ls' := [(0, .retAddr x0), (1, .ref x1), (2, .ref x2), (3, .ref x3), (4, .ref x4), (5, .int x5)]) (by decide) rfl dL_law_920 ?_
  refine kz_aload_n (pc := 922) 3 (v := .ref x2) (i := 2) rfl rfl rfl dL_law_922 ?_
  refine kz_aload_n (pc := 923) 1 (v := .retAddr x0) (i := 0) rfl rfl rfl dL_law_923 ?_
  refine kz_iload (pc := 924) 6 (i := 5) rfl dL_law_924 ?_
  refine kz_iconst (pc := 926) (v := 1) (by decide) dL_law_926 ?_
  refine kz_iadd (pc := 927) dL_law_927 ?_
  obtain ⟨hi, h⟩ := h
  refine kz_sld (pc := 928) hX hbs hi dL_law_928 ?_
  obtain ⟨⟨fs13, he⟩, h⟩ := h
  refine kz_callV (pc := 929) (μ' := mX12_favourite) (ci := 11) (q := (RX12, TX12, 32)) (b := x2) (d' := d + 10) (mc' := 0) (ms' := 0) (As := [.int (xs (x5 + 1).toNatClampNeg)]) (st := []) (c := c + mc3) (sl := sl + ms3) kmX12_favourite kw_1760 (by omega) rfl (Nat.le_of_ble_eq_true rfl) he rfl rfl hc3 hs3 dL_law_929 (fun E M9 hx => kz_Tout rfl hc3 hs3 hx) (kz_Cmono (fun v M4 h => ?_) (fun _ _ h => h) h)
  obtain ⟨r5, rfl, h⟩ := h
  show kz_Z G (d + 11) mc ms mL_law Qr Qx 932 [(6, .int r2), (0, .retAddr x0), (1, .ref x1), (2, .ref x2), (3, .ref x3), (4, .ref x4), (5, .int x5)] [.int r5] M4 (c + mc3) (sl + ms3)
  refine kz_istore (pc := 932) (i := 7) (ls' := [(6, .int r2), (0, .retAddr x0), (1, .ref x1), (2, .ref x2), (3, .ref x3), (4, .ref x4), (5, .int x5)]) (by decide) rfl dL_law_932 ?_
  refine kz_aload_n (pc := 934) 4 (v := .ref x2) (i := 2) rfl rfl rfl dL_law_934 ?_
  obtain ⟨⟨fs12, he⟩, h⟩ := h
  refine kz_callV (pc := 935) (μ' := mX12_thrown) (ci := 11) (q := (RX12, TX12, 32)) (b := x2) (d' := d + 10) (mc' := 0) (ms' := 0) (As := []) (st := []) (c := c + mc3) (sl := sl + ms3) kmX12_thrown kw_1475 (by omega) rfl (Nat.le_of_ble_eq_true rfl) he rfl rfl hc3 hs3 dL_law_935 (fun E M9 hx => kz_Tout rfl hc3 hs3 hx) (kz_Cmono (fun v M7 h => ?_) (fun _ _ h => h) h)
  obtain ⟨r8, rfl, h⟩ := h
  show kz_Z G (d + 11) mc ms mL_law Qr Qx 938 [(7, .int r5), (6, .int r2), (0, .retAddr x0), (1, .ref x1), (2, .ref x2), (3, .ref x3), (4, .ref x4), (5, .int x5)] [.int r8] M7 (c + mc3) (sl + ms3)
  refine kz_iload (pc := 938) 1 (i := 6) rfl dL_law_938 ?_
  refine kz_icmp_eq (pc := 940) (tgt := 945) (by decide) dL_law_940 (fun hb => ?_) (fun hb => ?_)
  · replace h := h.1 hb
    refine kz_iload (pc := 945) 1 (i := 6) rfl dL_law_945 ?_
    refine kz_if_ne (pc := 947) (tgt := 962) (by decide) dL_law_947 (fun hb => ?_) (fun hb => ?_)
    · replace h := h.1 hb
      refine kz_goto (pc := 962) (tgt := 2913) (by decide) dL_law_962 ?_
      refine kz_sub [2, 3, 4, 5, 6, 7] rfl ?_
      exact h
    · replace h := h.2 hb
      refine kz_aload_n (pc := 950) 5 (v := .ref x3) (i := 3) rfl rfl rfl dL_law_950 ?_
      refine kz_iconst (pc := 951) (v := 0) (by decide) dL_law_951 ?_
      obtain ⟨n10, f11, hM, hi, h⟩ := h
      refine kz_lald (pc := 952) hM hi dL_law_952 ?_
      refine kz_iload (pc := 953) 0 (i := 7) rfl dL_law_953 ?_
      refine kz_i2l (pc := 955) dL_law_955 ?_
      refine kz_lcmp_eq (pc := 956) (tgt := 962) (by decide) dL_law_956 dL_law_957 (fun hb => ?_) (fun hb => ?_)
      · replace h := h.1 hb
        refine kz_goto (pc := 962) (tgt := 2913) (by decide) dL_law_962 ?_
        refine kz_sub [2, 3, 4, 5, 6, 7] rfl ?_
        exact h
      · replace h := h.2 hb
        refine kz_iconst (pc := 960) (v := 0) (by decide) dL_law_960 ?_
        exact kz_zret (pc := 961) (ty := .boolean) rfl (by decide) hc3 hs3 dL_law_961 h
  · replace h := h.2 hb
    refine kz_iconst (pc := 943) (v := 0) (by decide) dL_law_943 ?_
    exact kz_zret (pc := 944) (ty := .boolean) rfl (by decide) hc3 hs3 dL_law_944 h
theorem rL_law_965 {G : kz_G} {N : Nat} {xs : Nat → Int32} {d : Nat} {mc ms : Nat} {Qr : Option Value → kz_M → Prop} {Qx : String → kz_M → Prop} {x0 : Nat} {x1 : Nat} {x2 : Nat} {x3 : Nat} {x4 : Nat} {x5 : Int32}  {M : kz_M} {c sl : Nat} (hc : c ≤ mc) (hs : sl ≤ ms) (hX : va_X (G.2.2.2 x0) N xs G.2.2.1 G.2.2.1.heap) (hbs : G.2.2.2 x0 < G.2.2.1.heap.size) (h : vp_in (x5 + 1) N ∧ (vp_in (x5 + 2) N ∧ (∃ mc3 ms3, c + mc3 ≤ mc ∧ sl + ms3 ≤ ms ∧ kz_C G (d + 10) mc3 ms3 mL_common [.ref x1, .int (xs (x5 + 1).toNatClampNeg), .int (xs (x5 + 2).toNatClampNeg), .ref x3] M (fun v M1 => ∃ r2 : Int32, v = some (.int r2) ∧ (vp_in (x5 + 1) N ∧ (vp_in (x5 + 2) N ∧ ((∃ fs13, (M1).1 x2 = some (.inl (11, fs13))) ∧ kz_C G (d + 10) 0 0 mX12_common [.ref x2, .int (xs (x5 + 1).toNatClampNeg), .int (xs (x5 + 2).toNatClampNeg)] M1 (fun v M4 => ∃ r5 : Int32, v = some (.int r5) ∧ ((∃ fs12, (M4).1 x2 = some (.inl (11, fs12))) ∧ kz_C G (d + 10) 0 0 mX12_thrown [.ref x2] M4 (fun v M7 => ∃ r8 : Int32, v = some (.int r8) ∧ ((r8 = r2 → (¬ r2 = 0 → zL_law_2913 G d mc ms Qr Qx x0 x1 x2 x3 x4 x5 M7 (c + mc3) (sl + ms3)) ∧ (r2 = 0 → ∃ n10 f11, (M7).1 x3 = some (.inr (.long, n10, .inr (.inl f11))) ∧ vp_in (0 : Int32) n10 ∧ (((f11 (0 : Int32).toNatClampNeg) = ((r5 : Int32).toInt64) → zL_law_2913 G d mc ms Qr Qx x0 x1 x2 x3 x4 x5 M7 (c + mc3) (sl + ms3)) ∧ (¬ (f11 (0 : Int32).toNatClampNeg) = ((r5 : Int32).toInt64) → Qr (some (.int 0)) M7)))) ∧ (¬ r8 = r2 → Qr (some (.int 0)) M7))) Qx)) Qx)))) Qx))) : zL_law_965 G d mc ms Qr Qx x0 x1 x2 x3 x4 x5  M c sl := by
  show kz_Z G (d + 11) mc ms mL_law Qr Qx 965 [(0, .retAddr x0), (1, .ref x1), (2, .ref x2), (3, .ref x3), (4, .ref x4), (5, .int x5)] [] M c sl
  refine kz_aload_n (pc := 965) 1 (v := .ref x1) (i := 1) rfl rfl rfl dL_law_965 ?_
  refine kz_aload_n (pc := 966) 0 (v := .retAddr x0) (i := 0) rfl rfl rfl dL_law_966 ?_
  refine kz_iload (pc := 967) 5 (i := 5) rfl dL_law_967 ?_
  refine kz_iconst (pc := 969) (v := 1) (by decide) dL_law_969 ?_
  refine kz_iadd (pc := 970) dL_law_970 ?_
  obtain ⟨hi, h⟩ := h
  refine kz_sld (pc := 971) hX hbs hi dL_law_971 ?_
  refine kz_aload_n (pc := 972) 0 (v := .retAddr x0) (i := 0) rfl rfl rfl dL_law_972 ?_
  refine kz_iload (pc := 973) 5 (i := 5) rfl dL_law_973 ?_
  refine kz_iconst (pc := 975) (v := 2) (by decide) dL_law_975 ?_
  refine kz_iadd (pc := 976) dL_law_976 ?_
  obtain ⟨hi, h⟩ := h
  refine kz_sld (pc := 977) hX hbs hi dL_law_977 ?_
  refine kz_aload_n (pc := 978) 3 (v := .ref x3) (i := 3) rfl rfl rfl dL_law_978 ?_
  obtain ⟨mc3, ms3, hc3, hs3, h⟩ := h
  refine kz_callSX (pc := 979) (μ' := mL_common) (d' := d + 10) (mc' := mc3) (ms' := ms3) (As := [.ref x1, .int (xs (x5 + 1).toNatClampNeg), .int (xs (x5 + 2).toNatClampNeg), .ref x3]) (st := []) (c := c) (sl := sl) kmL_common kw_820 (by omega) rfl (Nat.le_of_ble_eq_true rfl) hc3 hs3 dL_law_979 (fun E M9 hx => kz_Tout rfl hc3 hs3 hx) (kz_Cmono (fun v M1 h => ?_) (fun _ _ h => h) h)
  obtain ⟨r2, rfl, h⟩ := h
  show kz_Z G (d + 11) mc ms mL_law Qr Qx 982 [(0, .retAddr x0), (1, .ref x1), (2, .ref x2), (3, .ref x3), (4, .ref x4), (5, .int x5)] [.int r2] M1 (c + mc3) (sl + ms3)
  refine kz_istore (pc := 982) (i := 6) (ls' := [(0, .retAddr x0), (1, .ref x1), (2, .ref x2), (3, .ref x3), (4, .ref x4), (5, .int x5)]) (by decide) rfl dL_law_982 ?_
  refine kz_aload_n (pc := 984) 3 (v := .ref x2) (i := 2) rfl rfl rfl dL_law_984 ?_
  refine kz_aload_n (pc := 985) 1 (v := .retAddr x0) (i := 0) rfl rfl rfl dL_law_985 ?_
  refine kz_iload (pc := 986) 6 (i := 5) rfl dL_law_986 ?_
  refine kz_iconst (pc := 988) (v := 1) (by decide) dL_law_988 ?_
  refine kz_iadd (pc := 989) dL_law_989 ?_
  obtain ⟨hi, h⟩ := h
  refine kz_sld (pc := 990) hX hbs hi dL_law_990 ?_
  refine kz_aload_n (pc := 991) 1 (v := .retAddr x0) (i := 0) rfl rfl rfl dL_law_991 ?_
  refine kz_iload (pc := 992) 6 (i := 5) rfl dL_law_992 ?_
  refine kz_iconst (pc := 994) (v := 2) (by decide) dL_law_994 ?_
  refine kz_iadd (pc := 995) dL_law_995 ?_
  obtain ⟨hi, h⟩ := h
  refine kz_sld (pc := 996) hX hbs hi dL_law_996 ?_
  obtain ⟨⟨fs13, he⟩, h⟩ := h
  refine kz_callV (pc := 997) (μ' := mX12_common) (ci := 11) (q := (RX12, TX12, 32)) (b := x2) (d' := d + 10) (mc' := 0) (ms' := 0) (As := [.int (xs (x5 + 1).toNatClampNeg), .int (xs (x5 + 2).toNatClampNeg)]) (st := []) (c := c + mc3) (sl := sl + ms3) kmX12_common kw_1764 (by omega) rfl (Nat.le_of_ble_eq_true rfl) he rfl rfl hc3 hs3 dL_law_997 (fun E M9 hx => kz_Tout rfl hc3 hs3 hx) (kz_Cmono (fun v M4 h => ?_) (fun _ _ h => h) h)
  obtain ⟨r5, rfl, h⟩ := h
  show kz_Z G (d + 11) mc ms mL_law Qr Qx 1000 [(6, .int r2), (0, .retAddr x0), (1, .ref x1), (2, .ref x2), (3, .ref x3), (4, .ref x4), (5, .int x5)] [.int r5] M4 (c + mc3) (sl + ms3)
  refine kz_istore (pc := 1000) (i := 7) (ls' := [(6, .int r2), (0, .retAddr x0), (1, .ref x1), (2, .ref x2), (3, .ref x3), (4, .ref x4), (5, .int x5)]) (by decide) rfl dL_law_1000 ?_
  refine kz_aload_n (pc := 1002) 4 (v := .ref x2) (i := 2) rfl rfl rfl dL_law_1002 ?_
  obtain ⟨⟨fs12, he⟩, h⟩ := h
  refine kz_callV (pc := 1003) (μ' := mX12_thrown) (ci := 11) (q := (RX12, TX12, 32)) (b := x2) (d' := d + 10) (mc' := 0) (ms' := 0) (As := []) (st := []) (c := c + mc3) (sl := sl + ms3) kmX12_thrown kw_1475 (by omega) rfl (Nat.le_of_ble_eq_true rfl) he rfl rfl hc3 hs3 dL_law_1003 (fun E M9 hx => kz_Tout rfl hc3 hs3 hx) (kz_Cmono (fun v M7 h => ?_) (fun _ _ h => h) h)
  obtain ⟨r8, rfl, h⟩ := h
  show kz_Z G (d + 11) mc ms mL_law Qr Qx 1006 [(7, .int r5), (6, .int r2), (0, .retAddr x0), (1, .ref x1), (2, .ref x2), (3, .ref x3), (4, .ref x4), (5, .int x5)] [.int r8] M7 (c + mc3) (sl + ms3)
  refine kz_iload (pc := 1006) 1 (i := 6) rfl dL_law_1006 ?_
  refine kz_icmp_eq (pc := 1008) (tgt := 1013) (by decide) dL_law_1008 (fun hb => ?_) (fun hb => ?_)
  · replace h := h.1 hb
    refine kz_iload (pc := 1013) 1 (i := 6) rfl dL_law_1013 ?_
    refine kz_if_ne (pc := 1015) (tgt := 1030) (by decide) dL_law_1015 (fun hb => ?_) (fun hb => ?_)
    · replace h := h.1 hb
      refine kz_goto (pc := 1030) (tgt := 2913) (by decide) dL_law_1030 ?_
      refine kz_sub [2, 3, 4, 5, 6, 7] rfl ?_
      exact h
    · replace h := h.2 hb
      refine kz_aload_n (pc := 1018) 5 (v := .ref x3) (i := 3) rfl rfl rfl dL_law_1018 ?_
      refine kz_iconst (pc := 1019) (v := 0) (by decide) dL_law_1019 ?_
      obtain ⟨n10, f11, hM, hi, h⟩ := h
      refine kz_lald (pc := 1020) hM hi dL_law_1020 ?_
      refine kz_iload (pc := 1021) 0 (i := 7) rfl dL_law_1021 ?_
      refine kz_i2l (pc := 1023) dL_law_1023 ?_
      refine kz_lcmp_eq (pc := 1024) (tgt := 1030) (by decide) dL_law_1024 dL_law_1025 (fun hb => ?_) (fun hb => ?_)
      · replace h := h.1 hb
        refine kz_goto (pc := 1030) (tgt := 2913) (by decide) dL_law_1030 ?_
        refine kz_sub [2, 3, 4, 5, 6, 7] rfl ?_
        exact h
      · replace h := h.2 hb
        refine kz_iconst (pc := 1028) (v := 0) (by decide) dL_law_1028 ?_
        exact kz_zret (pc := 1029) (ty := .boolean) rfl (by decide) hc3 hs3 dL_law_1029 h
  · replace h := h.2 hb
    refine kz_iconst (pc := 1011) (v := 0) (by decide) dL_law_1011 ?_
    exact kz_zret (pc := 1012) (ty := .boolean) rfl (by decide) hc3 hs3 dL_law_1012 h
theorem rL_law_1033 {G : kz_G} {N : Nat} {xs : Nat → Int32} {d : Nat} {mc ms : Nat} {Qr : Option Value → kz_M → Prop} {Qx : String → kz_M → Prop} {x0 : Nat} {x1 : Nat} {x2 : Nat} {x3 : Nat} {x4 : Nat} {x5 : Int32}  {M : kz_M} {c sl : Nat} (hc : c ≤ mc) (hs : sl ≤ ms) (hX : va_X (G.2.2.2 x0) N xs G.2.2.1 G.2.2.1.heap) (hbs : G.2.2.2 x0 < G.2.2.1.heap.size) (h : vp_in (x5 + 1) N ∧ (∃ mc3 ms3, c + mc3 ≤ mc ∧ sl + ms3 ≤ ms ∧ kz_C G (d + 10) mc3 ms3 mL_newWords [.ref x1, .int (xs (x5 + 1).toNatClampNeg), .ref x3] M (fun v M1 => ∃ r2 : Int32, v = some (.int r2) ∧ (vp_in (x5 + 1) N ∧ ((∃ fs13, (M1).1 x2 = some (.inl (11, fs13))) ∧ kz_C G (d + 10) 0 0 mX12_newWords [.ref x2, .int (xs (x5 + 1).toNatClampNeg)] M1 (fun v M4 => ∃ r5 : Int32, v = some (.int r5) ∧ ((∃ fs12, (M4).1 x2 = some (.inl (11, fs12))) ∧ kz_C G (d + 10) 0 0 mX12_thrown [.ref x2] M4 (fun v M7 => ∃ r8 : Int32, v = some (.int r8) ∧ ((r8 = r2 → (¬ r2 = 0 → zL_law_2913 G d mc ms Qr Qx x0 x1 x2 x3 x4 x5 M7 (c + mc3) (sl + ms3)) ∧ (r2 = 0 → ∃ n10 f11, (M7).1 x3 = some (.inr (.long, n10, .inr (.inl f11))) ∧ vp_in (0 : Int32) n10 ∧ (((f11 (0 : Int32).toNatClampNeg) = ((r5 : Int32).toInt64) → zL_law_2913 G d mc ms Qr Qx x0 x1 x2 x3 x4 x5 M7 (c + mc3) (sl + ms3)) ∧ (¬ (f11 (0 : Int32).toNatClampNeg) = ((r5 : Int32).toInt64) → Qr (some (.int 0)) M7)))) ∧ (¬ r8 = r2 → Qr (some (.int 0)) M7))) Qx)) Qx))) Qx)) : zL_law_1033 G d mc ms Qr Qx x0 x1 x2 x3 x4 x5  M c sl := by
  show kz_Z G (d + 11) mc ms mL_law Qr Qx 1033 [(0, .retAddr x0), (1, .ref x1), (2, .ref x2), (3, .ref x3), (4, .ref x4), (5, .int x5)] [] M c sl
  refine kz_aload_n (pc := 1033) 1 (v := .ref x1) (i := 1) rfl rfl rfl dL_law_1033 ?_
  refine kz_aload_n (pc := 1034) 0 (v := .retAddr x0) (i := 0) rfl rfl rfl dL_law_1034 ?_
  refine kz_iload (pc := 1035) 5 (i := 5) rfl dL_law_1035 ?_
  refine kz_iconst (pc := 1037) (v := 1) (by decide) dL_law_1037 ?_
  refine kz_iadd (pc := 1038) dL_law_1038 ?_
  obtain ⟨hi, h⟩ := h
  refine kz_sld (pc := 1039) hX hbs hi dL_law_1039 ?_
  refine kz_aload_n (pc := 1040) 3 (v := .ref x3) (i := 3) rfl rfl rfl dL_law_1040 ?_
  obtain ⟨mc3, ms3, hc3, hs3, h⟩ := h
  refine kz_callSX (pc := 1041) (μ' := mL_newWords) (d' := d + 10) (mc' := mc3) (ms' := ms3) (As := [.ref x1, .int (xs (x5 + 1).toNatClampNeg), .ref x3]) (st := []) (c := c) (sl := sl) kmL_newWords kw_828 (by omega) rfl (Nat.le_of_ble_eq_true rfl) hc3 hs3 dL_law_1041 (fun E M9 hx => kz_Tout rfl hc3 hs3 hx) (kz_Cmono (fun v M1 h => ?_) (fun _ _ h => h) h)
  obtain ⟨r2, rfl, h⟩ := h
  show kz_Z G (d + 11) mc ms mL_law Qr Qx 1044 [(0, .retAddr x0), (1, .ref x1), (2, .ref x2), (3, .ref x3), (4, .ref x4), (5, .int x5)] [.int r2] M1 (c + mc3) (sl + ms3)
  refine kz_istore (pc := 1044) (i := 6) (ls' := [(0, .retAddr x0), (1, .ref x1), (2, .ref x2), (3, .ref x3), (4, .ref x4), (5, .int x5)]) (by decide) rfl dL_law_1044 ?_
  refine kz_aload_n (pc := 1046) 3 (v := .ref x2) (i := 2) rfl rfl rfl dL_law_1046 ?_
  refine kz_aload_n (pc := 1047) 1 (v := .retAddr x0) (i := 0) rfl rfl rfl dL_law_1047 ?_
  refine kz_iload (pc := 1048) 6 (i := 5) rfl dL_law_1048 ?_
  refine kz_iconst (pc := 1050) (v := 1) (by decide) dL_law_1050 ?_
  refine kz_iadd (pc := 1051) dL_law_1051 ?_
  obtain ⟨hi, h⟩ := h
  refine kz_sld (pc := 1052) hX hbs hi dL_law_1052 ?_
  obtain ⟨⟨fs13, he⟩, h⟩ := h
  refine kz_callV (pc := 1053) (μ' := mX12_newWords) (ci := 11) (q := (RX12, TX12, 32)) (b := x2) (d' := d + 10) (mc' := 0) (ms' := 0) (As := [.int (xs (x5 + 1).toNatClampNeg)]) (st := []) (c := c + mc3) (sl := sl + ms3) kmX12_newWords kw_1768 (by omega) rfl (Nat.le_of_ble_eq_true rfl) he rfl rfl hc3 hs3 dL_law_1053 (fun E M9 hx => kz_Tout rfl hc3 hs3 hx) (kz_Cmono (fun v M4 h => ?_) (fun _ _ h => h) h)
  obtain ⟨r5, rfl, h⟩ := h
  show kz_Z G (d + 11) mc ms mL_law Qr Qx 1056 [(6, .int r2), (0, .retAddr x0), (1, .ref x1), (2, .ref x2), (3, .ref x3), (4, .ref x4), (5, .int x5)] [.int r5] M4 (c + mc3) (sl + ms3)
  refine kz_istore (pc := 1056) (i := 7) (ls' := [(6, .int r2), (0, .retAddr x0), (1, .ref x1), (2, .ref x2), (3, .ref x3), (4, .ref x4), (5, .int x5)]) (by decide) rfl dL_law_1056 ?_
  refine kz_aload_n (pc := 1058) 4 (v := .ref x2) (i := 2) rfl rfl rfl dL_law_1058 ?_
  obtain ⟨⟨fs12, he⟩, h⟩ := h
  refine kz_callV (pc := 1059) (μ' := mX12_thrown) (ci := 11) (q := (RX12, TX12, 32)) (b := x2) (d' := d + 10) (mc' := 0) (ms' := 0) (As := []) (st := []) (c := c + mc3) (sl := sl + ms3) kmX12_thrown kw_1475 (by omega) rfl (Nat.le_of_ble_eq_true rfl) he rfl rfl hc3 hs3 dL_law_1059 (fun E M9 hx => kz_Tout rfl hc3 hs3 hx) (kz_Cmono (fun v M7 h => ?_) (fun _ _ h => h) h)
  obtain ⟨r8, rfl, h⟩ := h
  show kz_Z G (d + 11) mc ms mL_law Qr Qx 1062 [(7, .int r5), (6, .int r2), (0, .retAddr x0), (1, .ref x1), (2, .ref x2), (3, .ref x3), (4, .ref x4), (5, .int x5)] [.int r8] M7 (c + mc3) (sl + ms3)
  refine kz_iload (pc := 1062) 1 (i := 6) rfl dL_law_1062 ?_
  refine kz_icmp_eq (pc := 1064) (tgt := 1069) (by decide) dL_law_1064 (fun hb => ?_) (fun hb => ?_)
  · replace h := h.1 hb
    refine kz_iload (pc := 1069) 1 (i := 6) rfl dL_law_1069 ?_
    refine kz_if_ne (pc := 1071) (tgt := 1086) (by decide) dL_law_1071 (fun hb => ?_) (fun hb => ?_)
    · replace h := h.1 hb
      refine kz_goto (pc := 1086) (tgt := 2913) (by decide) dL_law_1086 ?_
      refine kz_sub [2, 3, 4, 5, 6, 7] rfl ?_
      exact h
    · replace h := h.2 hb
      refine kz_aload_n (pc := 1074) 5 (v := .ref x3) (i := 3) rfl rfl rfl dL_law_1074 ?_
      refine kz_iconst (pc := 1075) (v := 0) (by decide) dL_law_1075 ?_
      obtain ⟨n10, f11, hM, hi, h⟩ := h
      refine kz_lald (pc := 1076) hM hi dL_law_1076 ?_
      refine kz_iload (pc := 1077) 0 (i := 7) rfl dL_law_1077 ?_
      refine kz_i2l (pc := 1079) dL_law_1079 ?_
      refine kz_lcmp_eq (pc := 1080) (tgt := 1086) (by decide) dL_law_1080 dL_law_1081 (fun hb => ?_) (fun hb => ?_)
      · replace h := h.1 hb
        refine kz_goto (pc := 1086) (tgt := 2913) (by decide) dL_law_1086 ?_
        refine kz_sub [2, 3, 4, 5, 6, 7] rfl ?_
        exact h
      · replace h := h.2 hb
        refine kz_iconst (pc := 1084) (v := 0) (by decide) dL_law_1084 ?_
        exact kz_zret (pc := 1085) (ty := .boolean) rfl (by decide) hc3 hs3 dL_law_1085 h
  · replace h := h.2 hb
    refine kz_iconst (pc := 1067) (v := 0) (by decide) dL_law_1067 ?_
    exact kz_zret (pc := 1068) (ty := .boolean) rfl (by decide) hc3 hs3 dL_law_1068 h
theorem rL_law_1089 {G : kz_G} {N : Nat} {xs : Nat → Int32} {d : Nat} {mc ms : Nat} {Qr : Option Value → kz_M → Prop} {Qx : String → kz_M → Prop} {x0 : Nat} {x1 : Nat} {x2 : Nat} {x3 : Nat} {x4 : Nat} {x5 : Int32}  {M : kz_M} {c sl : Nat} (hc : c ≤ mc) (hs : sl ≤ ms) (hX : va_X (G.2.2.2 x0) N xs G.2.2.1 G.2.2.1.heap) (hbs : G.2.2.2 x0 < G.2.2.1.heap.size) (h : vp_in (x5 + 1) N ∧ (∃ mc3 ms3, c + mc3 ≤ mc ∧ sl + ms3 ≤ ms ∧ kz_C G (d + 10) mc3 ms3 mL_widest [.ref x1, .int (xs (x5 + 1).toNatClampNeg), .ref x3] M (fun v M1 => ∃ r2 : Int32, v = some (.int r2) ∧ (vp_in (x5 + 1) N ∧ ((∃ fs13, (M1).1 x2 = some (.inl (11, fs13))) ∧ kz_C G (d + 10) 0 0 mX12_widest [.ref x2, .int (xs (x5 + 1).toNatClampNeg)] M1 (fun v M4 => ∃ r5 : Int32, v = some (.int r5) ∧ ((∃ fs12, (M4).1 x2 = some (.inl (11, fs12))) ∧ kz_C G (d + 10) 0 0 mX12_thrown [.ref x2] M4 (fun v M7 => ∃ r8 : Int32, v = some (.int r8) ∧ ((r8 = r2 → (¬ r2 = 0 → zL_law_2913 G d mc ms Qr Qx x0 x1 x2 x3 x4 x5 M7 (c + mc3) (sl + ms3)) ∧ (r2 = 0 → ∃ n10 f11, (M7).1 x3 = some (.inr (.long, n10, .inr (.inl f11))) ∧ vp_in (0 : Int32) n10 ∧ (((f11 (0 : Int32).toNatClampNeg) = ((r5 : Int32).toInt64) → zL_law_2913 G d mc ms Qr Qx x0 x1 x2 x3 x4 x5 M7 (c + mc3) (sl + ms3)) ∧ (¬ (f11 (0 : Int32).toNatClampNeg) = ((r5 : Int32).toInt64) → Qr (some (.int 0)) M7)))) ∧ (¬ r8 = r2 → Qr (some (.int 0)) M7))) Qx)) Qx))) Qx)) : zL_law_1089 G d mc ms Qr Qx x0 x1 x2 x3 x4 x5  M c sl := by
  show kz_Z G (d + 11) mc ms mL_law Qr Qx 1089 [(0, .retAddr x0), (1, .ref x1), (2, .ref x2), (3, .ref x3), (4, .ref x4), (5, .int x5)] [] M c sl
  refine kz_aload_n (pc := 1089) 1 (v := .ref x1) (i := 1) rfl rfl rfl dL_law_1089 ?_
  refine kz_aload_n (pc := 1090) 0 (v := .retAddr x0) (i := 0) rfl rfl rfl dL_law_1090 ?_
  refine kz_iload (pc := 1091) 5 (i := 5) rfl dL_law_1091 ?_
  refine kz_iconst (pc := 1093) (v := 1) (by decide) dL_law_1093 ?_
  refine kz_iadd (pc := 1094) dL_law_1094 ?_
  obtain ⟨hi, h⟩ := h
  refine kz_sld (pc := 1095) hX hbs hi dL_law_1095 ?_
  refine kz_aload_n (pc := 1096) 3 (v := .ref x3) (i := 3) rfl rfl rfl dL_law_1096 ?_
  obtain ⟨mc3, ms3, hc3, hs3, h⟩ := h
  refine kz_callSX (pc := 1097) (μ' := mL_widest) (d' := d + 10) (mc' := mc3) (ms' := ms3) (As := [.ref x1, .int (xs (x5 + 1).toNatClampNeg), .ref x3]) (st := []) (c := c) (sl := sl) kmL_widest kw_835 (by omega) rfl (Nat.le_of_ble_eq_true rfl) hc3 hs3 dL_law_1097 (fun E M9 hx => kz_Tout rfl hc3 hs3 hx) (kz_Cmono (fun v M1 h => ?_) (fun _ _ h => h) h)
  obtain ⟨r2, rfl, h⟩ := h
  show kz_Z G (d + 11) mc ms mL_law Qr Qx 1100 [(0, .retAddr x0), (1, .ref x1), (2, .ref x2), (3, .ref x3), (4, .ref x4), (5, .int x5)] [.int r2] M1 (c + mc3) (sl + ms3)
  refine kz_istore (pc := 1100) (i := 6) (ls' := [(0, .retAddr x0), (1, .ref x1), (2, .ref x2), (3, .ref x3), (4, .ref x4), (5, .int x5)]) (by decide) rfl dL_law_1100 ?_
  refine kz_aload_n (pc := 1102) 3 (v := .ref x2) (i := 2) rfl rfl rfl dL_law_1102 ?_
  refine kz_aload_n (pc := 1103) 1 (v := .retAddr x0) (i := 0) rfl rfl rfl dL_law_1103 ?_
  refine kz_iload (pc := 1104) 6 (i := 5) rfl dL_law_1104 ?_
  refine kz_iconst (pc := 1106) (v := 1) (by decide) dL_law_1106 ?_
  refine kz_iadd (pc := 1107) dL_law_1107 ?_
  obtain ⟨hi, h⟩ := h
  refine kz_sld (pc := 1108) hX hbs hi dL_law_1108 ?_
  obtain ⟨⟨fs13, he⟩, h⟩ := h
  refine kz_callV (pc := 1109) (μ' := mX12_widest) (ci := 11) (q := (RX12, TX12, 32)) (b := x2) (d' := d + 10) (mc' := 0) (ms' := 0) (As := [.int (xs (x5 + 1).toNatClampNeg)]) (st := []) (c := c + mc3) (sl := sl + ms3) kmX12_widest kw_1772 (by omega) rfl (Nat.le_of_ble_eq_true rfl) he rfl rfl hc3 hs3 dL_law_1109 (fun E M9 hx => kz_Tout rfl hc3 hs3 hx) (kz_Cmono (fun v M4 h => ?_) (fun _ _ h => h) h)
  obtain ⟨r5, rfl, h⟩ := h
  show kz_Z G (d + 11) mc ms mL_law Qr Qx 1112 [(6, .int r2), (0, .retAddr x0), (1, .ref x1), (2, .ref x2), (3, .ref x3), (4, .ref x4), (5, .int x5)] [.int r5] M4 (c + mc3) (sl + ms3)
  refine kz_istore (pc := 1112) (i := 7) (ls' := [(6, .int r2), (0, .retAddr x0), (1, .ref x1), (2, .ref x2), (3, .ref x3), (4, .ref x4), (5, .int x5)]) (by decide) rfl dL_law_1112 ?_
  refine kz_aload_n (pc := 1114) 4 (v := .ref x2) (i := 2) rfl rfl rfl dL_law_1114 ?_
  obtain ⟨⟨fs12, he⟩, h⟩ := h
  refine kz_callV (pc := 1115) (μ' := mX12_thrown) (ci := 11) (q := (RX12, TX12, 32)) (b := x2) (d' := d + 10) (mc' := 0) (ms' := 0) (As := []) (st := []) (c := c + mc3) (sl := sl + ms3) kmX12_thrown kw_1475 (by omega) rfl (Nat.le_of_ble_eq_true rfl) he rfl rfl hc3 hs3 dL_law_1115 (fun E M9 hx => kz_Tout rfl hc3 hs3 hx) (kz_Cmono (fun v M7 h => ?_) (fun _ _ h => h) h)
  obtain ⟨r8, rfl, h⟩ := h
  show kz_Z G (d + 11) mc ms mL_law Qr Qx 1118 [(7, .int r5), (6, .int r2), (0, .retAddr x0), (1, .ref x1), (2, .ref x2), (3, .ref x3), (4, .ref x4), (5, .int x5)] [.int r8] M7 (c + mc3) (sl + ms3)
  refine kz_iload (pc := 1118) 1 (i := 6) rfl dL_law_1118 ?_
  refine kz_icmp_eq (pc := 1120) (tgt := 1125) (by decide) dL_law_1120 (fun hb => ?_) (fun hb => ?_)
  · replace h := h.1 hb
    refine kz_iload (pc := 1125) 1 (i := 6) rfl dL_law_1125 ?_
    refine kz_if_ne (pc := 1127) (tgt := 1142) (by decide) dL_law_1127 (fun hb => ?_) (fun hb => ?_)
    · replace h := h.1 hb
      refine kz_goto (pc := 1142) (tgt := 2913) (by decide) dL_law_1142 ?_
      refine kz_sub [2, 3, 4, 5, 6, 7] rfl ?_
      exact h
    · replace h := h.2 hb
      refine kz_aload_n (pc := 1130) 5 (v := .ref x3) (i := 3) rfl rfl rfl dL_law_1130 ?_
      refine kz_iconst (pc := 1131) (v := 0) (by decide) dL_law_1131 ?_
      obtain ⟨n10, f11, hM, hi, h⟩ := h
      refine kz_lald (pc := 1132) hM hi dL_law_1132 ?_
      refine kz_iload (pc := 1133) 0 (i := 7) rfl dL_law_1133 ?_
      refine kz_i2l (pc := 1135) dL_law_1135 ?_
      refine kz_lcmp_eq (pc := 1136) (tgt := 1142) (by decide) dL_law_1136 dL_law_1137 (fun hb => ?_) (fun hb => ?_)
      · replace h := h.1 hb
        refine kz_goto (pc := 1142) (tgt := 2913) (by decide) dL_law_1142 ?_
        refine kz_sub [2, 3, 4, 5, 6, 7] rfl ?_
        exact h
      · replace h := h.2 hb
        refine kz_iconst (pc := 1140) (v := 0) (by decide) dL_law_1140 ?_
        exact kz_zret (pc := 1141) (ty := .boolean) rfl (by decide) hc3 hs3 dL_law_1141 h
  · replace h := h.2 hb
    refine kz_iconst (pc := 1123) (v := 0) (by decide) dL_law_1123 ?_
    exact kz_zret (pc := 1124) (ty := .boolean) rfl (by decide) hc3 hs3 dL_law_1124 h
theorem rL_law_1145 {G : kz_G} {N : Nat} {xs : Nat → Int32} {d : Nat} {mc ms : Nat} {Qr : Option Value → kz_M → Prop} {Qx : String → kz_M → Prop} {x0 : Nat} {x1 : Nat} {x2 : Nat} {x3 : Nat} {x4 : Nat} {x5 : Int32}  {M : kz_M} {c sl : Nat} (hc : c ≤ mc) (hs : sl ≤ ms) (hX : va_X (G.2.2.2 x0) N xs G.2.2.1 G.2.2.1.heap) (hbs : G.2.2.2 x0 < G.2.2.1.heap.size) (h : vp_in (x5 + 1) N ∧ (∃ mc3 ms3, c + mc3 ≤ mc ∧ sl + ms3 ≤ ms ∧ kz_C G (d + 10) mc3 ms3 mL_copiedFrom [.ref x1, .int (xs (x5 + 1).toNatClampNeg), .ref x3] M (fun v M1 => ∃ r2 : Int32, v = some (.int r2) ∧ (vp_in (x5 + 1) N ∧ ((∃ fs13, (M1).1 x2 = some (.inl (11, fs13))) ∧ kz_C G (d + 10) 0 0 mX12_copiedFrom [.ref x2, .int (xs (x5 + 1).toNatClampNeg)] M1 (fun v M4 => ∃ r5 : Int32, v = some (.int r5) ∧ ((∃ fs12, (M4).1 x2 = some (.inl (11, fs12))) ∧ kz_C G (d + 10) 0 0 mX12_thrown [.ref x2] M4 (fun v M7 => ∃ r8 : Int32, v = some (.int r8) ∧ ((r8 = r2 → (¬ r2 = 0 → zL_law_2913 G d mc ms Qr Qx x0 x1 x2 x3 x4 x5 M7 (c + mc3) (sl + ms3)) ∧ (r2 = 0 → ∃ n10 f11, (M7).1 x3 = some (.inr (.long, n10, .inr (.inl f11))) ∧ vp_in (0 : Int32) n10 ∧ (((f11 (0 : Int32).toNatClampNeg) = ((r5 : Int32).toInt64) → zL_law_2913 G d mc ms Qr Qx x0 x1 x2 x3 x4 x5 M7 (c + mc3) (sl + ms3)) ∧ (¬ (f11 (0 : Int32).toNatClampNeg) = ((r5 : Int32).toInt64) → Qr (some (.int 0)) M7)))) ∧ (¬ r8 = r2 → Qr (some (.int 0)) M7))) Qx)) Qx))) Qx)) : zL_law_1145 G d mc ms Qr Qx x0 x1 x2 x3 x4 x5  M c sl := by
  show kz_Z G (d + 11) mc ms mL_law Qr Qx 1145 [(0, .retAddr x0), (1, .ref x1), (2, .ref x2), (3, .ref x3), (4, .ref x4), (5, .int x5)] [] M c sl
  refine kz_aload_n (pc := 1145) 1 (v := .ref x1) (i := 1) rfl rfl rfl dL_law_1145 ?_
  refine kz_aload_n (pc := 1146) 0 (v := .retAddr x0) (i := 0) rfl rfl rfl dL_law_1146 ?_
  refine kz_iload (pc := 1147) 5 (i := 5) rfl dL_law_1147 ?_
  refine kz_iconst (pc := 1149) (v := 1) (by decide) dL_law_1149 ?_
  refine kz_iadd (pc := 1150) dL_law_1150 ?_
  obtain ⟨hi, h⟩ := h
  refine kz_sld (pc := 1151) hX hbs hi dL_law_1151 ?_
  refine kz_aload_n (pc := 1152) 3 (v := .ref x3) (i := 3) rfl rfl rfl dL_law_1152 ?_
  obtain ⟨mc3, ms3, hc3, hs3, h⟩ := h
  refine kz_callSX (pc := 1153) (μ' := mL_copiedFrom) (d' := d + 10) (mc' := mc3) (ms' := ms3) (As := [.ref x1, .int (xs (x5 + 1).toNatClampNeg), .ref x3]) (st := []) (c := c) (sl := sl) kmL_copiedFrom kw_847 (by omega) rfl (Nat.le_of_ble_eq_true rfl) hc3 hs3 dL_law_1153 (fun E M9 hx => kz_Tout rfl hc3 hs3 hx) (kz_Cmono (fun v M1 h => ?_) (fun _ _ h => h) h)
  obtain ⟨r2, rfl, h⟩ := h
  show kz_Z G (d + 11) mc ms mL_law Qr Qx 1156 [(0, .retAddr x0), (1, .ref x1), (2, .ref x2), (3, .ref x3), (4, .ref x4), (5, .int x5)] [.int r2] M1 (c + mc3) (sl + ms3)
  refine kz_istore (pc := 1156) (i := 6) (ls' := [(0, .retAddr x0), (1, .ref x1), (2, .ref x2), (3, .ref x3), (4, .ref x4), (5, .int x5)]) (by decide) rfl dL_law_1156 ?_
  refine kz_aload_n (pc := 1158) 3 (v := .ref x2) (i := 2) rfl rfl rfl dL_law_1158 ?_
  refine kz_aload_n (pc := 1159) 1 (v := .retAddr x0) (i := 0) rfl rfl rfl dL_law_1159 ?_
  refine kz_iload (pc := 1160) 6 (i := 5) rfl dL_law_1160 ?_
  refine kz_iconst (pc := 1162) (v := 1) (by decide) dL_law_1162 ?_
  refine kz_iadd (pc := 1163) dL_law_1163 ?_
  obtain ⟨hi, h⟩ := h
  refine kz_sld (pc := 1164) hX hbs hi dL_law_1164 ?_
  obtain ⟨⟨fs13, he⟩, h⟩ := h
  refine kz_callV (pc := 1165) (μ' := mX12_copiedFrom) (ci := 11) (q := (RX12, TX12, 32)) (b := x2) (d' := d + 10) (mc' := 0) (ms' := 0) (As := [.int (xs (x5 + 1).toNatClampNeg)]) (st := []) (c := c + mc3) (sl := sl + ms3) kmX12_copiedFrom kw_1776 (by omega) rfl (Nat.le_of_ble_eq_true rfl) he rfl rfl hc3 hs3 dL_law_1165 (fun E M9 hx => kz_Tout rfl hc3 hs3 hx) (kz_Cmono (fun v M4 h => ?_) (fun _ _ h => h) h)
  obtain ⟨r5, rfl, h⟩ := h
  show kz_Z G (d + 11) mc ms mL_law Qr Qx 1168 [(6, .int r2), (0, .retAddr x0), (1, .ref x1), (2, .ref x2), (3, .ref x3), (4, .ref x4), (5, .int x5)] [.int r5] M4 (c + mc3) (sl + ms3)
  refine kz_istore (pc := 1168) (i := 7) (ls' := [(6, .int r2), (0, .retAddr x0), (1, .ref x1), (2, .ref x2), (3, .ref x3), (4, .ref x4), (5, .int x5)]) (by decide) rfl dL_law_1168 ?_
  refine kz_aload_n (pc := 1170) 4 (v := .ref x2) (i := 2) rfl rfl rfl dL_law_1170 ?_
  obtain ⟨⟨fs12, he⟩, h⟩ := h
  refine kz_callV (pc := 1171) (μ' := mX12_thrown) (ci := 11) (q := (RX12, TX12, 32)) (b := x2) (d' := d + 10) (mc' := 0) (ms' := 0) (As := []) (st := []) (c := c + mc3) (sl := sl + ms3) kmX12_thrown kw_1475 (by omega) rfl (Nat.le_of_ble_eq_true rfl) he rfl rfl hc3 hs3 dL_law_1171 (fun E M9 hx => kz_Tout rfl hc3 hs3 hx) (kz_Cmono (fun v M7 h => ?_) (fun _ _ h => h) h)
  obtain ⟨r8, rfl, h⟩ := h
  show kz_Z G (d + 11) mc ms mL_law Qr Qx 1174 [(7, .int r5), (6, .int r2), (0, .retAddr x0), (1, .ref x1), (2, .ref x2), (3, .ref x3), (4, .ref x4), (5, .int x5)] [.int r8] M7 (c + mc3) (sl + ms3)
  refine kz_iload (pc := 1174) 1 (i := 6) rfl dL_law_1174 ?_
  refine kz_icmp_eq (pc := 1176) (tgt := 1181) (by decide) dL_law_1176 (fun hb => ?_) (fun hb => ?_)
  · replace h := h.1 hb
    refine kz_iload (pc := 1181) 1 (i := 6) rfl dL_law_1181 ?_
    refine kz_if_ne (pc := 1183) (tgt := 1198) (by decide) dL_law_1183 (fun hb => ?_) (fun hb => ?_)
    · replace h := h.1 hb
      refine kz_goto (pc := 1198) (tgt := 2913) (by decide) dL_law_1198 ?_
      refine kz_sub [2, 3, 4, 5, 6, 7] rfl ?_
      exact h
    · replace h := h.2 hb
      refine kz_aload_n (pc := 1186) 5 (v := .ref x3) (i := 3) rfl rfl rfl dL_law_1186 ?_
      refine kz_iconst (pc := 1187) (v := 0) (by decide) dL_law_1187 ?_
      obtain ⟨n10, f11, hM, hi, h⟩ := h
      refine kz_lald (pc := 1188) hM hi dL_law_1188 ?_
      refine kz_iload (pc := 1189) 0 (i := 7) rfl dL_law_1189 ?_
      refine kz_i2l (pc := 1191) dL_law_1191 ?_
      refine kz_lcmp_eq (pc := 1192) (tgt := 1198) (by decide) dL_law_1192 dL_law_1193 (fun hb => ?_) (fun hb => ?_)
      · replace h := h.1 hb
        refine kz_goto (pc := 1198) (tgt := 2913) (by decide) dL_law_1198 ?_
        refine kz_sub [2, 3, 4, 5, 6, 7] rfl ?_
        exact h
      · replace h := h.2 hb
        refine kz_iconst (pc := 1196) (v := 0) (by decide) dL_law_1196 ?_
        exact kz_zret (pc := 1197) (ty := .boolean) rfl (by decide) hc3 hs3 dL_law_1197 h
  · replace h := h.2 hb
    refine kz_iconst (pc := 1179) (v := 0) (by decide) dL_law_1179 ?_
    exact kz_zret (pc := 1180) (ty := .boolean) rfl (by decide) hc3 hs3 dL_law_1180 h
theorem rL_law_1201 {G : kz_G} {N : Nat} {xs : Nat → Int32} {d : Nat} {mc ms : Nat} {Qr : Option Value → kz_M → Prop} {Qx : String → kz_M → Prop} {x0 : Nat} {x1 : Nat} {x2 : Nat} {x3 : Nat} {x4 : Nat} {x5 : Int32}  {M : kz_M} {c sl : Nat} (hc : c ≤ mc) (hs : sl ≤ ms) (hX : va_X (G.2.2.2 x0) N xs G.2.2.1 G.2.2.1.heap) (hbs : G.2.2.2 x0 < G.2.2.1.heap.size) (h : vp_in (x5 + 1) N ∧ (vp_in (x5 + 2) N ∧ (∃ mc3 ms3, c + mc3 ≤ mc ∧ sl + ms3 ≤ ms ∧ kz_C G (d + 10) mc3 ms3 mL_entry [.ref x1, .int (xs (x5 + 1).toNatClampNeg), .int (xs (x5 + 2).toNatClampNeg), .ref x3] M (fun v M1 => ∃ r2 : Int32, v = some (.int r2) ∧ (vp_in (x5 + 1) N ∧ (vp_in (x5 + 2) N ∧ ((∃ fs13, (M1).1 x2 = some (.inl (11, fs13))) ∧ kz_C G (d + 10) 0 0 mX12_entry [.ref x2, .int (xs (x5 + 1).toNatClampNeg), .int (xs (x5 + 2).toNatClampNeg)] M1 (fun v M4 => ∃ r5 : Int32, v = some (.int r5) ∧ ((∃ fs12, (M4).1 x2 = some (.inl (11, fs12))) ∧ kz_C G (d + 10) 0 0 mX12_thrown [.ref x2] M4 (fun v M7 => ∃ r8 : Int32, v = some (.int r8) ∧ ((r8 = r2 → (¬ r2 = 0 → zL_law_2913 G d mc ms Qr Qx x0 x1 x2 x3 x4 x5 M7 (c + mc3) (sl + ms3)) ∧ (r2 = 0 → ∃ n10 f11, (M7).1 x3 = some (.inr (.long, n10, .inr (.inl f11))) ∧ vp_in (0 : Int32) n10 ∧ (((f11 (0 : Int32).toNatClampNeg) = ((r5 : Int32).toInt64) → zL_law_2913 G d mc ms Qr Qx x0 x1 x2 x3 x4 x5 M7 (c + mc3) (sl + ms3)) ∧ (¬ (f11 (0 : Int32).toNatClampNeg) = ((r5 : Int32).toInt64) → Qr (some (.int 0)) M7)))) ∧ (¬ r8 = r2 → Qr (some (.int 0)) M7))) Qx)) Qx)))) Qx))) : zL_law_1201 G d mc ms Qr Qx x0 x1 x2 x3 x4 x5  M c sl := by
  show kz_Z G (d + 11) mc ms mL_law Qr Qx 1201 [(0, .retAddr x0), (1, .ref x1), (2, .ref x2), (3, .ref x3), (4, .ref x4), (5, .int x5)] [] M c sl
  refine kz_aload_n (pc := 1201) 1 (v := .ref x1) (i := 1) rfl rfl rfl dL_law_1201 ?_
  refine kz_aload_n (pc := 1202) 0 (v := .retAddr x0) (i := 0) rfl rfl rfl dL_law_1202 ?_
  refine kz_iload (pc := 1203) 5 (i := 5) rfl dL_law_1203 ?_
  refine kz_iconst (pc := 1205) (v := 1) (by decide) dL_law_1205 ?_
  refine kz_iadd (pc := 1206) dL_law_1206 ?_
  obtain ⟨hi, h⟩ := h
  refine kz_sld (pc := 1207) hX hbs hi dL_law_1207 ?_
  refine kz_aload_n (pc := 1208) 0 (v := .retAddr x0) (i := 0) rfl rfl rfl dL_law_1208 ?_
  refine kz_iload (pc := 1209) 5 (i := 5) rfl dL_law_1209 ?_
  refine kz_iconst (pc := 1211) (v := 2) (by decide) dL_law_1211 ?_
  refine kz_iadd (pc := 1212) dL_law_1212 ?_
  obtain ⟨hi, h⟩ := h
  refine kz_sld (pc := 1213) hX hbs hi dL_law_1213 ?_
  refine kz_aload_n (pc := 1214) 3 (v := .ref x3) (i := 3) rfl rfl rfl dL_law_1214 ?_
  obtain ⟨mc3, ms3, hc3, hs3, h⟩ := h
  refine kz_callSX (pc := 1215) (μ' := mL_entry) (d' := d + 10) (mc' := mc3) (ms' := ms3) (As := [.ref x1, .int (xs (x5 + 1).toNatClampNeg), .int (xs (x5 + 2).toNatClampNeg), .ref x3]) (st := []) (c := c) (sl := sl) kmL_entry kw_859 (by omega) rfl (Nat.le_of_ble_eq_true rfl) hc3 hs3 dL_law_1215 (fun E M9 hx => kz_Tout rfl hc3 hs3 hx) (kz_Cmono (fun v M1 h => ?_) (fun _ _ h => h) h)
  obtain ⟨r2, rfl, h⟩ := h
  show kz_Z G (d + 11) mc ms mL_law Qr Qx 1218 [(0, .retAddr x0), (1, .ref x1), (2, .ref x2), (3, .ref x3), (4, .ref x4), (5, .int x5)] [.int r2] M1 (c + mc3) (sl + ms3)
  refine kz_istore (pc := 1218) (i := 6) (ls' := [(0, .retAddr x0), (1, .ref x1), (2, .ref x2), (3, .ref x3), (4, .ref x4), (5, .int x5)]) (by decide) rfl dL_law_1218 ?_
  refine kz_aload_n (pc := 1220) 3 (v := .ref x2) (i := 2) rfl rfl rfl dL_law_1220 ?_
  refine kz_aload_n (pc := 1221) 1 (v := .retAddr x0) (i := 0) rfl rfl rfl dL_law_1221 ?_
  refine kz_iload (pc := 1222) 6 (i := 5) rfl dL_law_1222 ?_
  refine kz_iconst (pc := 1224) (v := 1) (by decide) dL_law_1224 ?_
  refine kz_iadd (pc := 1225) dL_law_1225 ?_
  obtain ⟨hi, h⟩ := h
  refine kz_sld (pc := 1226) hX hbs hi dL_law_1226 ?_
  refine kz_aload_n (pc := 1227) 1 (v := .retAddr x0) (i := 0) rfl rfl rfl dL_law_1227 ?_
  refine kz_iload (pc := 1228) 6 (i := 5) rfl dL_law_1228 ?_
  refine kz_iconst (pc := 1230) (v := 2) (by decide) dL_law_1230 ?_
  refine kz_iadd (pc := 1231) dL_law_1231 ?_
  obtain ⟨hi, h⟩ := h
  refine kz_sld (pc := 1232) hX hbs hi dL_law_1232 ?_
  obtain ⟨⟨fs13, he⟩, h⟩ := h
  refine kz_callV (pc := 1233) (μ' := mX12_entry) (ci := 11) (q := (RX12, TX12, 32)) (b := x2) (d' := d + 10) (mc' := 0) (ms' := 0) (As := [.int (xs (x5 + 1).toNatClampNeg), .int (xs (x5 + 2).toNatClampNeg)]) (st := []) (c := c + mc3) (sl := sl + ms3) kmX12_entry kw_1784 (by omega) rfl (Nat.le_of_ble_eq_true rfl) he rfl rfl hc3 hs3 dL_law_1233 (fun E M9 hx => kz_Tout rfl hc3 hs3 hx) (kz_Cmono (fun v M4 h => ?_) (fun _ _ h => h) h)
  obtain ⟨r5, rfl, h⟩ := h
  show kz_Z G (d + 11) mc ms mL_law Qr Qx 1236 [(6, .int r2), (0, .retAddr x0), (1, .ref x1), (2, .ref x2), (3, .ref x3), (4, .ref x4), (5, .int x5)] [.int r5] M4 (c + mc3) (sl + ms3)
  refine kz_istore (pc := 1236) (i := 7) (ls' := [(6, .int r2), (0, .retAddr x0), (1, .ref x1), (2, .ref x2), (3, .ref x3), (4, .ref x4), (5, .int x5)]) (by decide) rfl dL_law_1236 ?_
  refine kz_aload_n (pc := 1238) 4 (v := .ref x2) (i := 2) rfl rfl rfl dL_law_1238 ?_
  obtain ⟨⟨fs12, he⟩, h⟩ := h
  refine kz_callV (pc := 1239) (μ' := mX12_thrown) (ci := 11) (q := (RX12, TX12, 32)) (b := x2) (d' := d + 10) (mc' := 0) (ms' := 0) (As := []) (st := []) (c := c + mc3) (sl := sl + ms3) kmX12_thrown kw_1475 (by omega) rfl (Nat.le_of_ble_eq_true rfl) he rfl rfl hc3 hs3 dL_law_1239 (fun E M9 hx => kz_Tout rfl hc3 hs3 hx) (kz_Cmono (fun v M7 h => ?_) (fun _ _ h => h) h)
  obtain ⟨r8, rfl, h⟩ := h
  show kz_Z G (d + 11) mc ms mL_law Qr Qx 1242 [(7, .int r5), (6, .int r2), (0, .retAddr x0), (1, .ref x1), (2, .ref x2), (3, .ref x3), (4, .ref x4), (5, .int x5)] [.int r8] M7 (c + mc3) (sl + ms3)
  refine kz_iload (pc := 1242) 1 (i := 6) rfl dL_law_1242 ?_
  refine kz_icmp_eq (pc := 1244) (tgt := 1249) (by decide) dL_law_1244 (fun hb => ?_) (fun hb => ?_)
  · replace h := h.1 hb
    refine kz_iload (pc := 1249) 1 (i := 6) rfl dL_law_1249 ?_
    refine kz_if_ne (pc := 1251) (tgt := 1266) (by decide) dL_law_1251 (fun hb => ?_) (fun hb => ?_)
    · replace h := h.1 hb
      refine kz_goto (pc := 1266) (tgt := 2913) (by decide) dL_law_1266 ?_
      refine kz_sub [2, 3, 4, 5, 6, 7] rfl ?_
      exact h
    · replace h := h.2 hb
      refine kz_aload_n (pc := 1254) 5 (v := .ref x3) (i := 3) rfl rfl rfl dL_law_1254 ?_
      refine kz_iconst (pc := 1255) (v := 0) (by decide) dL_law_1255 ?_
      obtain ⟨n10, f11, hM, hi, h⟩ := h
      refine kz_lald (pc := 1256) hM hi dL_law_1256 ?_
      refine kz_iload (pc := 1257) 0 (i := 7) rfl dL_law_1257 ?_
      refine kz_i2l (pc := 1259) dL_law_1259 ?_
      refine kz_lcmp_eq (pc := 1260) (tgt := 1266) (by decide) dL_law_1260 dL_law_1261 (fun hb => ?_) (fun hb => ?_)
      · replace h := h.1 hb
        refine kz_goto (pc := 1266) (tgt := 2913) (by decide) dL_law_1266 ?_
        refine kz_sub [2, 3, 4, 5, 6, 7] rfl ?_
        exact h
      · replace h := h.2 hb
        refine kz_iconst (pc := 1264) (v := 0) (by decide) dL_law_1264 ?_
        exact kz_zret (pc := 1265) (ty := .boolean) rfl (by decide) hc3 hs3 dL_law_1265 h
  · replace h := h.2 hb
    refine kz_iconst (pc := 1247) (v := 0) (by decide) dL_law_1247 ?_
    exact kz_zret (pc := 1248) (ty := .boolean) rfl (by decide) hc3 hs3 dL_law_1248 h
theorem rL_law_1269 {G : kz_G} {N : Nat} {xs : Nat → Int32} {d : Nat} {mc ms : Nat} {Qr : Option Value → kz_M → Prop} {Qx : String → kz_M → Prop} {x0 : Nat} {x1 : Nat} {x2 : Nat} {x3 : Nat} {x4 : Nat} {x5 : Int32}  {M : kz_M} {c sl : Nat} (hc : c ≤ mc) (hs : sl ≤ ms) (hX : va_X (G.2.2.2 x0) N xs G.2.2.1 G.2.2.1.heap) (hbs : G.2.2.2 x0 < G.2.2.1.heap.size) (h : vp_in (x5 + 1) N ∧ (vp_in (x5 + 2) N ∧ (vp_in (x5 + 3) N ∧ (∃ mc3 ms3, c + mc3 ≤ mc ∧ sl + ms3 ≤ ms ∧ kz_C G (d + 10) mc3 ms3 mL_booked [.ref x1, .int (xs (x5 + 1).toNatClampNeg), .int (xs (x5 + 2).toNatClampNeg), .int (xs (x5 + 3).toNatClampNeg), .ref x3] M (fun v M1 => ∃ r2 : Int32, v = some (.int r2) ∧ (vp_in (x5 + 1) N ∧ (vp_in (x5 + 2) N ∧ (vp_in (x5 + 3) N ∧ ((∃ fs13, (M1).1 x2 = some (.inl (11, fs13))) ∧ kz_C G (d + 10) 0 0 mX12_booked [.ref x2, .int (xs (x5 + 1).toNatClampNeg), .int (xs (x5 + 2).toNatClampNeg), .int (xs (x5 + 3).toNatClampNeg)] M1 (fun v M4 => ∃ r5 : Int32, v = some (.int r5) ∧ ((∃ fs12, (M4).1 x2 = some (.inl (11, fs12))) ∧ kz_C G (d + 10) 0 0 mX12_thrown [.ref x2] M4 (fun v M7 => ∃ r8 : Int32, v = some (.int r8) ∧ ((r8 = r2 → (¬ r2 = 0 → zL_law_2913 G d mc ms Qr Qx x0 x1 x2 x3 x4 x5 M7 (c + mc3) (sl + ms3)) ∧ (r2 = 0 → ∃ n10 f11, (M7).1 x3 = some (.inr (.long, n10, .inr (.inl f11))) ∧ vp_in (0 : Int32) n10 ∧ (((f11 (0 : Int32).toNatClampNeg) = ((r5 : Int32).toInt64) → zL_law_2913 G d mc ms Qr Qx x0 x1 x2 x3 x4 x5 M7 (c + mc3) (sl + ms3)) ∧ (¬ (f11 (0 : Int32).toNatClampNeg) = ((r5 : Int32).toInt64) → Qr (some (.int 0)) M7)))) ∧ (¬ r8 = r2 → Qr (some (.int 0)) M7))) Qx)) Qx))))) Qx)))) : zL_law_1269 G d mc ms Qr Qx x0 x1 x2 x3 x4 x5  M c sl := by
  show kz_Z G (d + 11) mc ms mL_law Qr Qx 1269 [(0, .retAddr x0), (1, .ref x1), (2, .ref x2), (3, .ref x3), (4, .ref x4), (5, .int x5)] [] M c sl
  refine kz_aload_n (pc := 1269) 1 (v := .ref x1) (i := 1) rfl rfl rfl dL_law_1269 ?_
  refine kz_aload_n (pc := 1270) 0 (v := .retAddr x0) (i := 0) rfl rfl rfl dL_law_1270 ?_
  refine kz_iload (pc := 1271) 5 (i := 5) rfl dL_law_1271 ?_
  refine kz_iconst (pc := 1273) (v := 1) (by decide) dL_law_1273 ?_
  refine kz_iadd (pc := 1274) dL_law_1274 ?_
  obtain ⟨hi, h⟩ := h
  refine kz_sld (pc := 1275) hX hbs hi dL_law_1275 ?_
  refine kz_aload_n (pc := 1276) 0 (v := .retAddr x0) (i := 0) rfl rfl rfl dL_law_1276 ?_
  refine kz_iload (pc := 1277) 5 (i := 5) rfl dL_law_1277 ?_
  refine kz_iconst (pc := 1279) (v := 2) (by decide) dL_law_1279 ?_
  refine kz_iadd (pc := 1280) dL_law_1280 ?_
  obtain ⟨hi, h⟩ := h
  refine kz_sld (pc := 1281) hX hbs hi dL_law_1281 ?_
  refine kz_aload_n (pc := 1282) 0 (v := .retAddr x0) (i := 0) rfl rfl rfl dL_law_1282 ?_
  refine kz_iload (pc := 1283) 5 (i := 5) rfl dL_law_1283 ?_
  refine kz_iconst (pc := 1285) (v := 3) (by decide) dL_law_1285 ?_
  refine kz_iadd (pc := 1286) dL_law_1286 ?_
  obtain ⟨hi, h⟩ := h
  refine kz_sld (pc := 1287) hX hbs hi dL_law_1287 ?_
  refine kz_aload_n (pc := 1288) 3 (v := .ref x3) (i := 3) rfl rfl rfl dL_law_1288 ?_
  obtain ⟨mc3, ms3, hc3, hs3, h⟩ := h
  refine kz_callSX (pc := 1289) (μ' := mL_booked) (d' := d + 10) (mc' := mc3) (ms' := ms3) (As := [.ref x1, .int (xs (x5 + 1).toNatClampNeg), .int (xs (x5 + 2).toNatClampNeg), .int (xs (x5 + 3).toNatClampNeg), .ref x3]) (st := []) (c := c) (sl := sl) kmL_booked kw_873 (by omega) rfl (Nat.le_of_ble_eq_true rfl) hc3 hs3 dL_law_1289 (fun E M9 hx => kz_Tout rfl hc3 hs3 hx) (kz_Cmono (fun v M1 h => ?_) (fun _ _ h => h) h)
  obtain ⟨r2, rfl, h⟩ := h
  show kz_Z G (d + 11) mc ms mL_law Qr Qx 1292 [(0, .retAddr x0), (1, .ref x1), (2, .ref x2), (3, .ref x3), (4, .ref x4), (5, .int x5)] [.int r2] M1 (c + mc3) (sl + ms3)
  refine kz_istore (pc := 1292) (i := 6) (ls' := [(0, .retAddr x0), (1, .ref x1), (2, .ref x2), (3, .ref x3), (4, .ref x4), (5, .int x5)]) (by decide) rfl dL_law_1292 ?_
  refine kz_aload_n (pc := 1294) 3 (v := .ref x2) (i := 2) rfl rfl rfl dL_law_1294 ?_
  refine kz_aload_n (pc := 1295) 1 (v := .retAddr x0) (i := 0) rfl rfl rfl dL_law_1295 ?_
  refine kz_iload (pc := 1296) 6 (i := 5) rfl dL_law_1296 ?_
  refine kz_iconst (pc := 1298) (v := 1) (by decide) dL_law_1298 ?_
  refine kz_iadd (pc := 1299) dL_law_1299 ?_
  obtain ⟨hi, h⟩ := h
  refine kz_sld (pc := 1300) hX hbs hi dL_law_1300 ?_
  refine kz_aload_n (pc := 1301) 1 (v := .retAddr x0) (i := 0) rfl rfl rfl dL_law_1301 ?_
  refine kz_iload (pc := 1302) 6 (i := 5) rfl dL_law_1302 ?_
  refine kz_iconst (pc := 1304) (v := 2) (by decide) dL_law_1304 ?_
  refine kz_iadd (pc := 1305) dL_law_1305 ?_
  obtain ⟨hi, h⟩ := h
  refine kz_sld (pc := 1306) hX hbs hi dL_law_1306 ?_
  refine kz_aload_n (pc := 1307) 1 (v := .retAddr x0) (i := 0) rfl rfl rfl dL_law_1307 ?_
  refine kz_iload (pc := 1308) 6 (i := 5) rfl dL_law_1308 ?_
  refine kz_iconst (pc := 1310) (v := 3) (by decide) dL_law_1310 ?_
  refine kz_iadd (pc := 1311) dL_law_1311 ?_
  obtain ⟨hi, h⟩ := h
  refine kz_sld (pc := 1312) hX hbs hi dL_law_1312 ?_
  obtain ⟨⟨fs13, he⟩, h⟩ := h
  refine kz_callV (pc := 1313) (μ' := mX12_booked) (ci := 11) (q := (RX12, TX12, 32)) (b := x2) (d' := d + 10) (mc' := 0) (ms' := 0) (As := [.int (xs (x5 + 1).toNatClampNeg), .int (xs (x5 + 2).toNatClampNeg), .int (xs (x5 + 3).toNatClampNeg)]) (st := []) (c := c + mc3) (sl := sl + ms3) kmX12_booked kw_1788 (by omega) rfl (Nat.le_of_ble_eq_true rfl) he rfl rfl hc3 hs3 dL_law_1313 (fun E M9 hx => kz_Tout rfl hc3 hs3 hx) (kz_Cmono (fun v M4 h => ?_) (fun _ _ h => h) h)
  obtain ⟨r5, rfl, h⟩ := h
  show kz_Z G (d + 11) mc ms mL_law Qr Qx 1316 [(6, .int r2), (0, .retAddr x0), (1, .ref x1), (2, .ref x2), (3, .ref x3), (4, .ref x4), (5, .int x5)] [.int r5] M4 (c + mc3) (sl + ms3)
  refine kz_istore (pc := 1316) (i := 7) (ls' := [(6, .int r2), (0, .retAddr x0), (1, .ref x1), (2, .ref x2), (3, .ref x3), (4, .ref x4), (5, .int x5)]) (by decide) rfl dL_law_1316 ?_
  refine kz_aload_n (pc := 1318) 4 (v := .ref x2) (i := 2) rfl rfl rfl dL_law_1318 ?_
  obtain ⟨⟨fs12, he⟩, h⟩ := h
  refine kz_callV (pc := 1319) (μ' := mX12_thrown) (ci := 11) (q := (RX12, TX12, 32)) (b := x2) (d' := d + 10) (mc' := 0) (ms' := 0) (As := []) (st := []) (c := c + mc3) (sl := sl + ms3) kmX12_thrown kw_1475 (by omega) rfl (Nat.le_of_ble_eq_true rfl) he rfl rfl hc3 hs3 dL_law_1319 (fun E M9 hx => kz_Tout rfl hc3 hs3 hx) (kz_Cmono (fun v M7 h => ?_) (fun _ _ h => h) h)
  obtain ⟨r8, rfl, h⟩ := h
  show kz_Z G (d + 11) mc ms mL_law Qr Qx 1322 [(7, .int r5), (6, .int r2), (0, .retAddr x0), (1, .ref x1), (2, .ref x2), (3, .ref x3), (4, .ref x4), (5, .int x5)] [.int r8] M7 (c + mc3) (sl + ms3)
  refine kz_iload (pc := 1322) 1 (i := 6) rfl dL_law_1322 ?_
  refine kz_icmp_eq (pc := 1324) (tgt := 1329) (by decide) dL_law_1324 (fun hb => ?_) (fun hb => ?_)
  · replace h := h.1 hb
    refine kz_iload (pc := 1329) 1 (i := 6) rfl dL_law_1329 ?_
    refine kz_if_ne (pc := 1331) (tgt := 1346) (by decide) dL_law_1331 (fun hb => ?_) (fun hb => ?_)
    · replace h := h.1 hb
      refine kz_goto (pc := 1346) (tgt := 2913) (by decide) dL_law_1346 ?_
      refine kz_sub [2, 3, 4, 5, 6, 7] rfl ?_
      exact h
    · replace h := h.2 hb
      refine kz_aload_n (pc := 1334) 5 (v := .ref x3) (i := 3) rfl rfl rfl dL_law_1334 ?_
      refine kz_iconst (pc := 1335) (v := 0) (by decide) dL_law_1335 ?_
      obtain ⟨n10, f11, hM, hi, h⟩ := h
      refine kz_lald (pc := 1336) hM hi dL_law_1336 ?_
      refine kz_iload (pc := 1337) 0 (i := 7) rfl dL_law_1337 ?_
      refine kz_i2l (pc := 1339) dL_law_1339 ?_
      refine kz_lcmp_eq (pc := 1340) (tgt := 1346) (by decide) dL_law_1340 dL_law_1341 (fun hb => ?_) (fun hb => ?_)
      · replace h := h.1 hb
        refine kz_goto (pc := 1346) (tgt := 2913) (by decide) dL_law_1346 ?_
        refine kz_sub [2, 3, 4, 5, 6, 7] rfl ?_
        exact h
      · replace h := h.2 hb
        refine kz_iconst (pc := 1344) (v := 0) (by decide) dL_law_1344 ?_
        exact kz_zret (pc := 1345) (ty := .boolean) rfl (by decide) hc3 hs3 dL_law_1345 h
  · replace h := h.2 hb
    refine kz_iconst (pc := 1327) (v := 0) (by decide) dL_law_1327 ?_
    exact kz_zret (pc := 1328) (ty := .boolean) rfl (by decide) hc3 hs3 dL_law_1328 h
theorem rL_law_1349 {G : kz_G} {N : Nat} {xs : Nat → Int32} {d : Nat} {mc ms : Nat} {Qr : Option Value → kz_M → Prop} {Qx : String → kz_M → Prop} {x0 : Nat} {x1 : Nat} {x2 : Nat} {x3 : Nat} {x4 : Nat} {x5 : Int32}  {M : kz_M} {c sl : Nat} (hc : c ≤ mc) (hs : sl ≤ ms) (hX : va_X (G.2.2.2 x0) N xs G.2.2.1 G.2.2.1.heap) (hbs : G.2.2.2 x0 < G.2.2.1.heap.size) (h : (∃ fs8, (M).1 x1 = some (.inl (10, fs8))) ∧ kz_C G (d + 10) 0 0 mX11_richest [.ref x1] M (fun v M1 => ∃ r2 : Int32, v = some (.int r2) ∧ ((∃ fs7, (M1).1 x2 = some (.inl (11, fs7))) ∧ kz_C G (d + 10) 0 0 mX12_richest [.ref x2] M1 (fun v M4 => ∃ r5 : Int32, v = some (.int r5) ∧ ((r2 = r5 → zL_law_2913 G d mc ms Qr Qx x0 x1 x2 x3 x4 x5 M4 c sl) ∧ (¬ r2 = r5 → Qr (some (.int 0)) M4))) Qx)) Qx) : zL_law_1349 G d mc ms Qr Qx x0 x1 x2 x3 x4 x5  M c sl := by
  show kz_Z G (d + 11) mc ms mL_law Qr Qx 1349 [(0, .retAddr x0), (1, .ref x1), (2, .ref x2), (3, .ref x3), (4, .ref x4), (5, .int x5)] [] M c sl
  refine kz_aload_n (pc := 1349) 1 (v := .ref x1) (i := 1) rfl rfl rfl dL_law_1349 ?_
  obtain ⟨⟨fs8, he⟩, h⟩ := h
  refine kz_callV (pc := 1350) (μ' := mX11_richest) (ci := 10) (q := (RX11, TX11, 10)) (b := x1) (d' := d + 10) (mc' := 0) (ms' := 0) (As := []) (st := []) (c := c) (sl := sl) kmX11_richest kw_440 (by omega) rfl (Nat.le_of_ble_eq_true rfl) he rfl rfl hc hs dL_law_1350 (fun E M9 hx => kz_Tout rfl hc hs hx) (kz_Cmono (fun v M1 h => ?_) (fun _ _ h => h) h)
  obtain ⟨r2, rfl, h⟩ := h
  show kz_Z G (d + 11) mc ms mL_law Qr Qx 1353 [(0, .retAddr x0), (1, .ref x1), (2, .ref x2), (3, .ref x3), (4, .ref x4), (5, .int x5)] [.int r2] M1 c sl
  refine kz_aload_n (pc := 1353) 2 (v := .ref x2) (i := 2) rfl rfl rfl dL_law_1353 ?_
  obtain ⟨⟨fs7, he⟩, h⟩ := h
  refine kz_callV (pc := 1354) (μ' := mX12_richest) (ci := 11) (q := (RX12, TX12, 32)) (b := x2) (d' := d + 10) (mc' := 0) (ms' := 0) (As := []) (st := [.int r2]) (c := c) (sl := sl) kmX12_richest kw_1792 (by omega) rfl (Nat.le_of_ble_eq_true rfl) he rfl rfl hc hs dL_law_1354 (fun E M9 hx => kz_Tout rfl hc hs hx) (kz_Cmono (fun v M4 h => ?_) (fun _ _ h => h) h)
  obtain ⟨r5, rfl, h⟩ := h
  show kz_Z G (d + 11) mc ms mL_law Qr Qx 1357 [(0, .retAddr x0), (1, .ref x1), (2, .ref x2), (3, .ref x3), (4, .ref x4), (5, .int x5)] [.int r5, .int r2] M4 c sl
  refine kz_icmp_eq (pc := 1357) (tgt := 2913) (by decide) dL_law_1357 (fun hb => ?_) (fun hb => ?_)
  · replace h := h.1 hb
    exact h
  · replace h := h.2 hb
    refine kz_iconst (pc := 1360) (v := 0) (by decide) dL_law_1360 ?_
    exact kz_zret (pc := 1361) (ty := .boolean) rfl (by decide) hc hs dL_law_1361 h
theorem rL_law_1362 {G : kz_G} {N : Nat} {xs : Nat → Int32} {d : Nat} {mc ms : Nat} {Qr : Option Value → kz_M → Prop} {Qx : String → kz_M → Prop} {x0 : Nat} {x1 : Nat} {x2 : Nat} {x3 : Nat} {x4 : Nat} {x5 : Int32}  {M : kz_M} {c sl : Nat} (hc : c ≤ mc) (hs : sl ≤ ms) (hX : va_X (G.2.2.2 x0) N xs G.2.2.1 G.2.2.1.heap) (hbs : G.2.2.2 x0 < G.2.2.1.heap.size) (h : vp_in (x5 + 1) N ∧ (∃ mc3 ms3, c + mc3 ≤ mc ∧ sl + ms3 ≤ ms ∧ kz_C G (d + 10) mc3 ms3 mL_rank [.ref x1, .int (xs (x5 + 1).toNatClampNeg), .ref x3] M (fun v M1 => ∃ r2 : Int32, v = some (.int r2) ∧ (vp_in (x5 + 1) N ∧ ((∃ fs13, (M1).1 x2 = some (.inl (11, fs13))) ∧ kz_C G (d + 10) 0 0 mX12_rank [.ref x2, .int (xs (x5 + 1).toNatClampNeg)] M1 (fun v M4 => ∃ r5 : Int32, v = some (.int r5) ∧ ((∃ fs12, (M4).1 x2 = some (.inl (11, fs12))) ∧ kz_C G (d + 10) 0 0 mX12_thrown [.ref x2] M4 (fun v M7 => ∃ r8 : Int32, v = some (.int r8) ∧ ((r8 = r2 → (¬ r2 = 0 → zL_law_2913 G d mc ms Qr Qx x0 x1 x2 x3 x4 x5 M7 (c + mc3) (sl + ms3)) ∧ (r2 = 0 → ∃ n10 f11, (M7).1 x3 = some (.inr (.long, n10, .inr (.inl f11))) ∧ vp_in (0 : Int32) n10 ∧ (((f11 (0 : Int32).toNatClampNeg) = ((r5 : Int32).toInt64) → zL_law_2913 G d mc ms Qr Qx x0 x1 x2 x3 x4 x5 M7 (c + mc3) (sl + ms3)) ∧ (¬ (f11 (0 : Int32).toNatClampNeg) = ((r5 : Int32).toInt64) → Qr (some (.int 0)) M7)))) ∧ (¬ r8 = r2 → Qr (some (.int 0)) M7))) Qx)) Qx))) Qx)) : zL_law_1362 G d mc ms Qr Qx x0 x1 x2 x3 x4 x5  M c sl := by
  show kz_Z G (d + 11) mc ms mL_law Qr Qx 1362 [(0, .retAddr x0), (1, .ref x1), (2, .ref x2), (3, .ref x3), (4, .ref x4), (5, .int x5)] [] M c sl
  refine kz_aload_n (pc := 1362) 1 (v := .ref x1) (i := 1) rfl rfl rfl dL_law_1362 ?_
  refine kz_aload_n (pc := 1363) 0 (v := .retAddr x0) (i := 0) rfl rfl rfl dL_law_1363 ?_
  refine kz_iload (pc := 1364) 5 (i := 5) rfl dL_law_1364 ?_
  refine kz_iconst (pc := 1366) (v := 1) (by decide) dL_law_1366 ?_
  refine kz_iadd (pc := 1367) dL_law_1367 ?_
  obtain ⟨hi, h⟩ := h
  refine kz_sld (pc := 1368) hX hbs hi dL_law_1368 ?_
  refine kz_aload_n (pc := 1369) 3 (v := .ref x3) (i := 3) rfl rfl rfl dL_law_1369 ?_
  obtain ⟨mc3, ms3, hc3, hs3, h⟩ := h
  refine kz_callSX (pc := 1370) (μ' := mL_rank) (d' := d + 10) (mc' := mc3) (ms' := ms3) (As := [.ref x1, .int (xs (x5 + 1).toNatClampNeg), .ref x3]) (st := []) (c := c) (sl := sl) kmL_rank kw_885 (by omega) rfl (Nat.le_of_ble_eq_true rfl) hc3 hs3 dL_law_1370 (fun E M9 hx => kz_Tout rfl hc3 hs3 hx) (kz_Cmono (fun v M1 h => ?_) (fun _ _ h => h) h)
  obtain ⟨r2, rfl, h⟩ := h
  show kz_Z G (d + 11) mc ms mL_law Qr Qx 1373 [(0, .retAddr x0), (1, .ref x1), (2, .ref x2), (3, .ref x3), (4, .ref x4), (5, .int x5)] [.int r2] M1 (c + mc3) (sl + ms3)
  refine kz_istore (pc := 1373) (i := 6) (ls' := [(0, .retAddr x0), (1, .ref x1), (2, .ref x2), (3, .ref x3), (4, .ref x4), (5, .int x5)]) (by decide) rfl dL_law_1373 ?_
  refine kz_aload_n (pc := 1375) 3 (v := .ref x2) (i := 2) rfl rfl rfl dL_law_1375 ?_
  refine kz_aload_n (pc := 1376) 1 (v := .retAddr x0) (i := 0) rfl rfl rfl dL_law_1376 ?_
  refine kz_iload (pc := 1377) 6 (i := 5) rfl dL_law_1377 ?_
  refine kz_iconst (pc := 1379) (v := 1) (by decide) dL_law_1379 ?_
  refine kz_iadd (pc := 1380) dL_law_1380 ?_
  obtain ⟨hi, h⟩ := h
  refine kz_sld (pc := 1381) hX hbs hi dL_law_1381 ?_
  obtain ⟨⟨fs13, he⟩, h⟩ := h
  refine kz_callV (pc := 1382) (μ' := mX12_rank) (ci := 11) (q := (RX12, TX12, 32)) (b := x2) (d' := d + 10) (mc' := 0) (ms' := 0) (As := [.int (xs (x5 + 1).toNatClampNeg)]) (st := []) (c := c + mc3) (sl := sl + ms3) kmX12_rank kw_1800 (by omega) rfl (Nat.le_of_ble_eq_true rfl) he rfl rfl hc3 hs3 dL_law_1382 (fun E M9 hx => kz_Tout rfl hc3 hs3 hx) (kz_Cmono (fun v M4 h => ?_) (fun _ _ h => h) h)
  obtain ⟨r5, rfl, h⟩ := h
  show kz_Z G (d + 11) mc ms mL_law Qr Qx 1385 [(6, .int r2), (0, .retAddr x0), (1, .ref x1), (2, .ref x2), (3, .ref x3), (4, .ref x4), (5, .int x5)] [.int r5] M4 (c + mc3) (sl + ms3)
  refine kz_istore (pc := 1385) (i := 7) (ls' := [(6, .int r2), (0, .retAddr x0), (1, .ref x1), (2, .ref x2), (3, .ref x3), (4, .ref x4), (5, .int x5)]) (by decide) rfl dL_law_1385 ?_
  refine kz_aload_n (pc := 1387) 4 (v := .ref x2) (i := 2) rfl rfl rfl dL_law_1387 ?_
  obtain ⟨⟨fs12, he⟩, h⟩ := h
  refine kz_callV (pc := 1388) (μ' := mX12_thrown) (ci := 11) (q := (RX12, TX12, 32)) (b := x2) (d' := d + 10) (mc' := 0) (ms' := 0) (As := []) (st := []) (c := c + mc3) (sl := sl + ms3) kmX12_thrown kw_1475 (by omega) rfl (Nat.le_of_ble_eq_true rfl) he rfl rfl hc3 hs3 dL_law_1388 (fun E M9 hx => kz_Tout rfl hc3 hs3 hx) (kz_Cmono (fun v M7 h => ?_) (fun _ _ h => h) h)
  obtain ⟨r8, rfl, h⟩ := h
  show kz_Z G (d + 11) mc ms mL_law Qr Qx 1391 [(7, .int r5), (6, .int r2), (0, .retAddr x0), (1, .ref x1), (2, .ref x2), (3, .ref x3), (4, .ref x4), (5, .int x5)] [.int r8] M7 (c + mc3) (sl + ms3)
  refine kz_iload (pc := 1391) 1 (i := 6) rfl dL_law_1391 ?_
  refine kz_icmp_eq (pc := 1393) (tgt := 1398) (by decide) dL_law_1393 (fun hb => ?_) (fun hb => ?_)
  · replace h := h.1 hb
    refine kz_iload (pc := 1398) 1 (i := 6) rfl dL_law_1398 ?_
    refine kz_if_ne (pc := 1400) (tgt := 1415) (by decide) dL_law_1400 (fun hb => ?_) (fun hb => ?_)
    · replace h := h.1 hb
      refine kz_goto (pc := 1415) (tgt := 2913) (by decide) dL_law_1415 ?_
      refine kz_sub [2, 3, 4, 5, 6, 7] rfl ?_
      exact h
    · replace h := h.2 hb
      refine kz_aload_n (pc := 1403) 5 (v := .ref x3) (i := 3) rfl rfl rfl dL_law_1403 ?_
      refine kz_iconst (pc := 1404) (v := 0) (by decide) dL_law_1404 ?_
      obtain ⟨n10, f11, hM, hi, h⟩ := h
      refine kz_lald (pc := 1405) hM hi dL_law_1405 ?_
      refine kz_iload (pc := 1406) 0 (i := 7) rfl dL_law_1406 ?_
      refine kz_i2l (pc := 1408) dL_law_1408 ?_
      refine kz_lcmp_eq (pc := 1409) (tgt := 1415) (by decide) dL_law_1409 dL_law_1410 (fun hb => ?_) (fun hb => ?_)
      · replace h := h.1 hb
        refine kz_goto (pc := 1415) (tgt := 2913) (by decide) dL_law_1415 ?_
        refine kz_sub [2, 3, 4, 5, 6, 7] rfl ?_
        exact h
      · replace h := h.2 hb
        refine kz_iconst (pc := 1413) (v := 0) (by decide) dL_law_1413 ?_
        exact kz_zret (pc := 1414) (ty := .boolean) rfl (by decide) hc3 hs3 dL_law_1414 h
  · replace h := h.2 hb
    refine kz_iconst (pc := 1396) (v := 0) (by decide) dL_law_1396 ?_
    exact kz_zret (pc := 1397) (ty := .boolean) rfl (by decide) hc3 hs3 dL_law_1397 h
theorem rL_law_1418 {G : kz_G} {N : Nat} {xs : Nat → Int32} {d : Nat} {mc ms : Nat} {Qr : Option Value → kz_M → Prop} {Qx : String → kz_M → Prop} {x0 : Nat} {x1 : Nat} {x2 : Nat} {x3 : Nat} {x4 : Nat} {x5 : Int32}  {M : kz_M} {c sl : Nat} (hc : c ≤ mc) (hs : sl ≤ ms) (hX : va_X (G.2.2.2 x0) N xs G.2.2.1 G.2.2.1.heap) (hbs : G.2.2.2 x0 < G.2.2.1.heap.size) (h : vp_in (x5 + 1) N ∧ (∃ mc3 ms3, c + mc3 ≤ mc ∧ sl + ms3 ≤ ms ∧ kz_C G (d + 10) mc3 ms3 mL_meanWidth [.ref x1, .int (xs (x5 + 1).toNatClampNeg), .ref x4] M (fun v M1 => ∃ r2 : Int32, v = some (.int r2) ∧ (vp_in (x5 + 1) N ∧ ((∃ fs17, (M1).1 x2 = some (.inl (11, fs17))) ∧ kz_C G (d + 10) 0 0 mX12_meanWidth [.ref x2, .int (xs (x5 + 1).toNatClampNeg)] M1 (fun v M4 => ∃ r5 : UInt64, v = some (.double r5) ∧ ((∃ fs16, (M4).1 x2 = some (.inl (11, fs16))) ∧ kz_C G (d + 10) 0 0 mX12_thrown [.ref x2] M4 (fun v M7 => ∃ r8 : Int32, v = some (.int r8) ∧ ((r8 = r2 → (¬ r2 = 0 → zL_law_2913 G d mc ms Qr Qx x0 x1 x2 x3 x4 x5 M7 (c + mc3) (sl + ms3)) ∧ (r2 = 0 → ∃ n10 f11, (M7).1 x4 = some (.inr (.double, n10, .inr (.inr (.inr (.inl f11))))) ∧ vp_in (0 : Int32) n10 ∧ (((Op.cmpValue (FP.dcmp (f11 (0 : Int32).toNatClampNeg) r5) .l) = 0 → zL_law_2913 G d mc ms Qr Qx x0 x1 x2 x3 x4 x5 M7 (c + mc3) (sl + ms3)) ∧ (¬ (Op.cmpValue (FP.dcmp (f11 (0 : Int32).toNatClampNeg) r5) .l) = 0 → ∃ n12 f13, (M7).1 x4 = some (.inr (.double, n12, .inr (.inr (.inr (.inl f13))))) ∧ vp_in (0 : Int32) n12 ∧ (∃ n14 f15, (M7).1 x4 = some (.inr (.double, n14, .inr (.inr (.inr (.inl f15))))) ∧ vp_in (0 : Int32) n14 ∧ (((Op.cmpValue (FP.dcmp (f13 (0 : Int32).toNatClampNeg) (f15 (0 : Int32).toNatClampNeg)) .l) = 0 → Qr (some (.int 0)) M7) ∧ (¬ (Op.cmpValue (FP.dcmp (f13 (0 : Int32).toNatClampNeg) (f15 (0 : Int32).toNatClampNeg)) .l) = 0 → (¬ (Op.cmpValue (FP.dcmp r5 r5) .l) = 0 → zL_law_2913 G d mc ms Qr Qx x0 x1 x2 x3 x4 x5 M7 (c + mc3) (sl + ms3)) ∧ ((Op.cmpValue (FP.dcmp r5 r5) .l) = 0 → Qr (some (.int 0)) M7)))))))) ∧ (¬ r8 = r2 → Qr (some (.int 0)) M7))) Qx)) Qx))) Qx)) : zL_law_1418 G d mc ms Qr Qx x0 x1 x2 x3 x4 x5  M c sl := by
  show kz_Z G (d + 11) mc ms mL_law Qr Qx 1418 [(0, .retAddr x0), (1, .ref x1), (2, .ref x2), (3, .ref x3), (4, .ref x4), (5, .int x5)] [] M c sl
  refine kz_aload_n (pc := 1418) 1 (v := .ref x1) (i := 1) rfl rfl rfl dL_law_1418 ?_
  refine kz_aload_n (pc := 1419) 0 (v := .retAddr x0) (i := 0) rfl rfl rfl dL_law_1419 ?_
  refine kz_iload (pc := 1420) 5 (i := 5) rfl dL_law_1420 ?_
  refine kz_iconst (pc := 1422) (v := 1) (by decide) dL_law_1422 ?_
  refine kz_iadd (pc := 1423) dL_law_1423 ?_
  obtain ⟨hi, h⟩ := h
  refine kz_sld (pc := 1424) hX hbs hi dL_law_1424 ?_
  refine kz_aload (pc := 1425) 4 (v := .ref x4) (i := 4) rfl rfl dL_law_1425 ?_
  obtain ⟨mc3, ms3, hc3, hs3, h⟩ := h
  refine kz_callSX (pc := 1427) (μ' := mL_meanWidth) (d' := d + 10) (mc' := mc3) (ms' := ms3) (As := [.ref x1, .int (xs (x5 + 1).toNatClampNeg), .ref x4]) (st := []) (c := c) (sl := sl) kmL_meanWidth kw_892 (by omega) rfl (Nat.le_of_ble_eq_true rfl) hc3 hs3 dL_law_1427 (fun E M9 hx => kz_Tout rfl hc3 hs3 hx) (kz_Cmono (fun v M1 h => ?_) (fun _ _ h => h) h)
  obtain ⟨r2, rfl, h⟩ := h
  show kz_Z G (d + 11) mc ms mL_law Qr Qx 1430 [(0, .retAddr x0), (1, .ref x1), (2, .ref x2), (3, .ref x3), (4, .ref x4), (5, .int x5)] [.int r2] M1 (c + mc3) (sl + ms3)
  refine kz_istore (pc := 1430) (i := 6) (ls' := [(0, .retAddr x0), (1, .ref x1), (2, .ref x2), (3, .ref x3), (4, .ref x4), (5, .int x5)]) (by decide) rfl dL_law_1430 ?_
  refine kz_aload_n (pc := 1432) 3 (v := .ref x2) (i := 2) rfl rfl rfl dL_law_1432 ?_
  refine kz_aload_n (pc := 1433) 1 (v := .retAddr x0) (i := 0) rfl rfl rfl dL_law_1433 ?_
  refine kz_iload (pc := 1434) 6 (i := 5) rfl dL_law_1434 ?_
  refine kz_iconst (pc := 1436) (v := 1) (by decide) dL_law_1436 ?_
  refine kz_iadd (pc := 1437) dL_law_1437 ?_
  obtain ⟨hi, h⟩ := h
  refine kz_sld (pc := 1438) hX hbs hi dL_law_1438 ?_
  obtain ⟨⟨fs17, he⟩, h⟩ := h
  refine kz_callV (pc := 1439) (μ' := mX12_meanWidth) (ci := 11) (q := (RX12, TX12, 32)) (b := x2) (d' := d + 10) (mc' := 0) (ms' := 0) (As := [.int (xs (x5 + 1).toNatClampNeg)]) (st := []) (c := c + mc3) (sl := sl + ms3) kmX12_meanWidth kw_1804 (by omega) rfl (Nat.le_of_ble_eq_true rfl) he rfl rfl hc3 hs3 dL_law_1439 (fun E M9 hx => kz_Tout rfl hc3 hs3 hx) (kz_Cmono (fun v M4 h => ?_) (fun _ _ h => h) h)
  obtain ⟨r5, rfl, h⟩ := h
  show kz_Z G (d + 11) mc ms mL_law Qr Qx 1442 [(6, .int r2), (0, .retAddr x0), (1, .ref x1), (2, .ref x2), (3, .ref x3), (4, .ref x4), (5, .int x5)] [.double r5] M4 (c + mc3) (sl + ms3)
  refine kz_dstore (pc := 1442) (i := 7) (ls' := [(6, .int r2), (0, .retAddr x0), (1, .ref x1), (2, .ref x2), (3, .ref x3), (4, .ref x4), (5, .int x5)]) (by decide) rfl dL_law_1442 ?_
  refine kz_aload_n (pc := 1444) 4 (v := .ref x2) (i := 2) rfl rfl rfl dL_law_1444 ?_
  obtain ⟨⟨fs16, he⟩, h⟩ := h
  refine kz_callV (pc := 1445) (μ' := mX12_thrown) (ci := 11) (q := (RX12, TX12, 32)) (b := x2) (d' := d + 10) (mc' := 0) (ms' := 0) (As := []) (st := []) (c := c + mc3) (sl := sl + ms3) kmX12_thrown kw_1475 (by omega) rfl (Nat.le_of_ble_eq_true rfl) he rfl rfl hc3 hs3 dL_law_1445 (fun E M9 hx => kz_Tout rfl hc3 hs3 hx) (kz_Cmono (fun v M7 h => ?_) (fun _ _ h => h) h)
  obtain ⟨r8, rfl, h⟩ := h
  show kz_Z G (d + 11) mc ms mL_law Qr Qx 1448 [(7, .double r5), (6, .int r2), (0, .retAddr x0), (1, .ref x1), (2, .ref x2), (3, .ref x3), (4, .ref x4), (5, .int x5)] [.int r8] M7 (c + mc3) (sl + ms3)
  refine kz_iload (pc := 1448) 1 (i := 6) rfl dL_law_1448 ?_
  refine kz_icmp_eq (pc := 1450) (tgt := 1455) (by decide) dL_law_1450 (fun hb => ?_) (fun hb => ?_)
  · replace h := h.1 hb
    refine kz_iload (pc := 1455) 1 (i := 6) rfl dL_law_1455 ?_
    refine kz_if_ne (pc := 1457) (tgt := 1492) (by decide) dL_law_1457 (fun hb => ?_) (fun hb => ?_)
    · replace h := h.1 hb
      refine kz_goto (pc := 1492) (tgt := 2913) (by decide) dL_law_1492 ?_
      refine kz_sub [2, 3, 4, 5, 6, 7] rfl ?_
      exact h
    · replace h := h.2 hb
      refine kz_aload (pc := 1460) 6 (v := .ref x4) (i := 4) rfl rfl dL_law_1460 ?_
      refine kz_iconst (pc := 1462) (v := 0) (by decide) dL_law_1462 ?_
      obtain ⟨n10, f11, hM, hi, h⟩ := h
      refine kz_dald (pc := 1463) hM hi dL_law_1463 ?_
      refine kz_dload (pc := 1464) 0 (i := 7) rfl dL_law_1464 ?_
      refine kz_dcmp (pc := 1466) dL_law_1466 ?_
      refine kz_if_eq (pc := 1467) (tgt := 1492) (by decide) dL_law_1467 (fun hb => ?_) (fun hb => ?_)
      · replace h := h.1 hb
        refine kz_goto (pc := 1492) (tgt := 2913) (by decide) dL_law_1492 ?_
        refine kz_sub [2, 3, 4, 5, 6, 7] rfl ?_
        exact h
      · replace h := h.2 hb
        refine kz_aload (pc := 1470) 6 (v := .ref x4) (i := 4) rfl rfl dL_law_1470 ?_
        refine kz_iconst (pc := 1472) (v := 0) (by decide) dL_law_1472 ?_
        obtain ⟨n12, f13, hM, hi, h⟩ := h
        refine kz_dald (pc := 1473) hM hi dL_law_1473 ?_
        refine kz_aload (pc := 1474) 6 (v := .ref x4) (i := 4) rfl rfl dL_law_1474 ?_
        refine kz_iconst (pc := 1476) (v := 0) (by decide) dL_law_1476 ?_
        obtain ⟨n14, f15, hM, hi, h⟩ := h
        refine kz_dald (pc := 1477) hM hi dL_law_1477 ?_
        refine kz_dcmp (pc := 1478) dL_law_1478 ?_
        refine kz_if_eq (pc := 1479) (tgt := 1490) (by decide) dL_law_1479 (fun hb => ?_) (fun hb => ?_)
        · replace h := h.1 hb
          refine kz_iconst (pc := 1490) (v := 0) (by decide) dL_law_1490 ?_
          exact kz_zret (pc := 1491) (ty := .boolean) rfl (by decide) hc3 hs3 dL_law_1491 h
        · replace h := h.2 hb
          refine kz_dload (pc := 1482) 0 (i := 7) rfl dL_law_1482 ?_
          refine kz_dload (pc := 1484) 0 (i := 7) rfl dL_law_1484 ?_
          refine kz_dcmp (pc := 1486) dL_law_1486 ?_
          refine kz_if_ne (pc := 1487) (tgt := 1492) (by decide) dL_law_1487 (fun hb => ?_) (fun hb => ?_)
          · replace h := h.1 hb
            refine kz_goto (pc := 1492) (tgt := 2913) (by decide) dL_law_1492 ?_
            refine kz_sub [2, 3, 4, 5, 6, 7] rfl ?_
            exact h
          · replace h := h.2 hb
            refine kz_iconst (pc := 1490) (v := 0) (by decide) dL_law_1490 ?_
            exact kz_zret (pc := 1491) (ty := .boolean) rfl (by decide) hc3 hs3 dL_law_1491 h
  · replace h := h.2 hb
    refine kz_iconst (pc := 1453) (v := 0) (by decide) dL_law_1453 ?_
    exact kz_zret (pc := 1454) (ty := .boolean) rfl (by decide) hc3 hs3 dL_law_1454 h
theorem rL_law_1495 {G : kz_G} {N : Nat} {xs : Nat → Int32} {d : Nat} {mc ms : Nat} {Qr : Option Value → kz_M → Prop} {Qx : String → kz_M → Prop} {x0 : Nat} {x1 : Nat} {x2 : Nat} {x3 : Nat} {x4 : Nat} {x5 : Int32}  {M : kz_M} {c sl : Nat} (hc : c ≤ mc) (hs : sl ≤ ms) (hX : va_X (G.2.2.2 x0) N xs G.2.2.1 G.2.2.1.heap) (hbs : G.2.2.2 x0 < G.2.2.1.heap.size) (h : vp_in (x5 + 1) N ∧ (∃ mc3 ms3, c + mc3 ≤ mc ∧ sl + ms3 ≤ ms ∧ kz_C G (d + 10) mc3 ms3 mL_caughtShare [.ref x1, .int (xs (x5 + 1).toNatClampNeg), .ref x4] M (fun v M1 => ∃ r2 : Int32, v = some (.int r2) ∧ (vp_in (x5 + 1) N ∧ ((∃ fs17, (M1).1 x2 = some (.inl (11, fs17))) ∧ kz_C G (d + 10) 0 0 mX12_caughtShare [.ref x2, .int (xs (x5 + 1).toNatClampNeg)] M1 (fun v M4 => ∃ r5 : UInt32, v = some (.float r5) ∧ ((∃ fs16, (M4).1 x2 = some (.inl (11, fs16))) ∧ kz_C G (d + 10) 0 0 mX12_thrown [.ref x2] M4 (fun v M7 => ∃ r8 : Int32, v = some (.int r8) ∧ ((r8 = r2 → (¬ r2 = 0 → zL_law_2913 G d mc ms Qr Qx x0 x1 x2 x3 x4 x5 M7 (c + mc3) (sl + ms3)) ∧ (r2 = 0 → ∃ n10 f11, (M7).1 x4 = some (.inr (.double, n10, .inr (.inr (.inr (.inl f11))))) ∧ vp_in (0 : Int32) n10 ∧ (vf_n64 (FP.f2d r5) ∧ (((Op.cmpValue (FP.dcmp (f11 (0 : Int32).toNatClampNeg) (FP.f2d r5)) .l) = 0 → zL_law_2913 G d mc ms Qr Qx x0 x1 x2 x3 x4 x5 M7 (c + mc3) (sl + ms3)) ∧ (¬ (Op.cmpValue (FP.dcmp (f11 (0 : Int32).toNatClampNeg) (FP.f2d r5)) .l) = 0 → ∃ n12 f13, (M7).1 x4 = some (.inr (.double, n12, .inr (.inr (.inr (.inl f13))))) ∧ vp_in (0 : Int32) n12 ∧ (∃ n14 f15, (M7).1 x4 = some (.inr (.double, n14, .inr (.inr (.inr (.inl f15))))) ∧ vp_in (0 : Int32) n14 ∧ (((Op.cmpValue (FP.dcmp (f13 (0 : Int32).toNatClampNeg) (f15 (0 : Int32).toNatClampNeg)) .l) = 0 → Qr (some (.int 0)) M7) ∧ (¬ (Op.cmpValue (FP.dcmp (f13 (0 : Int32).toNatClampNeg) (f15 (0 : Int32).toNatClampNeg)) .l) = 0 → (¬ (Op.cmpValue (FP.fcmp r5 r5) .l) = 0 → zL_law_2913 G d mc ms Qr Qx x0 x1 x2 x3 x4 x5 M7 (c + mc3) (sl + ms3)) ∧ ((Op.cmpValue (FP.fcmp r5 r5) .l) = 0 → Qr (some (.int 0)) M7))))))))) ∧ (¬ r8 = r2 → Qr (some (.int 0)) M7))) Qx)) Qx))) Qx)) : zL_law_1495 G d mc ms Qr Qx x0 x1 x2 x3 x4 x5  M c sl := by
  show kz_Z G (d + 11) mc ms mL_law Qr Qx 1495 [(0, .retAddr x0), (1, .ref x1), (2, .ref x2), (3, .ref x3), (4, .ref x4), (5, .int x5)] [] M c sl
  refine kz_aload_n (pc := 1495) 1 (v := .ref x1) (i := 1) rfl rfl rfl dL_law_1495 ?_
  refine kz_aload_n (pc := 1496) 0 (v := .retAddr x0) (i := 0) rfl rfl rfl dL_law_1496 ?_
  refine kz_iload (pc := 1497) 5 (i := 5) rfl dL_law_1497 ?_
  refine kz_iconst (pc := 1499) (v := 1) (by decide) dL_law_1499 ?_
  refine kz_iadd (pc := 1500) dL_law_1500 ?_
  obtain ⟨hi, h⟩ := h
  refine kz_sld (pc := 1501) hX hbs hi dL_law_1501 ?_
  refine kz_aload (pc := 1502) 4 (v := .ref x4) (i := 4) rfl rfl dL_law_1502 ?_
  obtain ⟨mc3, ms3, hc3, hs3, h⟩ := h
  refine kz_callSX (pc := 1504) (μ' := mL_caughtShare) (d' := d + 10) (mc' := mc3) (ms' := ms3) (As := [.ref x1, .int (xs (x5 + 1).toNatClampNeg), .ref x4]) (st := []) (c := c) (sl := sl) kmL_caughtShare kw_899 (by omega) rfl (Nat.le_of_ble_eq_true rfl) hc3 hs3 dL_law_1504 (fun E M9 hx => kz_Tout rfl hc3 hs3 hx) (kz_Cmono (fun v M1 h => ?_) (fun _ _ h => h) h)
  obtain ⟨r2, rfl, h⟩ := h
  show kz_Z G (d + 11) mc ms mL_law Qr Qx 1507 [(0, .retAddr x0), (1, .ref x1), (2, .ref x2), (3, .ref x3), (4, .ref x4), (5, .int x5)] [.int r2] M1 (c + mc3) (sl + ms3)
  refine kz_istore (pc := 1507) (i := 6) (ls' := [(0, .retAddr x0), (1, .ref x1), (2, .ref x2), (3, .ref x3), (4, .ref x4), (5, .int x5)]) (by decide) rfl dL_law_1507 ?_
  refine kz_aload_n (pc := 1509) 3 (v := .ref x2) (i := 2) rfl rfl rfl dL_law_1509 ?_
  refine kz_aload_n (pc := 1510) 1 (v := .retAddr x0) (i := 0) rfl rfl rfl dL_law_1510 ?_
  refine kz_iload (pc := 1511) 6 (i := 5) rfl dL_law_1511 ?_
  refine kz_iconst (pc := 1513) (v := 1) (by decide) dL_law_1513 ?_
  refine kz_iadd (pc := 1514) dL_law_1514 ?_
  obtain ⟨hi, h⟩ := h
  refine kz_sld (pc := 1515) hX hbs hi dL_law_1515 ?_
  obtain ⟨⟨fs17, he⟩, h⟩ := h
  refine kz_callV (pc := 1516) (μ' := mX12_caughtShare) (ci := 11) (q := (RX12, TX12, 32)) (b := x2) (d' := d + 10) (mc' := 0) (ms' := 0) (As := [.int (xs (x5 + 1).toNatClampNeg)]) (st := []) (c := c + mc3) (sl := sl + ms3) kmX12_caughtShare kw_1808 (by omega) rfl (Nat.le_of_ble_eq_true rfl) he rfl rfl hc3 hs3 dL_law_1516 (fun E M9 hx => kz_Tout rfl hc3 hs3 hx) (kz_Cmono (fun v M4 h => ?_) (fun _ _ h => h) h)
  obtain ⟨r5, rfl, h⟩ := h
  show kz_Z G (d + 11) mc ms mL_law Qr Qx 1519 [(6, .int r2), (0, .retAddr x0), (1, .ref x1), (2, .ref x2), (3, .ref x3), (4, .ref x4), (5, .int x5)] [.float r5] M4 (c + mc3) (sl + ms3)
  refine kz_fstore (pc := 1519) (i := 7) (ls' := [(6, .int r2), (0, .retAddr x0), (1, .ref x1), (2, .ref x2), (3, .ref x3), (4, .ref x4), (5, .int x5)]) (by decide) rfl dL_law_1519 ?_
  refine kz_aload_n (pc := 1521) 4 (v := .ref x2) (i := 2) rfl rfl rfl dL_law_1521 ?_
  obtain ⟨⟨fs16, he⟩, h⟩ := h
  refine kz_callV (pc := 1522) (μ' := mX12_thrown) (ci := 11) (q := (RX12, TX12, 32)) (b := x2) (d' := d + 10) (mc' := 0) (ms' := 0) (As := []) (st := []) (c := c + mc3) (sl := sl + ms3) kmX12_thrown kw_1475 (by omega) rfl (Nat.le_of_ble_eq_true rfl) he rfl rfl hc3 hs3 dL_law_1522 (fun E M9 hx => kz_Tout rfl hc3 hs3 hx) (kz_Cmono (fun v M7 h => ?_) (fun _ _ h => h) h)
  obtain ⟨r8, rfl, h⟩ := h
  show kz_Z G (d + 11) mc ms mL_law Qr Qx 1525 [(7, .float r5), (6, .int r2), (0, .retAddr x0), (1, .ref x1), (2, .ref x2), (3, .ref x3), (4, .ref x4), (5, .int x5)] [.int r8] M7 (c + mc3) (sl + ms3)
  refine kz_iload (pc := 1525) 1 (i := 6) rfl dL_law_1525 ?_
  refine kz_icmp_eq (pc := 1527) (tgt := 1532) (by decide) dL_law_1527 (fun hb => ?_) (fun hb => ?_)
  · replace h := h.1 hb
    refine kz_iload (pc := 1532) 1 (i := 6) rfl dL_law_1532 ?_
    refine kz_if_ne (pc := 1534) (tgt := 1570) (by decide) dL_law_1534 (fun hb => ?_) (fun hb => ?_)
    · replace h := h.1 hb
      refine kz_goto (pc := 1570) (tgt := 2913) (by decide) dL_law_1570 ?_
      refine kz_sub [2, 3, 4, 5, 6, 7] rfl ?_
      exact h
    · replace h := h.2 hb
      refine kz_aload (pc := 1537) 6 (v := .ref x4) (i := 4) rfl rfl dL_law_1537 ?_
      refine kz_iconst (pc := 1539) (v := 0) (by decide) dL_law_1539 ?_
      obtain ⟨n10, f11, hM, hi, h⟩ := h
      refine kz_dald (pc := 1540) hM hi dL_law_1540 ?_
      refine kz_fload (pc := 1541) 0 (i := 7) rfl dL_law_1541 ?_
      obtain ⟨hz, h⟩ := h
      refine kz_f2d (pc := 1543) hz dL_law_1543 ?_
      refine kz_dcmp (pc := 1544) dL_law_1544 ?_
      refine kz_if_eq (pc := 1545) (tgt := 1570) (by decide) dL_law_1545 (fun hb => ?_) (fun hb => ?_)
      · replace h := h.1 hb
        refine kz_goto (pc := 1570) (tgt := 2913) (by decide) dL_law_1570 ?_
        refine kz_sub [2, 3, 4, 5, 6, 7] rfl ?_
        exact h
      · replace h := h.2 hb
        refine kz_aload (pc := 1548) 6 (v := .ref x4) (i := 4) rfl rfl dL_law_1548 ?_
        refine kz_iconst (pc := 1550) (v := 0) (by decide) dL_law_1550 ?_
        obtain ⟨n12, f13, hM, hi, h⟩ := h
        refine kz_dald (pc := 1551) hM hi dL_law_1551 ?_
        refine kz_aload (pc := 1552) 6 (v := .ref x4) (i := 4) rfl rfl dL_law_1552 ?_
        refine kz_iconst (pc := 1554) (v := 0) (by decide) dL_law_1554 ?_
        obtain ⟨n14, f15, hM, hi, h⟩ := h
        refine kz_dald (pc := 1555) hM hi dL_law_1555 ?_
        refine kz_dcmp (pc := 1556) dL_law_1556 ?_
        refine kz_if_eq (pc := 1557) (tgt := 1568) (by decide) dL_law_1557 (fun hb => ?_) (fun hb => ?_)
        · replace h := h.1 hb
          refine kz_iconst (pc := 1568) (v := 0) (by decide) dL_law_1568 ?_
          exact kz_zret (pc := 1569) (ty := .boolean) rfl (by decide) hc3 hs3 dL_law_1569 h
        · replace h := h.2 hb
          refine kz_fload (pc := 1560) 0 (i := 7) rfl dL_law_1560 ?_
          refine kz_fload (pc := 1562) 0 (i := 7) rfl dL_law_1562 ?_
          refine kz_fcmp (pc := 1564) dL_law_1564 ?_
          refine kz_if_ne (pc := 1565) (tgt := 1570) (by decide) dL_law_1565 (fun hb => ?_) (fun hb => ?_)
          · replace h := h.1 hb
            refine kz_goto (pc := 1570) (tgt := 2913) (by decide) dL_law_1570 ?_
            refine kz_sub [2, 3, 4, 5, 6, 7] rfl ?_
            exact h
          · replace h := h.2 hb
            refine kz_iconst (pc := 1568) (v := 0) (by decide) dL_law_1568 ?_
            exact kz_zret (pc := 1569) (ty := .boolean) rfl (by decide) hc3 hs3 dL_law_1569 h
  · replace h := h.2 hb
    refine kz_iconst (pc := 1530) (v := 0) (by decide) dL_law_1530 ?_
    exact kz_zret (pc := 1531) (ty := .boolean) rfl (by decide) hc3 hs3 dL_law_1531 h
theorem rL_law_1573 {G : kz_G} {N : Nat} {xs : Nat → Int32} {d : Nat} {mc ms : Nat} {Qr : Option Value → kz_M → Prop} {Qx : String → kz_M → Prop} {x0 : Nat} {x1 : Nat} {x2 : Nat} {x3 : Nat} {x4 : Nat} {x5 : Int32}  {M : kz_M} {c sl : Nat} (hc : c ≤ mc) (hs : sl ≤ ms) (hX : va_X (G.2.2.2 x0) N xs G.2.2.1 G.2.2.1.heap) (hbs : G.2.2.2 x0 < G.2.2.1.heap.size) (h : vp_in (x5 + 1) N ∧ (vp_in (x5 + 2) N ∧ (∃ mc3 ms3, c + mc3 ≤ mc ∧ sl + ms3 ≤ ms ∧ kz_C G (d + 10) mc3 ms3 mL_linesIf [.ref x1, .int (xs (x5 + 1).toNatClampNeg), .int (xs (x5 + 2).toNatClampNeg), .ref x3] M (fun v M1 => ∃ r2 : Int32, v = some (.int r2) ∧ (vp_in (x5 + 1) N ∧ (vp_in (x5 + 2) N ∧ ((∃ fs13, (M1).1 x2 = some (.inl (11, fs13))) ∧ kz_C G (d + 10) 0 0 mX12_linesIf [.ref x2, .int (xs (x5 + 1).toNatClampNeg), .int (xs (x5 + 2).toNatClampNeg)] M1 (fun v M4 => ∃ r5 : Int32, v = some (.int r5) ∧ ((∃ fs12, (M4).1 x2 = some (.inl (11, fs12))) ∧ kz_C G (d + 10) 0 0 mX12_thrown [.ref x2] M4 (fun v M7 => ∃ r8 : Int32, v = some (.int r8) ∧ ((r8 = r2 → (¬ r2 = 0 → zL_law_2913 G d mc ms Qr Qx x0 x1 x2 x3 x4 x5 M7 (c + mc3) (sl + ms3)) ∧ (r2 = 0 → ∃ n10 f11, (M7).1 x3 = some (.inr (.long, n10, .inr (.inl f11))) ∧ vp_in (0 : Int32) n10 ∧ (((f11 (0 : Int32).toNatClampNeg) = ((r5 : Int32).toInt64) → zL_law_2913 G d mc ms Qr Qx x0 x1 x2 x3 x4 x5 M7 (c + mc3) (sl + ms3)) ∧ (¬ (f11 (0 : Int32).toNatClampNeg) = ((r5 : Int32).toInt64) → Qr (some (.int 0)) M7)))) ∧ (¬ r8 = r2 → Qr (some (.int 0)) M7))) Qx)) Qx)))) Qx))) : zL_law_1573 G d mc ms Qr Qx x0 x1 x2 x3 x4 x5  M c sl := by
  show kz_Z G (d + 11) mc ms mL_law Qr Qx 1573 [(0, .retAddr x0), (1, .ref x1), (2, .ref x2), (3, .ref x3), (4, .ref x4), (5, .int x5)] [] M c sl
  refine kz_aload_n (pc := 1573) 1 (v := .ref x1) (i := 1) rfl rfl rfl dL_law_1573 ?_
  refine kz_aload_n (pc := 1574) 0 (v := .retAddr x0) (i := 0) rfl rfl rfl dL_law_1574 ?_
  refine kz_iload (pc := 1575) 5 (i := 5) rfl dL_law_1575 ?_
  refine kz_iconst (pc := 1577) (v := 1) (by decide) dL_law_1577 ?_
  refine kz_iadd (pc := 1578) dL_law_1578 ?_
  obtain ⟨hi, h⟩ := h
  refine kz_sld (pc := 1579) hX hbs hi dL_law_1579 ?_
  refine kz_aload_n (pc := 1580) 0 (v := .retAddr x0) (i := 0) rfl rfl rfl dL_law_1580 ?_
  refine kz_iload (pc := 1581) 5 (i := 5) rfl dL_law_1581 ?_
  refine kz_iconst (pc := 1583) (v := 2) (by decide) dL_law_1583 ?_
  refine kz_iadd (pc := 1584) dL_law_1584 ?_
  obtain ⟨hi, h⟩ := h
  refine kz_sld (pc := 1585) hX hbs hi dL_law_1585 ?_
  refine kz_aload_n (pc := 1586) 3 (v := .ref x3) (i := 3) rfl rfl rfl dL_law_1586 ?_
  obtain ⟨mc3, ms3, hc3, hs3, h⟩ := h
  refine kz_callSX (pc := 1587) (μ' := mL_linesIf) (d' := d + 10) (mc' := mc3) (ms' := ms3) (As := [.ref x1, .int (xs (x5 + 1).toNatClampNeg), .int (xs (x5 + 2).toNatClampNeg), .ref x3]) (st := []) (c := c) (sl := sl) kmL_linesIf kw_906 (by omega) rfl (Nat.le_of_ble_eq_true rfl) hc3 hs3 dL_law_1587 (fun E M9 hx => kz_Tout rfl hc3 hs3 hx) (kz_Cmono (fun v M1 h => ?_) (fun _ _ h => h) h)
  obtain ⟨r2, rfl, h⟩ := h
  show kz_Z G (d + 11) mc ms mL_law Qr Qx 1590 [(0, .retAddr x0), (1, .ref x1), (2, .ref x2), (3, .ref x3), (4, .ref x4), (5, .int x5)] [.int r2] M1 (c + mc3) (sl + ms3)
  refine kz_istore (pc := 1590) (i := 6) (ls' := [(0, .retAddr x0), (1, .ref x1), (2, .ref x2), (3, .ref x3), (4, .ref x4), (5, .int x5)]) (by decide) rfl dL_law_1590 ?_
  refine kz_aload_n (pc := 1592) 3 (v := .ref x2) (i := 2) rfl rfl rfl dL_law_1592 ?_
  refine kz_aload_n (pc := 1593) 1 (v := .retAddr x0) (i := 0) rfl rfl rfl dL_law_1593 ?_
  refine kz_iload (pc := 1594) 6 (i := 5) rfl dL_law_1594 ?_
  refine kz_iconst (pc := 1596) (v := 1) (by decide) dL_law_1596 ?_
  refine kz_iadd (pc := 1597) dL_law_1597 ?_
  obtain ⟨hi, h⟩ := h
  refine kz_sld (pc := 1598) hX hbs hi dL_law_1598 ?_
  refine kz_aload_n (pc := 1599) 1 (v := .retAddr x0) (i := 0) rfl rfl rfl dL_law_1599 ?_
  refine kz_iload (pc := 1600) 6 (i := 5) rfl dL_law_1600 ?_
  refine kz_iconst (pc := 1602) (v := 2) (by decide) dL_law_1602 ?_
  refine kz_iadd (pc := 1603) dL_law_1603 ?_
  obtain ⟨hi, h⟩ := h
  refine kz_sld (pc := 1604) hX hbs hi dL_law_1604 ?_
  obtain ⟨⟨fs13, he⟩, h⟩ := h
  refine kz_callV (pc := 1605) (μ' := mX12_linesIf) (ci := 11) (q := (RX12, TX12, 32)) (b := x2) (d' := d + 10) (mc' := 0) (ms' := 0) (As := [.int (xs (x5 + 1).toNatClampNeg), .int (xs (x5 + 2).toNatClampNeg)]) (st := []) (c := c + mc3) (sl := sl + ms3) kmX12_linesIf kw_1812 (by omega) rfl (Nat.le_of_ble_eq_true rfl) he rfl rfl hc3 hs3 dL_law_1605 (fun E M9 hx => kz_Tout rfl hc3 hs3 hx) (kz_Cmono (fun v M4 h => ?_) (fun _ _ h => h) h)
  obtain ⟨r5, rfl, h⟩ := h
  show kz_Z G (d + 11) mc ms mL_law Qr Qx 1608 [(6, .int r2), (0, .retAddr x0), (1, .ref x1), (2, .ref x2), (3, .ref x3), (4, .ref x4), (5, .int x5)] [.int r5] M4 (c + mc3) (sl + ms3)
  refine kz_istore (pc := 1608) (i := 7) (ls' := [(6, .int r2), (0, .retAddr x0), (1, .ref x1), (2, .ref x2), (3, .ref x3), (4, .ref x4), (5, .int x5)]) (by decide) rfl dL_law_1608 ?_
  refine kz_aload_n (pc := 1610) 4 (v := .ref x2) (i := 2) rfl rfl rfl dL_law_1610 ?_
  obtain ⟨⟨fs12, he⟩, h⟩ := h
  refine kz_callV (pc := 1611) (μ' := mX12_thrown) (ci := 11) (q := (RX12, TX12, 32)) (b := x2) (d' := d + 10) (mc' := 0) (ms' := 0) (As := []) (st := []) (c := c + mc3) (sl := sl + ms3) kmX12_thrown kw_1475 (by omega) rfl (Nat.le_of_ble_eq_true rfl) he rfl rfl hc3 hs3 dL_law_1611 (fun E M9 hx => kz_Tout rfl hc3 hs3 hx) (kz_Cmono (fun v M7 h => ?_) (fun _ _ h => h) h)
  obtain ⟨r8, rfl, h⟩ := h
  show kz_Z G (d + 11) mc ms mL_law Qr Qx 1614 [(7, .int r5), (6, .int r2), (0, .retAddr x0), (1, .ref x1), (2, .ref x2), (3, .ref x3), (4, .ref x4), (5, .int x5)] [.int r8] M7 (c + mc3) (sl + ms3)
  refine kz_iload (pc := 1614) 1 (i := 6) rfl dL_law_1614 ?_
  refine kz_icmp_eq (pc := 1616) (tgt := 1621) (by decide) dL_law_1616 (fun hb => ?_) (fun hb => ?_)
  · replace h := h.1 hb
    refine kz_iload (pc := 1621) 1 (i := 6) rfl dL_law_1621 ?_
    refine kz_if_ne (pc := 1623) (tgt := 1638) (by decide) dL_law_1623 (fun hb => ?_) (fun hb => ?_)
    · replace h := h.1 hb
      refine kz_goto (pc := 1638) (tgt := 2913) (by decide) dL_law_1638 ?_
      refine kz_sub [2, 3, 4, 5, 6, 7] rfl ?_
      exact h
    · replace h := h.2 hb
      refine kz_aload_n (pc := 1626) 5 (v := .ref x3) (i := 3) rfl rfl rfl dL_law_1626 ?_
      refine kz_iconst (pc := 1627) (v := 0) (by decide) dL_law_1627 ?_
      obtain ⟨n10, f11, hM, hi, h⟩ := h
      refine kz_lald (pc := 1628) hM hi dL_law_1628 ?_
      refine kz_iload (pc := 1629) 0 (i := 7) rfl dL_law_1629 ?_
      refine kz_i2l (pc := 1631) dL_law_1631 ?_
      refine kz_lcmp_eq (pc := 1632) (tgt := 1638) (by decide) dL_law_1632 dL_law_1633 (fun hb => ?_) (fun hb => ?_)
      · replace h := h.1 hb
        refine kz_goto (pc := 1638) (tgt := 2913) (by decide) dL_law_1638 ?_
        refine kz_sub [2, 3, 4, 5, 6, 7] rfl ?_
        exact h
      · replace h := h.2 hb
        refine kz_iconst (pc := 1636) (v := 0) (by decide) dL_law_1636 ?_
        exact kz_zret (pc := 1637) (ty := .boolean) rfl (by decide) hc3 hs3 dL_law_1637 h
  · replace h := h.2 hb
    refine kz_iconst (pc := 1619) (v := 0) (by decide) dL_law_1619 ?_
    exact kz_zret (pc := 1620) (ty := .boolean) rfl (by decide) hc3 hs3 dL_law_1620 h
theorem rL_law_1641 {G : kz_G} {N : Nat} {xs : Nat → Int32} {d : Nat} {mc ms : Nat} {Qr : Option Value → kz_M → Prop} {Qx : String → kz_M → Prop} {x0 : Nat} {x1 : Nat} {x2 : Nat} {x3 : Nat} {x4 : Nat} {x5 : Int32}  {M : kz_M} {c sl : Nat} (hc : c ≤ mc) (hs : sl ≤ ms) (hX : va_X (G.2.2.2 x0) N xs G.2.2.1 G.2.2.1.heap) (hbs : G.2.2.2 x0 < G.2.2.1.heap.size) (h : vp_in (x5 + 1) N ∧ (vp_in (x5 + 2) N ∧ (∃ mc3 ms3, c + mc3 ≤ mc ∧ sl + ms3 ≤ ms ∧ kz_C G (d + 10) mc3 ms3 mL_payIf [.ref x1, .int (xs (x5 + 1).toNatClampNeg), .int (xs (x5 + 2).toNatClampNeg), .ref x3] M (fun v M1 => ∃ r2 : Int32, v = some (.int r2) ∧ (vp_in (x5 + 1) N ∧ (vp_in (x5 + 2) N ∧ ((∃ fs13, (M1).1 x2 = some (.inl (11, fs13))) ∧ kz_C G (d + 10) 0 0 mX12_payIf [.ref x2, .int (xs (x5 + 1).toNatClampNeg), .int (xs (x5 + 2).toNatClampNeg)] M1 (fun v M4 => ∃ r5 : Int32, v = some (.int r5) ∧ ((∃ fs12, (M4).1 x2 = some (.inl (11, fs12))) ∧ kz_C G (d + 10) 0 0 mX12_thrown [.ref x2] M4 (fun v M7 => ∃ r8 : Int32, v = some (.int r8) ∧ ((r8 = r2 → (¬ r2 = 0 → zL_law_2913 G d mc ms Qr Qx x0 x1 x2 x3 x4 x5 M7 (c + mc3) (sl + ms3)) ∧ (r2 = 0 → ∃ n10 f11, (M7).1 x3 = some (.inr (.long, n10, .inr (.inl f11))) ∧ vp_in (0 : Int32) n10 ∧ (((f11 (0 : Int32).toNatClampNeg) = ((r5 : Int32).toInt64) → zL_law_2913 G d mc ms Qr Qx x0 x1 x2 x3 x4 x5 M7 (c + mc3) (sl + ms3)) ∧ (¬ (f11 (0 : Int32).toNatClampNeg) = ((r5 : Int32).toInt64) → Qr (some (.int 0)) M7)))) ∧ (¬ r8 = r2 → Qr (some (.int 0)) M7))) Qx)) Qx)))) Qx))) : zL_law_1641 G d mc ms Qr Qx x0 x1 x2 x3 x4 x5  M c sl := by
  show kz_Z G (d + 11) mc ms mL_law Qr Qx 1641 [(0, .retAddr x0), (1, .ref x1), (2, .ref x2), (3, .ref x3), (4, .ref x4), (5, .int x5)] [] M c sl
  refine kz_aload_n (pc := 1641) 1 (v := .ref x1) (i := 1) rfl rfl rfl dL_law_1641 ?_
  refine kz_aload_n (pc := 1642) 0 (v := .retAddr x0) (i := 0) rfl rfl rfl dL_law_1642 ?_
  refine kz_iload (pc := 1643) 5 (i := 5) rfl dL_law_1643 ?_
  refine kz_iconst (pc := 1645) (v := 1) (by decide) dL_law_1645 ?_
  refine kz_iadd (pc := 1646) dL_law_1646 ?_
  obtain ⟨hi, h⟩ := h
  refine kz_sld (pc := 1647) hX hbs hi dL_law_1647 ?_
  refine kz_aload_n (pc := 1648) 0 (v := .retAddr x0) (i := 0) rfl rfl rfl dL_law_1648 ?_
  refine kz_iload (pc := 1649) 5 (i := 5) rfl dL_law_1649 ?_
  refine kz_iconst (pc := 1651) (v := 2) (by decide) dL_law_1651 ?_
  refine kz_iadd (pc := 1652) dL_law_1652 ?_
  obtain ⟨hi, h⟩ := h
  refine kz_sld (pc := 1653) hX hbs hi dL_law_1653 ?_
  refine kz_aload_n (pc := 1654) 3 (v := .ref x3) (i := 3) rfl rfl rfl dL_law_1654 ?_
  obtain ⟨mc3, ms3, hc3, hs3, h⟩ := h
  refine kz_callSX (pc := 1655) (μ' := mL_payIf) (d' := d + 10) (mc' := mc3) (ms' := ms3) (As := [.ref x1, .int (xs (x5 + 1).toNatClampNeg), .int (xs (x5 + 2).toNatClampNeg), .ref x3]) (st := []) (c := c) (sl := sl) kmL_payIf kw_936 (by omega) rfl (Nat.le_of_ble_eq_true rfl) hc3 hs3 dL_law_1655 (fun E M9 hx => kz_Tout rfl hc3 hs3 hx) (kz_Cmono (fun v M1 h => ?_) (fun _ _ h => h) h)
  obtain ⟨r2, rfl, h⟩ := h
  show kz_Z G (d + 11) mc ms mL_law Qr Qx 1658 [(0, .retAddr x0), (1, .ref x1), (2, .ref x2), (3, .ref x3), (4, .ref x4), (5, .int x5)] [.int r2] M1 (c + mc3) (sl + ms3)
  refine kz_istore (pc := 1658) (i := 6) (ls' := [(0, .retAddr x0), (1, .ref x1), (2, .ref x2), (3, .ref x3), (4, .ref x4), (5, .int x5)]) (by decide) rfl dL_law_1658 ?_
  refine kz_aload_n (pc := 1660) 3 (v := .ref x2) (i := 2) rfl rfl rfl dL_law_1660 ?_
  refine kz_aload_n (pc := 1661) 1 (v := .retAddr x0) (i := 0) rfl rfl rfl dL_law_1661 ?_
  refine kz_iload (pc := 1662) 6 (i := 5) rfl dL_law_1662 ?_
  refine kz_iconst (pc := 1664) (v := 1) (by decide) dL_law_1664 ?_
  refine kz_iadd (pc := 1665) dL_law_1665 ?_
  obtain ⟨hi, h⟩ := h
  refine kz_sld (pc := 1666) hX hbs hi dL_law_1666 ?_
  refine kz_aload_n (pc := 1667) 1 (v := .retAddr x0) (i := 0) rfl rfl rfl dL_law_1667 ?_
  refine kz_iload (pc := 1668) 6 (i := 5) rfl dL_law_1668 ?_
  refine kz_iconst (pc := 1670) (v := 2) (by decide) dL_law_1670 ?_
  refine kz_iadd (pc := 1671) dL_law_1671 ?_
  obtain ⟨hi, h⟩ := h
  refine kz_sld (pc := 1672) hX hbs hi dL_law_1672 ?_
  obtain ⟨⟨fs13, he⟩, h⟩ := h
  refine kz_callV (pc := 1673) (μ' := mX12_payIf) (ci := 11) (q := (RX12, TX12, 32)) (b := x2) (d' := d + 10) (mc' := 0) (ms' := 0) (As := [.int (xs (x5 + 1).toNatClampNeg), .int (xs (x5 + 2).toNatClampNeg)]) (st := []) (c := c + mc3) (sl := sl + ms3) kmX12_payIf kw_1835 (by omega) rfl (Nat.le_of_ble_eq_true rfl) he rfl rfl hc3 hs3 dL_law_1673 (fun E M9 hx => kz_Tout rfl hc3 hs3 hx) (kz_Cmono (fun v M4 h => ?_) (fun _ _ h => h) h)
  obtain ⟨r5, rfl, h⟩ := h
  show kz_Z G (d + 11) mc ms mL_law Qr Qx 1676 [(6, .int r2), (0, .retAddr x0), (1, .ref x1), (2, .ref x2), (3, .ref x3), (4, .ref x4), (5, .int x5)] [.int r5] M4 (c + mc3) (sl + ms3)
  refine kz_istore (pc := 1676) (i := 7) (ls' := [(6, .int r2), (0, .retAddr x0), (1, .ref x1), (2, .ref x2), (3, .ref x3), (4, .ref x4), (5, .int x5)]) (by decide) rfl dL_law_1676 ?_
  refine kz_aload_n (pc := 1678) 4 (v := .ref x2) (i := 2) rfl rfl rfl dL_law_1678 ?_
  obtain ⟨⟨fs12, he⟩, h⟩ := h
  refine kz_callV (pc := 1679) (μ' := mX12_thrown) (ci := 11) (q := (RX12, TX12, 32)) (b := x2) (d' := d + 10) (mc' := 0) (ms' := 0) (As := []) (st := []) (c := c + mc3) (sl := sl + ms3) kmX12_thrown kw_1475 (by omega) rfl (Nat.le_of_ble_eq_true rfl) he rfl rfl hc3 hs3 dL_law_1679 (fun E M9 hx => kz_Tout rfl hc3 hs3 hx) (kz_Cmono (fun v M7 h => ?_) (fun _ _ h => h) h)
  obtain ⟨r8, rfl, h⟩ := h
  show kz_Z G (d + 11) mc ms mL_law Qr Qx 1682 [(7, .int r5), (6, .int r2), (0, .retAddr x0), (1, .ref x1), (2, .ref x2), (3, .ref x3), (4, .ref x4), (5, .int x5)] [.int r8] M7 (c + mc3) (sl + ms3)
  refine kz_iload (pc := 1682) 1 (i := 6) rfl dL_law_1682 ?_
  refine kz_icmp_eq (pc := 1684) (tgt := 1689) (by decide) dL_law_1684 (fun hb => ?_) (fun hb => ?_)
  · replace h := h.1 hb
    refine kz_iload (pc := 1689) 1 (i := 6) rfl dL_law_1689 ?_
    refine kz_if_ne (pc := 1691) (tgt := 1706) (by decide) dL_law_1691 (fun hb => ?_) (fun hb => ?_)
    · replace h := h.1 hb
      refine kz_goto (pc := 1706) (tgt := 2913) (by decide) dL_law_1706 ?_
      refine kz_sub [2, 3, 4, 5, 6, 7] rfl ?_
      exact h
    · replace h := h.2 hb
      refine kz_aload_n (pc := 1694) 5 (v := .ref x3) (i := 3) rfl rfl rfl dL_law_1694 ?_
      refine kz_iconst (pc := 1695) (v := 0) (by decide) dL_law_1695 ?_
      obtain ⟨n10, f11, hM, hi, h⟩ := h
      refine kz_lald (pc := 1696) hM hi dL_law_1696 ?_
      refine kz_iload (pc := 1697) 0 (i := 7) rfl dL_law_1697 ?_
      refine kz_i2l (pc := 1699) dL_law_1699 ?_
      refine kz_lcmp_eq (pc := 1700) (tgt := 1706) (by decide) dL_law_1700 dL_law_1701 (fun hb => ?_) (fun hb => ?_)
      · replace h := h.1 hb
        refine kz_goto (pc := 1706) (tgt := 2913) (by decide) dL_law_1706 ?_
        refine kz_sub [2, 3, 4, 5, 6, 7] rfl ?_
        exact h
      · replace h := h.2 hb
        refine kz_iconst (pc := 1704) (v := 0) (by decide) dL_law_1704 ?_
        exact kz_zret (pc := 1705) (ty := .boolean) rfl (by decide) hc3 hs3 dL_law_1705 h
  · replace h := h.2 hb
    refine kz_iconst (pc := 1687) (v := 0) (by decide) dL_law_1687 ?_
    exact kz_zret (pc := 1688) (ty := .boolean) rfl (by decide) hc3 hs3 dL_law_1688 h
theorem rL_law_1709 {G : kz_G} {N : Nat} {xs : Nat → Int32} {d : Nat} {mc ms : Nat} {Qr : Option Value → kz_M → Prop} {Qx : String → kz_M → Prop} {x0 : Nat} {x1 : Nat} {x2 : Nat} {x3 : Nat} {x4 : Nat} {x5 : Int32}  {M : kz_M} {c sl : Nat} (hc : c ≤ mc) (hs : sl ≤ ms) (hX : va_X (G.2.2.2 x0) N xs G.2.2.1 G.2.2.1.heap) (hbs : G.2.2.2 x0 < G.2.2.1.heap.size) (h : vp_in (x5 + 1) N ∧ (∃ mc3 ms3, c + mc3 ≤ mc ∧ sl + ms3 ≤ ms ∧ kz_C G (d + 10) mc3 ms3 mL_bestMeasure [.ref x1, .int (xs (x5 + 1).toNatClampNeg), .ref x3] M (fun v M1 => ∃ r2 : Int32, v = some (.int r2) ∧ (vp_in (x5 + 1) N ∧ ((∃ fs13, (M1).1 x2 = some (.inl (11, fs13))) ∧ kz_C G (d + 10) 0 0 mX12_bestMeasure [.ref x2, .int (xs (x5 + 1).toNatClampNeg)] M1 (fun v M4 => ∃ r5 : Int32, v = some (.int r5) ∧ ((∃ fs12, (M4).1 x2 = some (.inl (11, fs12))) ∧ kz_C G (d + 10) 0 0 mX12_thrown [.ref x2] M4 (fun v M7 => ∃ r8 : Int32, v = some (.int r8) ∧ ((r8 = r2 → (¬ r2 = 0 → zL_law_2913 G d mc ms Qr Qx x0 x1 x2 x3 x4 x5 M7 (c + mc3) (sl + ms3)) ∧ (r2 = 0 → ∃ n10 f11, (M7).1 x3 = some (.inr (.long, n10, .inr (.inl f11))) ∧ vp_in (0 : Int32) n10 ∧ (((f11 (0 : Int32).toNatClampNeg) = ((r5 : Int32).toInt64) → zL_law_2913 G d mc ms Qr Qx x0 x1 x2 x3 x4 x5 M7 (c + mc3) (sl + ms3)) ∧ (¬ (f11 (0 : Int32).toNatClampNeg) = ((r5 : Int32).toInt64) → Qr (some (.int 0)) M7)))) ∧ (¬ r8 = r2 → Qr (some (.int 0)) M7))) Qx)) Qx))) Qx)) : zL_law_1709 G d mc ms Qr Qx x0 x1 x2 x3 x4 x5  M c sl := by
  show kz_Z G (d + 11) mc ms mL_law Qr Qx 1709 [(0, .retAddr x0), (1, .ref x1), (2, .ref x2), (3, .ref x3), (4, .ref x4), (5, .int x5)] [] M c sl
  refine kz_aload_n (pc := 1709) 1 (v := .ref x1) (i := 1) rfl rfl rfl dL_law_1709 ?_
  refine kz_aload_n (pc := 1710) 0 (v := .retAddr x0) (i := 0) rfl rfl rfl dL_law_1710 ?_
  refine kz_iload (pc := 1711) 5 (i := 5) rfl dL_law_1711 ?_
  refine kz_iconst (pc := 1713) (v := 1) (by decide) dL_law_1713 ?_
  refine kz_iadd (pc := 1714) dL_law_1714 ?_
  obtain ⟨hi, h⟩ := h
  refine kz_sld (pc := 1715) hX hbs hi dL_law_1715 ?_
  refine kz_aload_n (pc := 1716) 3 (v := .ref x3) (i := 3) rfl rfl rfl dL_law_1716 ?_
  obtain ⟨mc3, ms3, hc3, hs3, h⟩ := h
  refine kz_callSX (pc := 1717) (μ' := mL_bestMeasure) (d' := d + 10) (mc' := mc3) (ms' := ms3) (As := [.ref x1, .int (xs (x5 + 1).toNatClampNeg), .ref x3]) (st := []) (c := c) (sl := sl) kmL_bestMeasure kw_958 (by omega) rfl (Nat.le_of_ble_eq_true rfl) hc3 hs3 dL_law_1717 (fun E M9 hx => kz_Tout rfl hc3 hs3 hx) (kz_Cmono (fun v M1 h => ?_) (fun _ _ h => h) h)
  obtain ⟨r2, rfl, h⟩ := h
  show kz_Z G (d + 11) mc ms mL_law Qr Qx 1720 [(0, .retAddr x0), (1, .ref x1), (2, .ref x2), (3, .ref x3), (4, .ref x4), (5, .int x5)] [.int r2] M1 (c + mc3) (sl + ms3)
  refine kz_istore (pc := 1720) (i := 6) (ls' := [(0, .retAddr x0), (1, .ref x1), (2, .ref x2), (3, .ref x3), (4, .ref x4), (5, .int x5)]) (by decide) rfl dL_law_1720 ?_
  refine kz_aload_n (pc := 1722) 3 (v := .ref x2) (i := 2) rfl rfl rfl dL_law_1722 ?_
  refine kz_aload_n (pc := 1723) 1 (v := .retAddr x0) (i := 0) rfl rfl rfl dL_law_1723 ?_
  refine kz_iload (pc := 1724) 6 (i := 5) rfl dL_law_1724 ?_
  refine kz_iconst (pc := 1726) (v := 1) (by decide) dL_law_1726 ?_
  refine kz_iadd (pc := 1727) dL_law_1727 ?_
  obtain ⟨hi, h⟩ := h
  refine kz_sld (pc := 1728) hX hbs hi dL_law_1728 ?_
  obtain ⟨⟨fs13, he⟩, h⟩ := h
  refine kz_callV (pc := 1729) (μ' := mX12_bestMeasure) (ci := 11) (q := (RX12, TX12, 32)) (b := x2) (d' := d + 10) (mc' := 0) (ms' := 0) (As := [.int (xs (x5 + 1).toNatClampNeg)]) (st := []) (c := c + mc3) (sl := sl + ms3) kmX12_bestMeasure kw_1843 (by omega) rfl (Nat.le_of_ble_eq_true rfl) he rfl rfl hc3 hs3 dL_law_1729 (fun E M9 hx => kz_Tout rfl hc3 hs3 hx) (kz_Cmono (fun v M4 h => ?_) (fun _ _ h => h) h)
  obtain ⟨r5, rfl, h⟩ := h
  show kz_Z G (d + 11) mc ms mL_law Qr Qx 1732 [(6, .int r2), (0, .retAddr x0), (1, .ref x1), (2, .ref x2), (3, .ref x3), (4, .ref x4), (5, .int x5)] [.int r5] M4 (c + mc3) (sl + ms3)
  refine kz_istore (pc := 1732) (i := 7) (ls' := [(6, .int r2), (0, .retAddr x0), (1, .ref x1), (2, .ref x2), (3, .ref x3), (4, .ref x4), (5, .int x5)]) (by decide) rfl dL_law_1732 ?_
  refine kz_aload_n (pc := 1734) 4 (v := .ref x2) (i := 2) rfl rfl rfl dL_law_1734 ?_
  obtain ⟨⟨fs12, he⟩, h⟩ := h
  refine kz_callV (pc := 1735) (μ' := mX12_thrown) (ci := 11) (q := (RX12, TX12, 32)) (b := x2) (d' := d + 10) (mc' := 0) (ms' := 0) (As := []) (st := []) (c := c + mc3) (sl := sl + ms3) kmX12_thrown kw_1475 (by omega) rfl (Nat.le_of_ble_eq_true rfl) he rfl rfl hc3 hs3 dL_law_1735 (fun E M9 hx => kz_Tout rfl hc3 hs3 hx) (kz_Cmono (fun v M7 h => ?_) (fun _ _ h => h) h)
  obtain ⟨r8, rfl, h⟩ := h
  show kz_Z G (d + 11) mc ms mL_law Qr Qx 1738 [(7, .int r5), (6, .int r2), (0, .retAddr x0), (1, .ref x1), (2, .ref x2), (3, .ref x3), (4, .ref x4), (5, .int x5)] [.int r8] M7 (c + mc3) (sl + ms3)
  refine kz_iload (pc := 1738) 1 (i := 6) rfl dL_law_1738 ?_
  refine kz_icmp_eq (pc := 1740) (tgt := 1745) (by decide) dL_law_1740 (fun hb => ?_) (fun hb => ?_)
  · replace h := h.1 hb
    refine kz_iload (pc := 1745) 1 (i := 6) rfl dL_law_1745 ?_
    refine kz_if_ne (pc := 1747) (tgt := 1762) (by decide) dL_law_1747 (fun hb => ?_) (fun hb => ?_)
    · replace h := h.1 hb
      refine kz_goto (pc := 1762) (tgt := 2913) (by decide) dL_law_1762 ?_
      refine kz_sub [2, 3, 4, 5, 6, 7] rfl ?_
      exact h
    · replace h := h.2 hb
      refine kz_aload_n (pc := 1750) 5 (v := .ref x3) (i := 3) rfl rfl rfl dL_law_1750 ?_
      refine kz_iconst (pc := 1751) (v := 0) (by decide) dL_law_1751 ?_
      obtain ⟨n10, f11, hM, hi, h⟩ := h
      refine kz_lald (pc := 1752) hM hi dL_law_1752 ?_
      refine kz_iload (pc := 1753) 0 (i := 7) rfl dL_law_1753 ?_
      refine kz_i2l (pc := 1755) dL_law_1755 ?_
      refine kz_lcmp_eq (pc := 1756) (tgt := 1762) (by decide) dL_law_1756 dL_law_1757 (fun hb => ?_) (fun hb => ?_)
      · replace h := h.1 hb
        refine kz_goto (pc := 1762) (tgt := 2913) (by decide) dL_law_1762 ?_
        refine kz_sub [2, 3, 4, 5, 6, 7] rfl ?_
        exact h
      · replace h := h.2 hb
        refine kz_iconst (pc := 1760) (v := 0) (by decide) dL_law_1760 ?_
        exact kz_zret (pc := 1761) (ty := .boolean) rfl (by decide) hc3 hs3 dL_law_1761 h
  · replace h := h.2 hb
    refine kz_iconst (pc := 1743) (v := 0) (by decide) dL_law_1743 ?_
    exact kz_zret (pc := 1744) (ty := .boolean) rfl (by decide) hc3 hs3 dL_law_1744 h
theorem rL_law_1765 {G : kz_G} {N : Nat} {xs : Nat → Int32} {d : Nat} {mc ms : Nat} {Qr : Option Value → kz_M → Prop} {Qx : String → kz_M → Prop} {x0 : Nat} {x1 : Nat} {x2 : Nat} {x3 : Nat} {x4 : Nat} {x5 : Int32}  {M : kz_M} {c sl : Nat} (hc : c ≤ mc) (hs : sl ≤ ms) (hX : va_X (G.2.2.2 x0) N xs G.2.2.1 G.2.2.1.heap) (hbs : G.2.2.2 x0 < G.2.2.1.heap.size) (h : vp_in (x5 + 1) N ∧ (vp_in (x5 + 2) N ∧ (vp_in (x5 + 3) N ∧ (∃ mc3 ms3, c + mc3 ≤ mc ∧ sl + ms3 ≤ ms ∧ kz_C G (d + 10) mc3 ms3 mL_wouldCount [.ref x1, .int (xs (x5 + 1).toNatClampNeg), .int (xs (x5 + 2).toNatClampNeg), .int (xs (x5 + 3).toNatClampNeg), .ref x3] M (fun v M1 => ∃ r2 : Int32, v = some (.int r2) ∧ (vp_in (x5 + 1) N ∧ (vp_in (x5 + 2) N ∧ (vp_in (x5 + 3) N ∧ ((∃ fs13, (M1).1 x2 = some (.inl (11, fs13))) ∧ kz_C G (d + 10) 0 0 mX12_wouldCount [.ref x2, .int (xs (x5 + 1).toNatClampNeg), .int (xs (x5 + 2).toNatClampNeg), .int (xs (x5 + 3).toNatClampNeg)] M1 (fun v M4 => ∃ r5 : Int32, v = some (.int r5) ∧ ((∃ fs12, (M4).1 x2 = some (.inl (11, fs12))) ∧ kz_C G (d + 10) 0 0 mX12_thrown [.ref x2] M4 (fun v M7 => ∃ r8 : Int32, v = some (.int r8) ∧ ((r8 = r2 → (¬ r2 = 0 → zL_law_2913 G d mc ms Qr Qx x0 x1 x2 x3 x4 x5 M7 (c + mc3) (sl + ms3)) ∧ (r2 = 0 → ∃ n10 f11, (M7).1 x3 = some (.inr (.long, n10, .inr (.inl f11))) ∧ vp_in (0 : Int32) n10 ∧ (((f11 (0 : Int32).toNatClampNeg) = ((r5 : Int32).toInt64) → zL_law_2913 G d mc ms Qr Qx x0 x1 x2 x3 x4 x5 M7 (c + mc3) (sl + ms3)) ∧ (¬ (f11 (0 : Int32).toNatClampNeg) = ((r5 : Int32).toInt64) → Qr (some (.int 0)) M7)))) ∧ (¬ r8 = r2 → Qr (some (.int 0)) M7))) Qx)) Qx))))) Qx)))) : zL_law_1765 G d mc ms Qr Qx x0 x1 x2 x3 x4 x5  M c sl := by
  show kz_Z G (d + 11) mc ms mL_law Qr Qx 1765 [(0, .retAddr x0), (1, .ref x1), (2, .ref x2), (3, .ref x3), (4, .ref x4), (5, .int x5)] [] M c sl
  refine kz_aload_n (pc := 1765) 1 (v := .ref x1) (i := 1) rfl rfl rfl dL_law_1765 ?_
  refine kz_aload_n (pc := 1766) 0 (v := .retAddr x0) (i := 0) rfl rfl rfl dL_law_1766 ?_
  refine kz_iload (pc := 1767) 5 (i := 5) rfl dL_law_1767 ?_
  refine kz_iconst (pc := 1769) (v := 1) (by decide) dL_law_1769 ?_
  refine kz_iadd (pc := 1770) dL_law_1770 ?_
  obtain ⟨hi, h⟩ := h
  refine kz_sld (pc := 1771) hX hbs hi dL_law_1771 ?_
  refine kz_aload_n (pc := 1772) 0 (v := .retAddr x0) (i := 0) rfl rfl rfl dL_law_1772 ?_
  refine kz_iload (pc := 1773) 5 (i := 5) rfl dL_law_1773 ?_
  refine kz_iconst (pc := 1775) (v := 2) (by decide) dL_law_1775 ?_
  refine kz_iadd (pc := 1776) dL_law_1776 ?_
  obtain ⟨hi, h⟩ := h
  refine kz_sld (pc := 1777) hX hbs hi dL_law_1777 ?_
  refine kz_aload_n (pc := 1778) 0 (v := .retAddr x0) (i := 0) rfl rfl rfl dL_law_1778 ?_
  refine kz_iload (pc := 1779) 5 (i := 5) rfl dL_law_1779 ?_
  refine kz_iconst (pc := 1781) (v := 3) (by decide) dL_law_1781 ?_
  refine kz_iadd (pc := 1782) dL_law_1782 ?_
  obtain ⟨hi, h⟩ := h
  refine kz_sld (pc := 1783) hX hbs hi dL_law_1783 ?_
  refine kz_aload_n (pc := 1784) 3 (v := .ref x3) (i := 3) rfl rfl rfl dL_law_1784 ?_
  obtain ⟨mc3, ms3, hc3, hs3, h⟩ := h
  refine kz_callSX (pc := 1785) (μ' := mL_wouldCount) (d' := d + 10) (mc' := mc3) (ms' := ms3) (As := [.ref x1, .int (xs (x5 + 1).toNatClampNeg), .int (xs (x5 + 2).toNatClampNeg), .int (xs (x5 + 3).toNatClampNeg), .ref x3]) (st := []) (c := c) (sl := sl) kmL_wouldCount kw_967 (by omega) rfl (Nat.le_of_ble_eq_true rfl) hc3 hs3 dL_law_1785 (fun E M9 hx => kz_Tout rfl hc3 hs3 hx) (kz_Cmono (fun v M1 h => ?_) (fun _ _ h => h) h)
  obtain ⟨r2, rfl, h⟩ := h
  show kz_Z G (d + 11) mc ms mL_law Qr Qx 1788 [(0, .retAddr x0), (1, .ref x1), (2, .ref x2), (3, .ref x3), (4, .ref x4), (5, .int x5)] [.int r2] M1 (c + mc3) (sl + ms3)
  refine kz_istore (pc := 1788) (i := 6) (ls' := [(0, .retAddr x0), (1, .ref x1), (2, .ref x2), (3, .ref x3), (4, .ref x4), (5, .int x5)]) (by decide) rfl dL_law_1788 ?_
  refine kz_aload_n (pc := 1790) 3 (v := .ref x2) (i := 2) rfl rfl rfl dL_law_1790 ?_
  refine kz_aload_n (pc := 1791) 1 (v := .retAddr x0) (i := 0) rfl rfl rfl dL_law_1791 ?_
  refine kz_iload (pc := 1792) 6 (i := 5) rfl dL_law_1792 ?_
  refine kz_iconst (pc := 1794) (v := 1) (by decide) dL_law_1794 ?_
  refine kz_iadd (pc := 1795) dL_law_1795 ?_
  obtain ⟨hi, h⟩ := h
  refine kz_sld (pc := 1796) hX hbs hi dL_law_1796 ?_
  refine kz_aload_n (pc := 1797) 1 (v := .retAddr x0) (i := 0) rfl rfl rfl dL_law_1797 ?_
  refine kz_iload (pc := 1798) 6 (i := 5) rfl dL_law_1798 ?_
  refine kz_iconst (pc := 1800) (v := 2) (by decide) dL_law_1800 ?_
  refine kz_iadd (pc := 1801) dL_law_1801 ?_
  obtain ⟨hi, h⟩ := h
  refine kz_sld (pc := 1802) hX hbs hi dL_law_1802 ?_
  refine kz_aload_n (pc := 1803) 1 (v := .retAddr x0) (i := 0) rfl rfl rfl dL_law_1803 ?_
  refine kz_iload (pc := 1804) 6 (i := 5) rfl dL_law_1804 ?_
  refine kz_iconst (pc := 1806) (v := 3) (by decide) dL_law_1806 ?_
  refine kz_iadd (pc := 1807) dL_law_1807 ?_
  obtain ⟨hi, h⟩ := h
  refine kz_sld (pc := 1808) hX hbs hi dL_law_1808 ?_
  obtain ⟨⟨fs13, he⟩, h⟩ := h
  refine kz_callV (pc := 1809) (μ' := mX12_wouldCount) (ci := 11) (q := (RX12, TX12, 32)) (b := x2) (d' := d + 10) (mc' := 0) (ms' := 0) (As := [.int (xs (x5 + 1).toNatClampNeg), .int (xs (x5 + 2).toNatClampNeg), .int (xs (x5 + 3).toNatClampNeg)]) (st := []) (c := c + mc3) (sl := sl + ms3) kmX12_wouldCount kw_1847 (by omega) rfl (Nat.le_of_ble_eq_true rfl) he rfl rfl hc3 hs3 dL_law_1809 (fun E M9 hx => kz_Tout rfl hc3 hs3 hx) (kz_Cmono (fun v M4 h => ?_) (fun _ _ h => h) h)
  obtain ⟨r5, rfl, h⟩ := h
  show kz_Z G (d + 11) mc ms mL_law Qr Qx 1812 [(6, .int r2), (0, .retAddr x0), (1, .ref x1), (2, .ref x2), (3, .ref x3), (4, .ref x4), (5, .int x5)] [.int r5] M4 (c + mc3) (sl + ms3)
  refine kz_istore (pc := 1812) (i := 7) (ls' := [(6, .int r2), (0, .retAddr x0), (1, .ref x1), (2, .ref x2), (3, .ref x3), (4, .ref x4), (5, .int x5)]) (by decide) rfl dL_law_1812 ?_
  refine kz_aload_n (pc := 1814) 4 (v := .ref x2) (i := 2) rfl rfl rfl dL_law_1814 ?_
  obtain ⟨⟨fs12, he⟩, h⟩ := h
  refine kz_callV (pc := 1815) (μ' := mX12_thrown) (ci := 11) (q := (RX12, TX12, 32)) (b := x2) (d' := d + 10) (mc' := 0) (ms' := 0) (As := []) (st := []) (c := c + mc3) (sl := sl + ms3) kmX12_thrown kw_1475 (by omega) rfl (Nat.le_of_ble_eq_true rfl) he rfl rfl hc3 hs3 dL_law_1815 (fun E M9 hx => kz_Tout rfl hc3 hs3 hx) (kz_Cmono (fun v M7 h => ?_) (fun _ _ h => h) h)
  obtain ⟨r8, rfl, h⟩ := h
  show kz_Z G (d + 11) mc ms mL_law Qr Qx 1818 [(7, .int r5), (6, .int r2), (0, .retAddr x0), (1, .ref x1), (2, .ref x2), (3, .ref x3), (4, .ref x4), (5, .int x5)] [.int r8] M7 (c + mc3) (sl + ms3)
  refine kz_iload (pc := 1818) 1 (i := 6) rfl dL_law_1818 ?_
  refine kz_icmp_eq (pc := 1820) (tgt := 1825) (by decide) dL_law_1820 (fun hb => ?_) (fun hb => ?_)
  · replace h := h.1 hb
    refine kz_iload (pc := 1825) 1 (i := 6) rfl dL_law_1825 ?_
    refine kz_if_ne (pc := 1827) (tgt := 1842) (by decide) dL_law_1827 (fun hb => ?_) (fun hb => ?_)
    · replace h := h.1 hb
      refine kz_goto (pc := 1842) (tgt := 2913) (by decide) dL_law_1842 ?_
      refine kz_sub [2, 3, 4, 5, 6, 7] rfl ?_
      exact h
    · replace h := h.2 hb
      refine kz_aload_n (pc := 1830) 5 (v := .ref x3) (i := 3) rfl rfl rfl dL_law_1830 ?_
      refine kz_iconst (pc := 1831) (v := 0) (by decide) dL_law_1831 ?_
      obtain ⟨n10, f11, hM, hi, h⟩ := h
      refine kz_lald (pc := 1832) hM hi dL_law_1832 ?_
      refine kz_iload (pc := 1833) 0 (i := 7) rfl dL_law_1833 ?_
      refine kz_i2l (pc := 1835) dL_law_1835 ?_
      refine kz_lcmp_eq (pc := 1836) (tgt := 1842) (by decide) dL_law_1836 dL_law_1837 (fun hb => ?_) (fun hb => ?_)
      · replace h := h.1 hb
        refine kz_goto (pc := 1842) (tgt := 2913) (by decide) dL_law_1842 ?_
        refine kz_sub [2, 3, 4, 5, 6, 7] rfl ?_
        exact h
      · replace h := h.2 hb
        refine kz_iconst (pc := 1840) (v := 0) (by decide) dL_law_1840 ?_
        exact kz_zret (pc := 1841) (ty := .boolean) rfl (by decide) hc3 hs3 dL_law_1841 h
  · replace h := h.2 hb
    refine kz_iconst (pc := 1823) (v := 0) (by decide) dL_law_1823 ?_
    exact kz_zret (pc := 1824) (ty := .boolean) rfl (by decide) hc3 hs3 dL_law_1824 h
theorem rL_law_1845 {G : kz_G} {N : Nat} {xs : Nat → Int32} {d : Nat} {mc ms : Nat} {Qr : Option Value → kz_M → Prop} {Qx : String → kz_M → Prop} {x0 : Nat} {x1 : Nat} {x2 : Nat} {x3 : Nat} {x4 : Nat} {x5 : Int32}  {M : kz_M} {c sl : Nat} (hc : c ≤ mc) (hs : sl ≤ ms) (hX : va_X (G.2.2.2 x0) N xs G.2.2.1 G.2.2.1.heap) (hbs : G.2.2.2 x0 < G.2.2.1.heap.size) (h : vp_in (x5 + 1) N ∧ (vp_in (x5 + 2) N ∧ (vp_in (x5 + 3) N ∧ (∃ mc3 ms3, c + mc3 ≤ mc ∧ sl + ms3 ≤ ms ∧ kz_C G (d + 10) mc3 ms3 mL_wouldPay [.ref x1, .int (xs (x5 + 1).toNatClampNeg), .int (xs (x5 + 2).toNatClampNeg), .int (xs (x5 + 3).toNatClampNeg), .ref x3] M (fun v M1 => ∃ r2 : Int32, v = some (.int r2) ∧ (vp_in (x5 + 1) N ∧ (vp_in (x5 + 2) N ∧ (vp_in (x5 + 3) N ∧ ((∃ fs13, (M1).1 x2 = some (.inl (11, fs13))) ∧ kz_C G (d + 10) 0 0 mX12_wouldPay [.ref x2, .int (xs (x5 + 1).toNatClampNeg), .int (xs (x5 + 2).toNatClampNeg), .int (xs (x5 + 3).toNatClampNeg)] M1 (fun v M4 => ∃ r5 : Int32, v = some (.int r5) ∧ ((∃ fs12, (M4).1 x2 = some (.inl (11, fs12))) ∧ kz_C G (d + 10) 0 0 mX12_thrown [.ref x2] M4 (fun v M7 => ∃ r8 : Int32, v = some (.int r8) ∧ ((r8 = r2 → (¬ r2 = 0 → zL_law_2913 G d mc ms Qr Qx x0 x1 x2 x3 x4 x5 M7 (c + mc3) (sl + ms3)) ∧ (r2 = 0 → ∃ n10 f11, (M7).1 x3 = some (.inr (.long, n10, .inr (.inl f11))) ∧ vp_in (0 : Int32) n10 ∧ (((f11 (0 : Int32).toNatClampNeg) = ((r5 : Int32).toInt64) → zL_law_2913 G d mc ms Qr Qx x0 x1 x2 x3 x4 x5 M7 (c + mc3) (sl + ms3)) ∧ (¬ (f11 (0 : Int32).toNatClampNeg) = ((r5 : Int32).toInt64) → Qr (some (.int 0)) M7)))) ∧ (¬ r8 = r2 → Qr (some (.int 0)) M7))) Qx)) Qx))))) Qx)))) : zL_law_1845 G d mc ms Qr Qx x0 x1 x2 x3 x4 x5  M c sl := by
  show kz_Z G (d + 11) mc ms mL_law Qr Qx 1845 [(0, .retAddr x0), (1, .ref x1), (2, .ref x2), (3, .ref x3), (4, .ref x4), (5, .int x5)] [] M c sl
  refine kz_aload_n (pc := 1845) 1 (v := .ref x1) (i := 1) rfl rfl rfl dL_law_1845 ?_
  refine kz_aload_n (pc := 1846) 0 (v := .retAddr x0) (i := 0) rfl rfl rfl dL_law_1846 ?_
  refine kz_iload (pc := 1847) 5 (i := 5) rfl dL_law_1847 ?_
  refine kz_iconst (pc := 1849) (v := 1) (by decide) dL_law_1849 ?_
  refine kz_iadd (pc := 1850) dL_law_1850 ?_
  obtain ⟨hi, h⟩ := h
  refine kz_sld (pc := 1851) hX hbs hi dL_law_1851 ?_
  refine kz_aload_n (pc := 1852) 0 (v := .retAddr x0) (i := 0) rfl rfl rfl dL_law_1852 ?_
  refine kz_iload (pc := 1853) 5 (i := 5) rfl dL_law_1853 ?_
  refine kz_iconst (pc := 1855) (v := 2) (by decide) dL_law_1855 ?_
  refine kz_iadd (pc := 1856) dL_law_1856 ?_
  obtain ⟨hi, h⟩ := h
  refine kz_sld (pc := 1857) hX hbs hi dL_law_1857 ?_
  refine kz_aload_n (pc := 1858) 0 (v := .retAddr x0) (i := 0) rfl rfl rfl dL_law_1858 ?_
  refine kz_iload (pc := 1859) 5 (i := 5) rfl dL_law_1859 ?_
  refine kz_iconst (pc := 1861) (v := 3) (by decide) dL_law_1861 ?_
  refine kz_iadd (pc := 1862) dL_law_1862 ?_
  obtain ⟨hi, h⟩ := h
  refine kz_sld (pc := 1863) hX hbs hi dL_law_1863 ?_
  refine kz_aload_n (pc := 1864) 3 (v := .ref x3) (i := 3) rfl rfl rfl dL_law_1864 ?_
  obtain ⟨mc3, ms3, hc3, hs3, h⟩ := h
  refine kz_callSX (pc := 1865) (μ' := mL_wouldPay) (d' := d + 10) (mc' := mc3) (ms' := ms3) (As := [.ref x1, .int (xs (x5 + 1).toNatClampNeg), .int (xs (x5 + 2).toNatClampNeg), .int (xs (x5 + 3).toNatClampNeg), .ref x3]) (st := []) (c := c) (sl := sl) kmL_wouldPay kw_1113 (by omega) rfl (Nat.le_of_ble_eq_true rfl) hc3 hs3 dL_law_1865 (fun E M9 hx => kz_Tout rfl hc3 hs3 hx) (kz_Cmono (fun v M1 h => ?_) (fun _ _ h => h) h)
  obtain ⟨r2, rfl, h⟩ := h
  show kz_Z G (d + 11) mc ms mL_law Qr Qx 1868 [(0, .retAddr x0), (1, .ref x1), (2, .ref x2), (3, .ref x3), (4, .ref x4), (5, .int x5)] [.int r2] M1 (c + mc3) (sl + ms3)
  refine kz_istore (pc := 1868) (i := 6) (ls' := [(0, .retAddr x0), (1, .ref x1), (2, .ref x2), (3, .ref x3), (4, .ref x4), (5, .int x5)]) (by decide) rfl dL_law_1868 ?_
  refine kz_aload_n (pc := 1870) 3 (v := .ref x2) (i := 2) rfl rfl rfl dL_law_1870 ?_
  refine kz_aload_n (pc := 1871) 1 (v := .retAddr x0) (i := 0) rfl rfl rfl dL_law_1871 ?_
  refine kz_iload (pc := 1872) 6 (i := 5) rfl dL_law_1872 ?_
  refine kz_iconst (pc := 1874) (v := 1) (by decide) dL_law_1874 ?_
  refine kz_iadd (pc := 1875) dL_law_1875 ?_
  obtain ⟨hi, h⟩ := h
  refine kz_sld (pc := 1876) hX hbs hi dL_law_1876 ?_
  refine kz_aload_n (pc := 1877) 1 (v := .retAddr x0) (i := 0) rfl rfl rfl dL_law_1877 ?_
  refine kz_iload (pc := 1878) 6 (i := 5) rfl dL_law_1878 ?_
  refine kz_iconst (pc := 1880) (v := 2) (by decide) dL_law_1880 ?_
  refine kz_iadd (pc := 1881) dL_law_1881 ?_
  obtain ⟨hi, h⟩ := h
  refine kz_sld (pc := 1882) hX hbs hi dL_law_1882 ?_
  refine kz_aload_n (pc := 1883) 1 (v := .retAddr x0) (i := 0) rfl rfl rfl dL_law_1883 ?_
  refine kz_iload (pc := 1884) 6 (i := 5) rfl dL_law_1884 ?_
  refine kz_iconst (pc := 1886) (v := 3) (by decide) dL_law_1886 ?_
  refine kz_iadd (pc := 1887) dL_law_1887 ?_
  obtain ⟨hi, h⟩ := h
  refine kz_sld (pc := 1888) hX hbs hi dL_law_1888 ?_
  obtain ⟨⟨fs13, he⟩, h⟩ := h
  refine kz_callV (pc := 1889) (μ' := mX12_wouldPay) (ci := 11) (q := (RX12, TX12, 32)) (b := x2) (d' := d + 10) (mc' := 0) (ms' := 0) (As := [.int (xs (x5 + 1).toNatClampNeg), .int (xs (x5 + 2).toNatClampNeg), .int (xs (x5 + 3).toNatClampNeg)]) (st := []) (c := c + mc3) (sl := sl + ms3) kmX12_wouldPay kw_1892 (by omega) rfl (Nat.le_of_ble_eq_true rfl) he rfl rfl hc3 hs3 dL_law_1889 (fun E M9 hx => kz_Tout rfl hc3 hs3 hx) (kz_Cmono (fun v M4 h => ?_) (fun _ _ h => h) h)
  obtain ⟨r5, rfl, h⟩ := h
  show kz_Z G (d + 11) mc ms mL_law Qr Qx 1892 [(6, .int r2), (0, .retAddr x0), (1, .ref x1), (2, .ref x2), (3, .ref x3), (4, .ref x4), (5, .int x5)] [.int r5] M4 (c + mc3) (sl + ms3)
  refine kz_istore (pc := 1892) (i := 7) (ls' := [(6, .int r2), (0, .retAddr x0), (1, .ref x1), (2, .ref x2), (3, .ref x3), (4, .ref x4), (5, .int x5)]) (by decide) rfl dL_law_1892 ?_
  refine kz_aload_n (pc := 1894) 4 (v := .ref x2) (i := 2) rfl rfl rfl dL_law_1894 ?_
  obtain ⟨⟨fs12, he⟩, h⟩ := h
  refine kz_callV (pc := 1895) (μ' := mX12_thrown) (ci := 11) (q := (RX12, TX12, 32)) (b := x2) (d' := d + 10) (mc' := 0) (ms' := 0) (As := []) (st := []) (c := c + mc3) (sl := sl + ms3) kmX12_thrown kw_1475 (by omega) rfl (Nat.le_of_ble_eq_true rfl) he rfl rfl hc3 hs3 dL_law_1895 (fun E M9 hx => kz_Tout rfl hc3 hs3 hx) (kz_Cmono (fun v M7 h => ?_) (fun _ _ h => h) h)
  obtain ⟨r8, rfl, h⟩ := h
  show kz_Z G (d + 11) mc ms mL_law Qr Qx 1898 [(7, .int r5), (6, .int r2), (0, .retAddr x0), (1, .ref x1), (2, .ref x2), (3, .ref x3), (4, .ref x4), (5, .int x5)] [.int r8] M7 (c + mc3) (sl + ms3)
  refine kz_iload (pc := 1898) 1 (i := 6) rfl dL_law_1898 ?_
  refine kz_icmp_eq (pc := 1900) (tgt := 1905) (by decide) dL_law_1900 (fun hb => ?_) (fun hb => ?_)
  · replace h := h.1 hb
    refine kz_iload (pc := 1905) 1 (i := 6) rfl dL_law_1905 ?_
    refine kz_if_ne (pc := 1907) (tgt := 1922) (by decide) dL_law_1907 (fun hb => ?_) (fun hb => ?_)
    · replace h := h.1 hb
      refine kz_goto (pc := 1922) (tgt := 2913) (by decide) dL_law_1922 ?_
      refine kz_sub [2, 3, 4, 5, 6, 7] rfl ?_
      exact h
    · replace h := h.2 hb
      refine kz_aload_n (pc := 1910) 5 (v := .ref x3) (i := 3) rfl rfl rfl dL_law_1910 ?_
      refine kz_iconst (pc := 1911) (v := 0) (by decide) dL_law_1911 ?_
      obtain ⟨n10, f11, hM, hi, h⟩ := h
      refine kz_lald (pc := 1912) hM hi dL_law_1912 ?_
      refine kz_iload (pc := 1913) 0 (i := 7) rfl dL_law_1913 ?_
      refine kz_i2l (pc := 1915) dL_law_1915 ?_
      refine kz_lcmp_eq (pc := 1916) (tgt := 1922) (by decide) dL_law_1916 dL_law_1917 (fun hb => ?_) (fun hb => ?_)
      · replace h := h.1 hb
        refine kz_goto (pc := 1922) (tgt := 2913) (by decide) dL_law_1922 ?_
        refine kz_sub [2, 3, 4, 5, 6, 7] rfl ?_
        exact h
      · replace h := h.2 hb
        refine kz_iconst (pc := 1920) (v := 0) (by decide) dL_law_1920 ?_
        exact kz_zret (pc := 1921) (ty := .boolean) rfl (by decide) hc3 hs3 dL_law_1921 h
  · replace h := h.2 hb
    refine kz_iconst (pc := 1903) (v := 0) (by decide) dL_law_1903 ?_
    exact kz_zret (pc := 1904) (ty := .boolean) rfl (by decide) hc3 hs3 dL_law_1904 h
theorem rL_law_1925 {G : kz_G} {N : Nat} {xs : Nat → Int32} {d : Nat} {mc ms : Nat} {Qr : Option Value → kz_M → Prop} {Qx : String → kz_M → Prop} {x0 : Nat} {x1 : Nat} {x2 : Nat} {x3 : Nat} {x4 : Nat} {x5 : Int32}  {M : kz_M} {c sl : Nat} (hc : c ≤ mc) (hs : sl ≤ ms) (hX : va_X (G.2.2.2 x0) N xs G.2.2.1 G.2.2.1.heap) (hbs : G.2.2.2 x0 < G.2.2.1.heap.size) (h : vp_in (x5 + 1) N ∧ (vp_in (x5 + 2) N ∧ (vp_in (x5 + 3) N ∧ (∃ mc3 ms3, c + mc3 ≤ mc ∧ sl + ms3 ≤ ms ∧ kz_C G (d + 10) mc3 ms3 mL_countsIf [.ref x1, .int (xs (x5 + 1).toNatClampNeg), .int (xs (x5 + 2).toNatClampNeg), .int (xs (x5 + 3).toNatClampNeg), .ref x3] M (fun v M1 => ∃ r2 : Int32, v = some (.int r2) ∧ (vp_in (x5 + 1) N ∧ (vp_in (x5 + 2) N ∧ (vp_in (x5 + 3) N ∧ ((∃ fs13, (M1).1 x2 = some (.inl (11, fs13))) ∧ kz_C G (d + 10) 0 0 mX12_countsIf [.ref x2, .int (xs (x5 + 1).toNatClampNeg), .int (xs (x5 + 2).toNatClampNeg), .int (xs (x5 + 3).toNatClampNeg)] M1 (fun v M4 => ∃ r5 : Int32, v = some (.int r5) ∧ ((∃ fs12, (M4).1 x2 = some (.inl (11, fs12))) ∧ kz_C G (d + 10) 0 0 mX12_thrown [.ref x2] M4 (fun v M7 => ∃ r8 : Int32, v = some (.int r8) ∧ ((r8 = r2 → (¬ r2 = 0 → zL_law_2913 G d mc ms Qr Qx x0 x1 x2 x3 x4 x5 M7 (c + mc3) (sl + ms3)) ∧ (r2 = 0 → ∃ n10 f11, (M7).1 x3 = some (.inr (.long, n10, .inr (.inl f11))) ∧ vp_in (0 : Int32) n10 ∧ (((f11 (0 : Int32).toNatClampNeg) = ((r5 : Int32).toInt64) → zL_law_2913 G d mc ms Qr Qx x0 x1 x2 x3 x4 x5 M7 (c + mc3) (sl + ms3)) ∧ (¬ (f11 (0 : Int32).toNatClampNeg) = ((r5 : Int32).toInt64) → Qr (some (.int 0)) M7)))) ∧ (¬ r8 = r2 → Qr (some (.int 0)) M7))) Qx)) Qx))))) Qx)))) : zL_law_1925 G d mc ms Qr Qx x0 x1 x2 x3 x4 x5  M c sl := by
  show kz_Z G (d + 11) mc ms mL_law Qr Qx 1925 [(0, .retAddr x0), (1, .ref x1), (2, .ref x2), (3, .ref x3), (4, .ref x4), (5, .int x5)] [] M c sl
  refine kz_aload_n (pc := 1925) 1 (v := .ref x1) (i := 1) rfl rfl rfl dL_law_1925 ?_
  refine kz_aload_n (pc := 1926) 0 (v := .retAddr x0) (i := 0) rfl rfl rfl dL_law_1926 ?_
  refine kz_iload (pc := 1927) 5 (i := 5) rfl dL_law_1927 ?_
  refine kz_iconst (pc := 1929) (v := 1) (by decide) dL_law_1929 ?_
  refine kz_iadd (pc := 1930) dL_law_1930 ?_
  obtain ⟨hi, h⟩ := h
  refine kz_sld (pc := 1931) hX hbs hi dL_law_1931 ?_
  refine kz_aload_n (pc := 1932) 0 (v := .retAddr x0) (i := 0) rfl rfl rfl dL_law_1932 ?_
  refine kz_iload (pc := 1933) 5 (i := 5) rfl dL_law_1933 ?_
  refine kz_iconst (pc := 1935) (v := 2) (by decide) dL_law_1935 ?_
  refine kz_iadd (pc := 1936) dL_law_1936 ?_
  obtain ⟨hi, h⟩ := h
  refine kz_sld (pc := 1937) hX hbs hi dL_law_1937 ?_
  refine kz_aload_n (pc := 1938) 0 (v := .retAddr x0) (i := 0) rfl rfl rfl dL_law_1938 ?_
  refine kz_iload (pc := 1939) 5 (i := 5) rfl dL_law_1939 ?_
  refine kz_iconst (pc := 1941) (v := 3) (by decide) dL_law_1941 ?_
  refine kz_iadd (pc := 1942) dL_law_1942 ?_
  obtain ⟨hi, h⟩ := h
  refine kz_sld (pc := 1943) hX hbs hi dL_law_1943 ?_
  refine kz_aload_n (pc := 1944) 3 (v := .ref x3) (i := 3) rfl rfl rfl dL_law_1944 ?_
  obtain ⟨mc3, ms3, hc3, hs3, h⟩ := h
  refine kz_callSX (pc := 1945) (μ' := mL_countsIf) (d' := d + 10) (mc' := mc3) (ms' := ms3) (As := [.ref x1, .int (xs (x5 + 1).toNatClampNeg), .int (xs (x5 + 2).toNatClampNeg), .int (xs (x5 + 3).toNatClampNeg), .ref x3]) (st := []) (c := c) (sl := sl) kmL_countsIf kw_1125 (by omega) rfl (Nat.le_of_ble_eq_true rfl) hc3 hs3 dL_law_1945 (fun E M9 hx => kz_Tout rfl hc3 hs3 hx) (kz_Cmono (fun v M1 h => ?_) (fun _ _ h => h) h)
  obtain ⟨r2, rfl, h⟩ := h
  show kz_Z G (d + 11) mc ms mL_law Qr Qx 1948 [(0, .retAddr x0), (1, .ref x1), (2, .ref x2), (3, .ref x3), (4, .ref x4), (5, .int x5)] [.int r2] M1 (c + mc3) (sl + ms3)
  refine kz_istore (pc := 1948) (i := 6) (ls' := [(0, .retAddr x0), (1, .ref x1), (2, .ref x2), (3, .ref x3), (4, .ref x4), (5, .int x5)]) (by decide) rfl dL_law_1948 ?_
  refine kz_aload_n (pc := 1950) 3 (v := .ref x2) (i := 2) rfl rfl rfl dL_law_1950 ?_
  refine kz_aload_n (pc := 1951) 1 (v := .retAddr x0) (i := 0) rfl rfl rfl dL_law_1951 ?_
  refine kz_iload (pc := 1952) 6 (i := 5) rfl dL_law_1952 ?_
  refine kz_iconst (pc := 1954) (v := 1) (by decide) dL_law_1954 ?_
  refine kz_iadd (pc := 1955) dL_law_1955 ?_
  obtain ⟨hi, h⟩ := h
  refine kz_sld (pc := 1956) hX hbs hi dL_law_1956 ?_
  refine kz_aload_n (pc := 1957) 1 (v := .retAddr x0) (i := 0) rfl rfl rfl dL_law_1957 ?_
  refine kz_iload (pc := 1958) 6 (i := 5) rfl dL_law_1958 ?_
  refine kz_iconst (pc := 1960) (v := 2) (by decide) dL_law_1960 ?_
  refine kz_iadd (pc := 1961) dL_law_1961 ?_
  obtain ⟨hi, h⟩ := h
  refine kz_sld (pc := 1962) hX hbs hi dL_law_1962 ?_
  refine kz_aload_n (pc := 1963) 1 (v := .retAddr x0) (i := 0) rfl rfl rfl dL_law_1963 ?_
  refine kz_iload (pc := 1964) 6 (i := 5) rfl dL_law_1964 ?_
  refine kz_iconst (pc := 1966) (v := 3) (by decide) dL_law_1966 ?_
  refine kz_iadd (pc := 1967) dL_law_1967 ?_
  obtain ⟨hi, h⟩ := h
  refine kz_sld (pc := 1968) hX hbs hi dL_law_1968 ?_
  obtain ⟨⟨fs13, he⟩, h⟩ := h
  refine kz_callV (pc := 1969) (μ' := mX12_countsIf) (ci := 11) (q := (RX12, TX12, 32)) (b := x2) (d' := d + 10) (mc' := 0) (ms' := 0) (As := [.int (xs (x5 + 1).toNatClampNeg), .int (xs (x5 + 2).toNatClampNeg), .int (xs (x5 + 3).toNatClampNeg)]) (st := []) (c := c + mc3) (sl := sl + ms3) kmX12_countsIf kw_1904 (by omega) rfl (Nat.le_of_ble_eq_true rfl) he rfl rfl hc3 hs3 dL_law_1969 (fun E M9 hx => kz_Tout rfl hc3 hs3 hx) (kz_Cmono (fun v M4 h => ?_) (fun _ _ h => h) h)
  obtain ⟨r5, rfl, h⟩ := h
  show kz_Z G (d + 11) mc ms mL_law Qr Qx 1972 [(6, .int r2), (0, .retAddr x0), (1, .ref x1), (2, .ref x2), (3, .ref x3), (4, .ref x4), (5, .int x5)] [.int r5] M4 (c + mc3) (sl + ms3)
  refine kz_istore (pc := 1972) (i := 7) (ls' := [(6, .int r2), (0, .retAddr x0), (1, .ref x1), (2, .ref x2), (3, .ref x3), (4, .ref x4), (5, .int x5)]) (by decide) rfl dL_law_1972 ?_
  refine kz_aload_n (pc := 1974) 4 (v := .ref x2) (i := 2) rfl rfl rfl dL_law_1974 ?_
  obtain ⟨⟨fs12, he⟩, h⟩ := h
  refine kz_callV (pc := 1975) (μ' := mX12_thrown) (ci := 11) (q := (RX12, TX12, 32)) (b := x2) (d' := d + 10) (mc' := 0) (ms' := 0) (As := []) (st := []) (c := c + mc3) (sl := sl + ms3) kmX12_thrown kw_1475 (by omega) rfl (Nat.le_of_ble_eq_true rfl) he rfl rfl hc3 hs3 dL_law_1975 (fun E M9 hx => kz_Tout rfl hc3 hs3 hx) (kz_Cmono (fun v M7 h => ?_) (fun _ _ h => h) h)
  obtain ⟨r8, rfl, h⟩ := h
  show kz_Z G (d + 11) mc ms mL_law Qr Qx 1978 [(7, .int r5), (6, .int r2), (0, .retAddr x0), (1, .ref x1), (2, .ref x2), (3, .ref x3), (4, .ref x4), (5, .int x5)] [.int r8] M7 (c + mc3) (sl + ms3)
  refine kz_iload (pc := 1978) 1 (i := 6) rfl dL_law_1978 ?_
  refine kz_icmp_eq (pc := 1980) (tgt := 1985) (by decide) dL_law_1980 (fun hb => ?_) (fun hb => ?_)
  · replace h := h.1 hb
    refine kz_iload (pc := 1985) 1 (i := 6) rfl dL_law_1985 ?_
    refine kz_if_ne (pc := 1987) (tgt := 2002) (by decide) dL_law_1987 (fun hb => ?_) (fun hb => ?_)
    · replace h := h.1 hb
      refine kz_goto (pc := 2002) (tgt := 2913) (by decide) dL_law_2002 ?_
      refine kz_sub [2, 3, 4, 5, 6, 7] rfl ?_
      exact h
    · replace h := h.2 hb
      refine kz_aload_n (pc := 1990) 5 (v := .ref x3) (i := 3) rfl rfl rfl dL_law_1990 ?_
      refine kz_iconst (pc := 1991) (v := 0) (by decide) dL_law_1991 ?_
      obtain ⟨n10, f11, hM, hi, h⟩ := h
      refine kz_lald (pc := 1992) hM hi dL_law_1992 ?_
      refine kz_iload (pc := 1993) 0 (i := 7) rfl dL_law_1993 ?_
      refine kz_i2l (pc := 1995) dL_law_1995 ?_
      refine kz_lcmp_eq (pc := 1996) (tgt := 2002) (by decide) dL_law_1996 dL_law_1997 (fun hb => ?_) (fun hb => ?_)
      · replace h := h.1 hb
        refine kz_goto (pc := 2002) (tgt := 2913) (by decide) dL_law_2002 ?_
        refine kz_sub [2, 3, 4, 5, 6, 7] rfl ?_
        exact h
      · replace h := h.2 hb
        refine kz_iconst (pc := 2000) (v := 0) (by decide) dL_law_2000 ?_
        exact kz_zret (pc := 2001) (ty := .boolean) rfl (by decide) hc3 hs3 dL_law_2001 h
  · replace h := h.2 hb
    refine kz_iconst (pc := 1983) (v := 0) (by decide) dL_law_1983 ?_
    exact kz_zret (pc := 1984) (ty := .boolean) rfl (by decide) hc3 hs3 dL_law_1984 h
theorem rL_law_2005 {G : kz_G} {N : Nat} {xs : Nat → Int32} {d : Nat} {mc ms : Nat} {Qr : Option Value → kz_M → Prop} {Qx : String → kz_M → Prop} {x0 : Nat} {x1 : Nat} {x2 : Nat} {x3 : Nat} {x4 : Nat} {x5 : Int32}  {M : kz_M} {c sl : Nat} (hc : c ≤ mc) (hs : sl ≤ ms) (hX : va_X (G.2.2.2 x0) N xs G.2.2.1 G.2.2.1.heap) (hbs : G.2.2.2 x0 < G.2.2.1.heap.size) (h : vp_in (x5 + 1) N ∧ (vp_in (x5 + 2) N ∧ (∃ mc3 ms3, c + mc3 ≤ mc ∧ sl + ms3 ≤ ms ∧ kz_C G (d + 10) mc3 ms3 mL_whyNot [.ref x1, .int (xs (x5 + 1).toNatClampNeg), .int (xs (x5 + 2).toNatClampNeg), .ref x3] M (fun v M1 => ∃ r2 : Int32, v = some (.int r2) ∧ (vp_in (x5 + 1) N ∧ (vp_in (x5 + 2) N ∧ ((∃ fs13, (M1).1 x2 = some (.inl (11, fs13))) ∧ kz_C G (d + 10) 0 0 mX12_whyNot [.ref x2, .int (xs (x5 + 1).toNatClampNeg), .int (xs (x5 + 2).toNatClampNeg)] M1 (fun v M4 => ∃ r5 : Int32, v = some (.int r5) ∧ ((∃ fs12, (M4).1 x2 = some (.inl (11, fs12))) ∧ kz_C G (d + 10) 0 0 mX12_thrown [.ref x2] M4 (fun v M7 => ∃ r8 : Int32, v = some (.int r8) ∧ ((r8 = r2 → (¬ r2 = 0 → zL_law_2913 G d mc ms Qr Qx x0 x1 x2 x3 x4 x5 M7 (c + mc3) (sl + ms3)) ∧ (r2 = 0 → ∃ n10 f11, (M7).1 x3 = some (.inr (.long, n10, .inr (.inl f11))) ∧ vp_in (0 : Int32) n10 ∧ (((f11 (0 : Int32).toNatClampNeg) = ((r5 : Int32).toInt64) → zL_law_2913 G d mc ms Qr Qx x0 x1 x2 x3 x4 x5 M7 (c + mc3) (sl + ms3)) ∧ (¬ (f11 (0 : Int32).toNatClampNeg) = ((r5 : Int32).toInt64) → Qr (some (.int 0)) M7)))) ∧ (¬ r8 = r2 → Qr (some (.int 0)) M7))) Qx)) Qx)))) Qx))) : zL_law_2005 G d mc ms Qr Qx x0 x1 x2 x3 x4 x5  M c sl := by
  show kz_Z G (d + 11) mc ms mL_law Qr Qx 2005 [(0, .retAddr x0), (1, .ref x1), (2, .ref x2), (3, .ref x3), (4, .ref x4), (5, .int x5)] [] M c sl
  refine kz_aload_n (pc := 2005) 1 (v := .ref x1) (i := 1) rfl rfl rfl dL_law_2005 ?_
  refine kz_aload_n (pc := 2006) 0 (v := .retAddr x0) (i := 0) rfl rfl rfl dL_law_2006 ?_
  refine kz_iload (pc := 2007) 5 (i := 5) rfl dL_law_2007 ?_
  refine kz_iconst (pc := 2009) (v := 1) (by decide) dL_law_2009 ?_
  refine kz_iadd (pc := 2010) dL_law_2010 ?_
  obtain ⟨hi, h⟩ := h
  refine kz_sld (pc := 2011) hX hbs hi dL_law_2011 ?_
  refine kz_aload_n (pc := 2012) 0 (v := .retAddr x0) (i := 0) rfl rfl rfl dL_law_2012 ?_
  refine kz_iload (pc := 2013) 5 (i := 5) rfl dL_law_2013 ?_
  refine kz_iconst (pc := 2015) (v := 2) (by decide) dL_law_2015 ?_
  refine kz_iadd (pc := 2016) dL_law_2016 ?_
  obtain ⟨hi, h⟩ := h
  refine kz_sld (pc := 2017) hX hbs hi dL_law_2017 ?_
  refine kz_aload_n (pc := 2018) 3 (v := .ref x3) (i := 3) rfl rfl rfl dL_law_2018 ?_
  obtain ⟨mc3, ms3, hc3, hs3, h⟩ := h
  refine kz_callSX (pc := 2019) (μ' := mL_whyNot) (d' := d + 10) (mc' := mc3) (ms' := ms3) (As := [.ref x1, .int (xs (x5 + 1).toNatClampNeg), .int (xs (x5 + 2).toNatClampNeg), .ref x3]) (st := []) (c := c) (sl := sl) kmL_whyNot kw_1140 (by omega) rfl (Nat.le_of_ble_eq_true rfl) hc3 hs3 dL_law_2019 (fun E M9 hx => kz_Tout rfl hc3 hs3 hx) (kz_Cmono (fun v M1 h => ?_) (fun _ _ h => h) h)
  obtain ⟨r2, rfl, h⟩ := h
  show kz_Z G (d + 11) mc ms mL_law Qr Qx 2022 [(0, .retAddr x0), (1, .ref x1), (2, .ref x2), (3, .ref x3), (4, .ref x4), (5, .int x5)] [.int r2] M1 (c + mc3) (sl + ms3)
  refine kz_istore (pc := 2022) (i := 6) (ls' := [(0, .retAddr x0), (1, .ref x1), (2, .ref x2), (3, .ref x3), (4, .ref x4), (5, .int x5)]) (by decide) rfl dL_law_2022 ?_
  refine kz_aload_n (pc := 2024) 3 (v := .ref x2) (i := 2) rfl rfl rfl dL_law_2024 ?_
  refine kz_aload_n (pc := 2025) 1 (v := .retAddr x0) (i := 0) rfl rfl rfl dL_law_2025 ?_
  refine kz_iload (pc := 2026) 6 (i := 5) rfl dL_law_2026 ?_
  refine kz_iconst (pc := 2028) (v := 1) (by decide) dL_law_2028 ?_
  refine kz_iadd (pc := 2029) dL_law_2029 ?_
  obtain ⟨hi, h⟩ := h
  refine kz_sld (pc := 2030) hX hbs hi dL_law_2030 ?_
  refine kz_aload_n (pc := 2031) 1 (v := .retAddr x0) (i := 0) rfl rfl rfl dL_law_2031 ?_
  refine kz_iload (pc := 2032) 6 (i := 5) rfl dL_law_2032 ?_
  refine kz_iconst (pc := 2034) (v := 2) (by decide) dL_law_2034 ?_
  refine kz_iadd (pc := 2035) dL_law_2035 ?_
  obtain ⟨hi, h⟩ := h
  refine kz_sld (pc := 2036) hX hbs hi dL_law_2036 ?_
  obtain ⟨⟨fs13, he⟩, h⟩ := h
  refine kz_callV (pc := 2037) (μ' := mX12_whyNot) (ci := 11) (q := (RX12, TX12, 32)) (b := x2) (d' := d + 10) (mc' := 0) (ms' := 0) (As := [.int (xs (x5 + 1).toNatClampNeg), .int (xs (x5 + 2).toNatClampNeg)]) (st := []) (c := c + mc3) (sl := sl + ms3) kmX12_whyNot kw_1911 (by omega) rfl (Nat.le_of_ble_eq_true rfl) he rfl rfl hc3 hs3 dL_law_2037 (fun E M9 hx => kz_Tout rfl hc3 hs3 hx) (kz_Cmono (fun v M4 h => ?_) (fun _ _ h => h) h)
  obtain ⟨r5, rfl, h⟩ := h
  show kz_Z G (d + 11) mc ms mL_law Qr Qx 2040 [(6, .int r2), (0, .retAddr x0), (1, .ref x1), (2, .ref x2), (3, .ref x3), (4, .ref x4), (5, .int x5)] [.int r5] M4 (c + mc3) (sl + ms3)
  refine kz_istore (pc := 2040) (i := 7) (ls' := [(6, .int r2), (0, .retAddr x0), (1, .ref x1), (2, .ref x2), (3, .ref x3), (4, .ref x4), (5, .int x5)]) (by decide) rfl dL_law_2040 ?_
  refine kz_aload_n (pc := 2042) 4 (v := .ref x2) (i := 2) rfl rfl rfl dL_law_2042 ?_
  obtain ⟨⟨fs12, he⟩, h⟩ := h
  refine kz_callV (pc := 2043) (μ' := mX12_thrown) (ci := 11) (q := (RX12, TX12, 32)) (b := x2) (d' := d + 10) (mc' := 0) (ms' := 0) (As := []) (st := []) (c := c + mc3) (sl := sl + ms3) kmX12_thrown kw_1475 (by omega) rfl (Nat.le_of_ble_eq_true rfl) he rfl rfl hc3 hs3 dL_law_2043 (fun E M9 hx => kz_Tout rfl hc3 hs3 hx) (kz_Cmono (fun v M7 h => ?_) (fun _ _ h => h) h)
  obtain ⟨r8, rfl, h⟩ := h
  show kz_Z G (d + 11) mc ms mL_law Qr Qx 2046 [(7, .int r5), (6, .int r2), (0, .retAddr x0), (1, .ref x1), (2, .ref x2), (3, .ref x3), (4, .ref x4), (5, .int x5)] [.int r8] M7 (c + mc3) (sl + ms3)
  refine kz_iload (pc := 2046) 1 (i := 6) rfl dL_law_2046 ?_
  refine kz_icmp_eq (pc := 2048) (tgt := 2053) (by decide) dL_law_2048 (fun hb => ?_) (fun hb => ?_)
  · replace h := h.1 hb
    refine kz_iload (pc := 2053) 1 (i := 6) rfl dL_law_2053 ?_
    refine kz_if_ne (pc := 2055) (tgt := 2070) (by decide) dL_law_2055 (fun hb => ?_) (fun hb => ?_)
    · replace h := h.1 hb
      refine kz_goto (pc := 2070) (tgt := 2913) (by decide) dL_law_2070 ?_
      refine kz_sub [2, 3, 4, 5, 6, 7] rfl ?_
      exact h
    · replace h := h.2 hb
      refine kz_aload_n (pc := 2058) 5 (v := .ref x3) (i := 3) rfl rfl rfl dL_law_2058 ?_
      refine kz_iconst (pc := 2059) (v := 0) (by decide) dL_law_2059 ?_
      obtain ⟨n10, f11, hM, hi, h⟩ := h
      refine kz_lald (pc := 2060) hM hi dL_law_2060 ?_
      refine kz_iload (pc := 2061) 0 (i := 7) rfl dL_law_2061 ?_
      refine kz_i2l (pc := 2063) dL_law_2063 ?_
      refine kz_lcmp_eq (pc := 2064) (tgt := 2070) (by decide) dL_law_2064 dL_law_2065 (fun hb => ?_) (fun hb => ?_)
      · replace h := h.1 hb
        refine kz_goto (pc := 2070) (tgt := 2913) (by decide) dL_law_2070 ?_
        refine kz_sub [2, 3, 4, 5, 6, 7] rfl ?_
        exact h
      · replace h := h.2 hb
        refine kz_iconst (pc := 2068) (v := 0) (by decide) dL_law_2068 ?_
        exact kz_zret (pc := 2069) (ty := .boolean) rfl (by decide) hc3 hs3 dL_law_2069 h
  · replace h := h.2 hb
    refine kz_iconst (pc := 2051) (v := 0) (by decide) dL_law_2051 ?_
    exact kz_zret (pc := 2052) (ty := .boolean) rfl (by decide) hc3 hs3 dL_law_2052 h
theorem rL_law_2073 {G : kz_G} {N : Nat} {xs : Nat → Int32} {d : Nat} {mc ms : Nat} {Qr : Option Value → kz_M → Prop} {Qx : String → kz_M → Prop} {x0 : Nat} {x1 : Nat} {x2 : Nat} {x3 : Nat} {x4 : Nat} {x5 : Int32}  {M : kz_M} {c sl : Nat} (hc : c ≤ mc) (hs : sl ≤ ms) (hX : va_X (G.2.2.2 x0) N xs G.2.2.1 G.2.2.1.heap) (hbs : G.2.2.2 x0 < G.2.2.1.heap.size) (h : vp_in (x5 + 1) N ∧ (∃ mc3 ms3, c + mc3 ≤ mc ∧ sl + ms3 ≤ ms ∧ kz_C G (d + 10) mc3 ms3 mL_hopes [.ref x1, .int (xs (x5 + 1).toNatClampNeg), .ref x3] M (fun v M1 => ∃ r2 : Int32, v = some (.int r2) ∧ (vp_in (x5 + 1) N ∧ ((∃ fs13, (M1).1 x2 = some (.inl (11, fs13))) ∧ kz_C G (d + 10) 0 0 mX12_hopes [.ref x2, .int (xs (x5 + 1).toNatClampNeg)] M1 (fun v M4 => ∃ r5 : Int32, v = some (.int r5) ∧ ((∃ fs12, (M4).1 x2 = some (.inl (11, fs12))) ∧ kz_C G (d + 10) 0 0 mX12_thrown [.ref x2] M4 (fun v M7 => ∃ r8 : Int32, v = some (.int r8) ∧ ((r8 = r2 → (¬ r2 = 0 → zL_law_2913 G d mc ms Qr Qx x0 x1 x2 x3 x4 x5 M7 (c + mc3) (sl + ms3)) ∧ (r2 = 0 → ∃ n10 f11, (M7).1 x3 = some (.inr (.long, n10, .inr (.inl f11))) ∧ vp_in (0 : Int32) n10 ∧ (((f11 (0 : Int32).toNatClampNeg) = ((r5 : Int32).toInt64) → zL_law_2913 G d mc ms Qr Qx x0 x1 x2 x3 x4 x5 M7 (c + mc3) (sl + ms3)) ∧ (¬ (f11 (0 : Int32).toNatClampNeg) = ((r5 : Int32).toInt64) → Qr (some (.int 0)) M7)))) ∧ (¬ r8 = r2 → Qr (some (.int 0)) M7))) Qx)) Qx))) Qx)) : zL_law_2073 G d mc ms Qr Qx x0 x1 x2 x3 x4 x5  M c sl := by
  show kz_Z G (d + 11) mc ms mL_law Qr Qx 2073 [(0, .retAddr x0), (1, .ref x1), (2, .ref x2), (3, .ref x3), (4, .ref x4), (5, .int x5)] [] M c sl
  refine kz_aload_n (pc := 2073) 1 (v := .ref x1) (i := 1) rfl rfl rfl dL_law_2073 ?_
  refine kz_aload_n (pc := 2074) 0 (v := .retAddr x0) (i := 0) rfl rfl rfl dL_law_2074 ?_
  refine kz_iload (pc := 2075) 5 (i := 5) rfl dL_law_2075 ?_
  refine kz_iconst (pc := 2077) (v := 1) (by decide) dL_law_2077 ?_
  refine kz_iadd (pc := 2078) dL_law_2078 ?_
  obtain ⟨hi, h⟩ := h
  refine kz_sld (pc := 2079) hX hbs hi dL_law_2079 ?_
  refine kz_aload_n (pc := 2080) 3 (v := .ref x3) (i := 3) rfl rfl rfl dL_law_2080 ?_
  obtain ⟨mc3, ms3, hc3, hs3, h⟩ := h
  refine kz_callSX (pc := 2081) (μ' := mL_hopes) (d' := d + 10) (mc' := mc3) (ms' := ms3) (As := [.ref x1, .int (xs (x5 + 1).toNatClampNeg), .ref x3]) (st := []) (c := c) (sl := sl) kmL_hopes kw_1160 (by omega) rfl (Nat.le_of_ble_eq_true rfl) hc3 hs3 dL_law_2081 (fun E M9 hx => kz_Tout rfl hc3 hs3 hx) (kz_Cmono (fun v M1 h => ?_) (fun _ _ h => h) h)
  obtain ⟨r2, rfl, h⟩ := h
  show kz_Z G (d + 11) mc ms mL_law Qr Qx 2084 [(0, .retAddr x0), (1, .ref x1), (2, .ref x2), (3, .ref x3), (4, .ref x4), (5, .int x5)] [.int r2] M1 (c + mc3) (sl + ms3)
  refine kz_istore (pc := 2084) (i := 6) (ls' := [(0, .retAddr x0), (1, .ref x1), (2, .ref x2), (3, .ref x3), (4, .ref x4), (5, .int x5)]) (by decide) rfl dL_law_2084 ?_
  refine kz_aload_n (pc := 2086) 3 (v := .ref x2) (i := 2) rfl rfl rfl dL_law_2086 ?_
  refine kz_aload_n (pc := 2087) 1 (v := .retAddr x0) (i := 0) rfl rfl rfl dL_law_2087 ?_
  refine kz_iload (pc := 2088) 6 (i := 5) rfl dL_law_2088 ?_
  refine kz_iconst (pc := 2090) (v := 1) (by decide) dL_law_2090 ?_
  refine kz_iadd (pc := 2091) dL_law_2091 ?_
  obtain ⟨hi, h⟩ := h
  refine kz_sld (pc := 2092) hX hbs hi dL_law_2092 ?_
  obtain ⟨⟨fs13, he⟩, h⟩ := h
  refine kz_callV (pc := 2093) (μ' := mX12_hopes) (ci := 11) (q := (RX12, TX12, 32)) (b := x2) (d' := d + 10) (mc' := 0) (ms' := 0) (As := [.int (xs (x5 + 1).toNatClampNeg)]) (st := []) (c := c + mc3) (sl := sl + ms3) kmX12_hopes kw_1919 (by omega) rfl (Nat.le_of_ble_eq_true rfl) he rfl rfl hc3 hs3 dL_law_2093 (fun E M9 hx => kz_Tout rfl hc3 hs3 hx) (kz_Cmono (fun v M4 h => ?_) (fun _ _ h => h) h)
  obtain ⟨r5, rfl, h⟩ := h
  show kz_Z G (d + 11) mc ms mL_law Qr Qx 2096 [(6, .int r2), (0, .retAddr x0), (1, .ref x1), (2, .ref x2), (3, .ref x3), (4, .ref x4), (5, .int x5)] [.int r5] M4 (c + mc3) (sl + ms3)
  refine kz_istore (pc := 2096) (i := 7) (ls' := [(6, .int r2), (0, .retAddr x0), (1, .ref x1), (2, .ref x2), (3, .ref x3), (4, .ref x4), (5, .int x5)]) (by decide) rfl dL_law_2096 ?_
  refine kz_aload_n (pc := 2098) 4 (v := .ref x2) (i := 2) rfl rfl rfl dL_law_2098 ?_
  obtain ⟨⟨fs12, he⟩, h⟩ := h
  refine kz_callV (pc := 2099) (μ' := mX12_thrown) (ci := 11) (q := (RX12, TX12, 32)) (b := x2) (d' := d + 10) (mc' := 0) (ms' := 0) (As := []) (st := []) (c := c + mc3) (sl := sl + ms3) kmX12_thrown kw_1475 (by omega) rfl (Nat.le_of_ble_eq_true rfl) he rfl rfl hc3 hs3 dL_law_2099 (fun E M9 hx => kz_Tout rfl hc3 hs3 hx) (kz_Cmono (fun v M7 h => ?_) (fun _ _ h => h) h)
  obtain ⟨r8, rfl, h⟩ := h
  show kz_Z G (d + 11) mc ms mL_law Qr Qx 2102 [(7, .int r5), (6, .int r2), (0, .retAddr x0), (1, .ref x1), (2, .ref x2), (3, .ref x3), (4, .ref x4), (5, .int x5)] [.int r8] M7 (c + mc3) (sl + ms3)
  refine kz_iload (pc := 2102) 1 (i := 6) rfl dL_law_2102 ?_
  refine kz_icmp_eq (pc := 2104) (tgt := 2109) (by decide) dL_law_2104 (fun hb => ?_) (fun hb => ?_)
  · replace h := h.1 hb
    refine kz_iload (pc := 2109) 1 (i := 6) rfl dL_law_2109 ?_
    refine kz_if_ne (pc := 2111) (tgt := 2126) (by decide) dL_law_2111 (fun hb => ?_) (fun hb => ?_)
    · replace h := h.1 hb
      refine kz_goto (pc := 2126) (tgt := 2913) (by decide) dL_law_2126 ?_
      refine kz_sub [2, 3, 4, 5, 6, 7] rfl ?_
      exact h
    · replace h := h.2 hb
      refine kz_aload_n (pc := 2114) 5 (v := .ref x3) (i := 3) rfl rfl rfl dL_law_2114 ?_
      refine kz_iconst (pc := 2115) (v := 0) (by decide) dL_law_2115 ?_
      obtain ⟨n10, f11, hM, hi, h⟩ := h
      refine kz_lald (pc := 2116) hM hi dL_law_2116 ?_
      refine kz_iload (pc := 2117) 0 (i := 7) rfl dL_law_2117 ?_
      refine kz_i2l (pc := 2119) dL_law_2119 ?_
      refine kz_lcmp_eq (pc := 2120) (tgt := 2126) (by decide) dL_law_2120 dL_law_2121 (fun hb => ?_) (fun hb => ?_)
      · replace h := h.1 hb
        refine kz_goto (pc := 2126) (tgt := 2913) (by decide) dL_law_2126 ?_
        refine kz_sub [2, 3, 4, 5, 6, 7] rfl ?_
        exact h
      · replace h := h.2 hb
        refine kz_iconst (pc := 2124) (v := 0) (by decide) dL_law_2124 ?_
        exact kz_zret (pc := 2125) (ty := .boolean) rfl (by decide) hc3 hs3 dL_law_2125 h
  · replace h := h.2 hb
    refine kz_iconst (pc := 2107) (v := 0) (by decide) dL_law_2107 ?_
    exact kz_zret (pc := 2108) (ty := .boolean) rfl (by decide) hc3 hs3 dL_law_2108 h
theorem rL_law_2129 {G : kz_G} {N : Nat} {xs : Nat → Int32} {d : Nat} {mc ms : Nat} {Qr : Option Value → kz_M → Prop} {Qx : String → kz_M → Prop} {x0 : Nat} {x1 : Nat} {x2 : Nat} {x3 : Nat} {x4 : Nat} {x5 : Int32}  {M : kz_M} {c sl : Nat} (hc : c ≤ mc) (hs : sl ≤ ms) (hX : va_X (G.2.2.2 x0) N xs G.2.2.1 G.2.2.1.heap) (hbs : G.2.2.2 x0 < G.2.2.1.heap.size) (h : vp_in (x5 + 1) N ∧ (∃ mc3 ms3, c + mc3 ≤ mc ∧ sl + ms3 ≤ ms ∧ kz_C G (d + 10) mc3 ms3 mL_longestRun [.ref x1, .int (xs (x5 + 1).toNatClampNeg), .ref x3] M (fun v M1 => ∃ r2 : Int32, v = some (.int r2) ∧ (vp_in (x5 + 1) N ∧ ((∃ fs13, (M1).1 x2 = some (.inl (11, fs13))) ∧ kz_C G (d + 10) 0 0 mX12_longestRun [.ref x2, .int (xs (x5 + 1).toNatClampNeg)] M1 (fun v M4 => ∃ r5 : Int32, v = some (.int r5) ∧ ((∃ fs12, (M4).1 x2 = some (.inl (11, fs12))) ∧ kz_C G (d + 10) 0 0 mX12_thrown [.ref x2] M4 (fun v M7 => ∃ r8 : Int32, v = some (.int r8) ∧ ((r8 = r2 → (¬ r2 = 0 → zL_law_2913 G d mc ms Qr Qx x0 x1 x2 x3 x4 x5 M7 (c + mc3) (sl + ms3)) ∧ (r2 = 0 → ∃ n10 f11, (M7).1 x3 = some (.inr (.long, n10, .inr (.inl f11))) ∧ vp_in (0 : Int32) n10 ∧ (((f11 (0 : Int32).toNatClampNeg) = ((r5 : Int32).toInt64) → zL_law_2913 G d mc ms Qr Qx x0 x1 x2 x3 x4 x5 M7 (c + mc3) (sl + ms3)) ∧ (¬ (f11 (0 : Int32).toNatClampNeg) = ((r5 : Int32).toInt64) → Qr (some (.int 0)) M7)))) ∧ (¬ r8 = r2 → Qr (some (.int 0)) M7))) Qx)) Qx))) Qx)) : zL_law_2129 G d mc ms Qr Qx x0 x1 x2 x3 x4 x5  M c sl := by
  show kz_Z G (d + 11) mc ms mL_law Qr Qx 2129 [(0, .retAddr x0), (1, .ref x1), (2, .ref x2), (3, .ref x3), (4, .ref x4), (5, .int x5)] [] M c sl
  refine kz_aload_n (pc := 2129) 1 (v := .ref x1) (i := 1) rfl rfl rfl dL_law_2129 ?_
  refine kz_aload_n (pc := 2130) 0 (v := .retAddr x0) (i := 0) rfl rfl rfl dL_law_2130 ?_
  refine kz_iload (pc := 2131) 5 (i := 5) rfl dL_law_2131 ?_
  refine kz_iconst (pc := 2133) (v := 1) (by decide) dL_law_2133 ?_
  refine kz_iadd (pc := 2134) dL_law_2134 ?_
  obtain ⟨hi, h⟩ := h
  refine kz_sld (pc := 2135) hX hbs hi dL_law_2135 ?_
  refine kz_aload_n (pc := 2136) 3 (v := .ref x3) (i := 3) rfl rfl rfl dL_law_2136 ?_
  obtain ⟨mc3, ms3, hc3, hs3, h⟩ := h
  refine kz_callSX (pc := 2137) (μ' := mL_longestRun) (d' := d + 10) (mc' := mc3) (ms' := ms3) (As := [.ref x1, .int (xs (x5 + 1).toNatClampNeg), .ref x3]) (st := []) (c := c) (sl := sl) kmL_longestRun kw_1174 (by omega) rfl (Nat.le_of_ble_eq_true rfl) hc3 hs3 dL_law_2137 (fun E M9 hx => kz_Tout rfl hc3 hs3 hx) (kz_Cmono (fun v M1 h => ?_) (fun _ _ h => h) h)
  obtain ⟨r2, rfl, h⟩ := h
  show kz_Z G (d + 11) mc ms mL_law Qr Qx 2140 [(0, .retAddr x0), (1, .ref x1), (2, .ref x2), (3, .ref x3), (4, .ref x4), (5, .int x5)] [.int r2] M1 (c + mc3) (sl + ms3)
  refine kz_istore (pc := 2140) (i := 6) (ls' := [(0, .retAddr x0), (1, .ref x1), (2, .ref x2), (3, .ref x3), (4, .ref x4), (5, .int x5)]) (by decide) rfl dL_law_2140 ?_
  refine kz_aload_n (pc := 2142) 3 (v := .ref x2) (i := 2) rfl rfl rfl dL_law_2142 ?_
  refine kz_aload_n (pc := 2143) 1 (v := .retAddr x0) (i := 0) rfl rfl rfl dL_law_2143 ?_
  refine kz_iload (pc := 2144) 6 (i := 5) rfl dL_law_2144 ?_
  refine kz_iconst (pc := 2146) (v := 1) (by decide) dL_law_2146 ?_
  refine kz_iadd (pc := 2147) dL_law_2147 ?_
  obtain ⟨hi, h⟩ := h
  refine kz_sld (pc := 2148) hX hbs hi dL_law_2148 ?_
  obtain ⟨⟨fs13, he⟩, h⟩ := h
  refine kz_callV (pc := 2149) (μ' := mX12_longestRun) (ci := 11) (q := (RX12, TX12, 32)) (b := x2) (d' := d + 10) (mc' := 0) (ms' := 0) (As := [.int (xs (x5 + 1).toNatClampNeg)]) (st := []) (c := c + mc3) (sl := sl + ms3) kmX12_longestRun kw_1927 (by omega) rfl (Nat.le_of_ble_eq_true rfl) he rfl rfl hc3 hs3 dL_law_2149 (fun E M9 hx => kz_Tout rfl hc3 hs3 hx) (kz_Cmono (fun v M4 h => ?_) (fun _ _ h => h) h)
  obtain ⟨r5, rfl, h⟩ := h
  show kz_Z G (d + 11) mc ms mL_law Qr Qx 2152 [(6, .int r2), (0, .retAddr x0), (1, .ref x1), (2, .ref x2), (3, .ref x3), (4, .ref x4), (5, .int x5)] [.int r5] M4 (c + mc3) (sl + ms3)
  refine kz_istore (pc := 2152) (i := 7) (ls' := [(6, .int r2), (0, .retAddr x0), (1, .ref x1), (2, .ref x2), (3, .ref x3), (4, .ref x4), (5, .int x5)]) (by decide) rfl dL_law_2152 ?_
  refine kz_aload_n (pc := 2154) 4 (v := .ref x2) (i := 2) rfl rfl rfl dL_law_2154 ?_
  obtain ⟨⟨fs12, he⟩, h⟩ := h
  refine kz_callV (pc := 2155) (μ' := mX12_thrown) (ci := 11) (q := (RX12, TX12, 32)) (b := x2) (d' := d + 10) (mc' := 0) (ms' := 0) (As := []) (st := []) (c := c + mc3) (sl := sl + ms3) kmX12_thrown kw_1475 (by omega) rfl (Nat.le_of_ble_eq_true rfl) he rfl rfl hc3 hs3 dL_law_2155 (fun E M9 hx => kz_Tout rfl hc3 hs3 hx) (kz_Cmono (fun v M7 h => ?_) (fun _ _ h => h) h)
  obtain ⟨r8, rfl, h⟩ := h
  show kz_Z G (d + 11) mc ms mL_law Qr Qx 2158 [(7, .int r5), (6, .int r2), (0, .retAddr x0), (1, .ref x1), (2, .ref x2), (3, .ref x3), (4, .ref x4), (5, .int x5)] [.int r8] M7 (c + mc3) (sl + ms3)
  refine kz_iload (pc := 2158) 1 (i := 6) rfl dL_law_2158 ?_
  refine kz_icmp_eq (pc := 2160) (tgt := 2165) (by decide) dL_law_2160 (fun hb => ?_) (fun hb => ?_)
  · replace h := h.1 hb
    refine kz_iload (pc := 2165) 1 (i := 6) rfl dL_law_2165 ?_
    refine kz_if_ne (pc := 2167) (tgt := 2182) (by decide) dL_law_2167 (fun hb => ?_) (fun hb => ?_)
    · replace h := h.1 hb
      refine kz_goto (pc := 2182) (tgt := 2913) (by decide) dL_law_2182 ?_
      refine kz_sub [2, 3, 4, 5, 6, 7] rfl ?_
      exact h
    · replace h := h.2 hb
      refine kz_aload_n (pc := 2170) 5 (v := .ref x3) (i := 3) rfl rfl rfl dL_law_2170 ?_
      refine kz_iconst (pc := 2171) (v := 0) (by decide) dL_law_2171 ?_
      obtain ⟨n10, f11, hM, hi, h⟩ := h
      refine kz_lald (pc := 2172) hM hi dL_law_2172 ?_
      refine kz_iload (pc := 2173) 0 (i := 7) rfl dL_law_2173 ?_
      refine kz_i2l (pc := 2175) dL_law_2175 ?_
      refine kz_lcmp_eq (pc := 2176) (tgt := 2182) (by decide) dL_law_2176 dL_law_2177 (fun hb => ?_) (fun hb => ?_)
      · replace h := h.1 hb
        refine kz_goto (pc := 2182) (tgt := 2913) (by decide) dL_law_2182 ?_
        refine kz_sub [2, 3, 4, 5, 6, 7] rfl ?_
        exact h
      · replace h := h.2 hb
        refine kz_iconst (pc := 2180) (v := 0) (by decide) dL_law_2180 ?_
        exact kz_zret (pc := 2181) (ty := .boolean) rfl (by decide) hc3 hs3 dL_law_2181 h
  · replace h := h.2 hb
    refine kz_iconst (pc := 2163) (v := 0) (by decide) dL_law_2163 ?_
    exact kz_zret (pc := 2164) (ty := .boolean) rfl (by decide) hc3 hs3 dL_law_2164 h
theorem rL_law_2185 {G : kz_G} {N : Nat} {xs : Nat → Int32} {d : Nat} {mc ms : Nat} {Qr : Option Value → kz_M → Prop} {Qx : String → kz_M → Prop} {x0 : Nat} {x1 : Nat} {x2 : Nat} {x3 : Nat} {x4 : Nat} {x5 : Int32}  {M : kz_M} {c sl : Nat} (hc : c ≤ mc) (hs : sl ≤ ms) (hX : va_X (G.2.2.2 x0) N xs G.2.2.1 G.2.2.1.heap) (hbs : G.2.2.2 x0 < G.2.2.1.heap.size) (h : vp_in (x5 + 1) N ∧ (vp_in (x5 + 2) N ∧ (vp_in (x5 + 3) N ∧ (∃ mc3 ms3, c + mc3 ≤ mc ∧ sl + ms3 ≤ ms ∧ kz_C G (d + 10) mc3 ms3 mL_submit [.ref x1, .int (xs (x5 + 1).toNatClampNeg), .int (xs (x5 + 2).toNatClampNeg), .int (xs (x5 + 3).toNatClampNeg), .ref x3] M (fun v M1 => ∃ r2 : Int32, v = some (.int r2) ∧ (vp_in (x5 + 1) N ∧ (vp_in (x5 + 2) N ∧ (vp_in (x5 + 3) N ∧ ((∃ fs13, (M1).1 x2 = some (.inl (11, fs13))) ∧ kz_C G (d + 10) 0 0 mX12_submit [.ref x2, .int (xs (x5 + 1).toNatClampNeg), .int (xs (x5 + 2).toNatClampNeg), .int (xs (x5 + 3).toNatClampNeg)] M1 (fun v M4 => ∃ r5 : Int32, v = some (.int r5) ∧ ((∃ fs12, (M4).1 x2 = some (.inl (11, fs12))) ∧ kz_C G (d + 10) 0 0 mX12_thrown [.ref x2] M4 (fun v M7 => ∃ r8 : Int32, v = some (.int r8) ∧ ((r8 = r2 → (¬ r2 = 0 → zL_law_2913 G d mc ms Qr Qx x0 x1 x2 x3 x4 x5 M7 (c + mc3) (sl + ms3)) ∧ (r2 = 0 → ∃ n10 f11, (M7).1 x3 = some (.inr (.long, n10, .inr (.inl f11))) ∧ vp_in (0 : Int32) n10 ∧ (((f11 (0 : Int32).toNatClampNeg) = ((r5 : Int32).toInt64) → zL_law_2913 G d mc ms Qr Qx x0 x1 x2 x3 x4 x5 M7 (c + mc3) (sl + ms3)) ∧ (¬ (f11 (0 : Int32).toNatClampNeg) = ((r5 : Int32).toInt64) → Qr (some (.int 0)) M7)))) ∧ (¬ r8 = r2 → Qr (some (.int 0)) M7))) Qx)) Qx))))) Qx)))) : zL_law_2185 G d mc ms Qr Qx x0 x1 x2 x3 x4 x5  M c sl := by
  show kz_Z G (d + 11) mc ms mL_law Qr Qx 2185 [(0, .retAddr x0), (1, .ref x1), (2, .ref x2), (3, .ref x3), (4, .ref x4), (5, .int x5)] [] M c sl
  refine kz_aload_n (pc := 2185) 1 (v := .ref x1) (i := 1) rfl rfl rfl dL_law_2185 ?_
  refine kz_aload_n (pc := 2186) 0 (v := .retAddr x0) (i := 0) rfl rfl rfl dL_law_2186 ?_
  refine kz_iload (pc := 2187) 5 (i := 5) rfl dL_law_2187 ?_
  refine kz_iconst (pc := 2189) (v := 1) (by decide) dL_law_2189 ?_
  refine kz_iadd (pc := 2190) dL_law_2190 ?_
  obtain ⟨hi, h⟩ := h
  refine kz_sld (pc := 2191) hX hbs hi dL_law_2191 ?_
  refine kz_aload_n (pc := 2192) 0 (v := .retAddr x0) (i := 0) rfl rfl rfl dL_law_2192 ?_
  refine kz_iload (pc := 2193) 5 (i := 5) rfl dL_law_2193 ?_
  refine kz_iconst (pc := 2195) (v := 2) (by decide) dL_law_2195 ?_
  refine kz_iadd (pc := 2196) dL_law_2196 ?_
  obtain ⟨hi, h⟩ := h
  refine kz_sld (pc := 2197) hX hbs hi dL_law_2197 ?_
  refine kz_aload_n (pc := 2198) 0 (v := .retAddr x0) (i := 0) rfl rfl rfl dL_law_2198 ?_
  refine kz_iload (pc := 2199) 5 (i := 5) rfl dL_law_2199 ?_
  refine kz_iconst (pc := 2201) (v := 3) (by decide) dL_law_2201 ?_
  refine kz_iadd (pc := 2202) dL_law_2202 ?_
  obtain ⟨hi, h⟩ := h
  refine kz_sld (pc := 2203) hX hbs hi dL_law_2203 ?_
  refine kz_aload_n (pc := 2204) 3 (v := .ref x3) (i := 3) rfl rfl rfl dL_law_2204 ?_
  obtain ⟨mc3, ms3, hc3, hs3, h⟩ := h
  refine kz_callSX (pc := 2205) (μ' := mL_submit) (d' := d + 10) (mc' := mc3) (ms' := ms3) (As := [.ref x1, .int (xs (x5 + 1).toNatClampNeg), .int (xs (x5 + 2).toNatClampNeg), .int (xs (x5 + 3).toNatClampNeg), .ref x3]) (st := []) (c := c) (sl := sl) kmL_submit kw_1186 (by omega) rfl (Nat.le_of_ble_eq_true rfl) hc3 hs3 dL_law_2205 (fun E M9 hx => kz_Tout rfl hc3 hs3 hx) (kz_Cmono (fun v M1 h => ?_) (fun _ _ h => h) h)
  obtain ⟨r2, rfl, h⟩ := h
  show kz_Z G (d + 11) mc ms mL_law Qr Qx 2208 [(0, .retAddr x0), (1, .ref x1), (2, .ref x2), (3, .ref x3), (4, .ref x4), (5, .int x5)] [.int r2] M1 (c + mc3) (sl + ms3)
  refine kz_istore (pc := 2208) (i := 6) (ls' := [(0, .retAddr x0), (1, .ref x1), (2, .ref x2), (3, .ref x3), (4, .ref x4), (5, .int x5)]) (by decide) rfl dL_law_2208 ?_
  refine kz_aload_n (pc := 2210) 3 (v := .ref x2) (i := 2) rfl rfl rfl dL_law_2210 ?_
  refine kz_aload_n (pc := 2211) 1 (v := .retAddr x0) (i := 0) rfl rfl rfl dL_law_2211 ?_
  refine kz_iload (pc := 2212) 6 (i := 5) rfl dL_law_2212 ?_
  refine kz_iconst (pc := 2214) (v := 1) (by decide) dL_law_2214 ?_
  refine kz_iadd (pc := 2215) dL_law_2215 ?_
  obtain ⟨hi, h⟩ := h
  refine kz_sld (pc := 2216) hX hbs hi dL_law_2216 ?_
  refine kz_aload_n (pc := 2217) 1 (v := .retAddr x0) (i := 0) rfl rfl rfl dL_law_2217 ?_
  refine kz_iload (pc := 2218) 6 (i := 5) rfl dL_law_2218 ?_
  refine kz_iconst (pc := 2220) (v := 2) (by decide) dL_law_2220 ?_
  refine kz_iadd (pc := 2221) dL_law_2221 ?_
  obtain ⟨hi, h⟩ := h
  refine kz_sld (pc := 2222) hX hbs hi dL_law_2222 ?_
  refine kz_aload_n (pc := 2223) 1 (v := .retAddr x0) (i := 0) rfl rfl rfl dL_law_2223 ?_
  refine kz_iload (pc := 2224) 6 (i := 5) rfl dL_law_2224 ?_
  refine kz_iconst (pc := 2226) (v := 3) (by decide) dL_law_2226 ?_
  refine kz_iadd (pc := 2227) dL_law_2227 ?_
  obtain ⟨hi, h⟩ := h
  refine kz_sld (pc := 2228) hX hbs hi dL_law_2228 ?_
  obtain ⟨⟨fs13, he⟩, h⟩ := h
  refine kz_callV (pc := 2229) (μ' := mX12_submit) (ci := 11) (q := (RX12, TX12, 32)) (b := x2) (d' := d + 10) (mc' := 0) (ms' := 0) (As := [.int (xs (x5 + 1).toNatClampNeg), .int (xs (x5 + 2).toNatClampNeg), .int (xs (x5 + 3).toNatClampNeg)]) (st := []) (c := c + mc3) (sl := sl + ms3) kmX12_submit kw_1931 (by omega) rfl (Nat.le_of_ble_eq_true rfl) he rfl rfl hc3 hs3 dL_law_2229 (fun E M9 hx => kz_Tout rfl hc3 hs3 hx) (kz_Cmono (fun v M4 h => ?_) (fun _ _ h => h) h)
  obtain ⟨r5, rfl, h⟩ := h
  show kz_Z G (d + 11) mc ms mL_law Qr Qx 2232 [(6, .int r2), (0, .retAddr x0), (1, .ref x1), (2, .ref x2), (3, .ref x3), (4, .ref x4), (5, .int x5)] [.int r5] M4 (c + mc3) (sl + ms3)
  refine kz_istore (pc := 2232) (i := 7) (ls' := [(6, .int r2), (0, .retAddr x0), (1, .ref x1), (2, .ref x2), (3, .ref x3), (4, .ref x4), (5, .int x5)]) (by decide) rfl dL_law_2232 ?_
  refine kz_aload_n (pc := 2234) 4 (v := .ref x2) (i := 2) rfl rfl rfl dL_law_2234 ?_
  obtain ⟨⟨fs12, he⟩, h⟩ := h
  refine kz_callV (pc := 2235) (μ' := mX12_thrown) (ci := 11) (q := (RX12, TX12, 32)) (b := x2) (d' := d + 10) (mc' := 0) (ms' := 0) (As := []) (st := []) (c := c + mc3) (sl := sl + ms3) kmX12_thrown kw_1475 (by omega) rfl (Nat.le_of_ble_eq_true rfl) he rfl rfl hc3 hs3 dL_law_2235 (fun E M9 hx => kz_Tout rfl hc3 hs3 hx) (kz_Cmono (fun v M7 h => ?_) (fun _ _ h => h) h)
  obtain ⟨r8, rfl, h⟩ := h
  show kz_Z G (d + 11) mc ms mL_law Qr Qx 2238 [(7, .int r5), (6, .int r2), (0, .retAddr x0), (1, .ref x1), (2, .ref x2), (3, .ref x3), (4, .ref x4), (5, .int x5)] [.int r8] M7 (c + mc3) (sl + ms3)
  refine kz_iload (pc := 2238) 1 (i := 6) rfl dL_law_2238 ?_
  refine kz_icmp_eq (pc := 2240) (tgt := 2245) (by decide) dL_law_2240 (fun hb => ?_) (fun hb => ?_)
  · replace h := h.1 hb
    refine kz_iload (pc := 2245) 1 (i := 6) rfl dL_law_2245 ?_
    refine kz_if_ne (pc := 2247) (tgt := 2262) (by decide) dL_law_2247 (fun hb => ?_) (fun hb => ?_)
    · replace h := h.1 hb
      refine kz_goto (pc := 2262) (tgt := 2913) (by decide) dL_law_2262 ?_
      refine kz_sub [2, 3, 4, 5, 6, 7] rfl ?_
      exact h
    · replace h := h.2 hb
      refine kz_aload_n (pc := 2250) 5 (v := .ref x3) (i := 3) rfl rfl rfl dL_law_2250 ?_
      refine kz_iconst (pc := 2251) (v := 0) (by decide) dL_law_2251 ?_
      obtain ⟨n10, f11, hM, hi, h⟩ := h
      refine kz_lald (pc := 2252) hM hi dL_law_2252 ?_
      refine kz_iload (pc := 2253) 0 (i := 7) rfl dL_law_2253 ?_
      refine kz_i2l (pc := 2255) dL_law_2255 ?_
      refine kz_lcmp_eq (pc := 2256) (tgt := 2262) (by decide) dL_law_2256 dL_law_2257 (fun hb => ?_) (fun hb => ?_)
      · replace h := h.1 hb
        refine kz_goto (pc := 2262) (tgt := 2913) (by decide) dL_law_2262 ?_
        refine kz_sub [2, 3, 4, 5, 6, 7] rfl ?_
        exact h
      · replace h := h.2 hb
        refine kz_iconst (pc := 2260) (v := 0) (by decide) dL_law_2260 ?_
        exact kz_zret (pc := 2261) (ty := .boolean) rfl (by decide) hc3 hs3 dL_law_2261 h
  · replace h := h.2 hb
    refine kz_iconst (pc := 2243) (v := 0) (by decide) dL_law_2243 ?_
    exact kz_zret (pc := 2244) (ty := .boolean) rfl (by decide) hc3 hs3 dL_law_2244 h
theorem rL_law_2265 {G : kz_G} {N : Nat} {xs : Nat → Int32} {d : Nat} {mc ms : Nat} {Qr : Option Value → kz_M → Prop} {Qx : String → kz_M → Prop} {x0 : Nat} {x1 : Nat} {x2 : Nat} {x3 : Nat} {x4 : Nat} {x5 : Int32}  {M : kz_M} {c sl : Nat} (hc : c ≤ mc) (hs : sl ≤ ms) (hX : va_X (G.2.2.2 x0) N xs G.2.2.1 G.2.2.1.heap) (hbs : G.2.2.2 x0 < G.2.2.1.heap.size) (h : vp_in (x5 + 1) N ∧ (vp_in (x5 + 2) N ∧ (∃ mc3 ms3, c + mc3 ≤ mc ∧ sl + ms3 ≤ ms ∧ kz_C G (d + 10) mc3 ms3 mL_appeal [.ref x1, .int (xs (x5 + 1).toNatClampNeg), .int (xs (x5 + 2).toNatClampNeg), .ref x3] M (fun v M1 => ∃ r2 : Int32, v = some (.int r2) ∧ (vp_in (x5 + 1) N ∧ (vp_in (x5 + 2) N ∧ ((∃ fs13, (M1).1 x2 = some (.inl (11, fs13))) ∧ kz_C G (d + 10) 0 0 mX12_appeal [.ref x2, .int (xs (x5 + 1).toNatClampNeg), .int (xs (x5 + 2).toNatClampNeg)] M1 (fun v M4 => ∃ r5 : Int32, v = some (.int r5) ∧ ((∃ fs12, (M4).1 x2 = some (.inl (11, fs12))) ∧ kz_C G (d + 10) 0 0 mX12_thrown [.ref x2] M4 (fun v M7 => ∃ r8 : Int32, v = some (.int r8) ∧ ((r8 = r2 → (¬ r2 = 0 → zL_law_2913 G d mc ms Qr Qx x0 x1 x2 x3 x4 x5 M7 (c + mc3) (sl + ms3)) ∧ (r2 = 0 → ∃ n10 f11, (M7).1 x3 = some (.inr (.long, n10, .inr (.inl f11))) ∧ vp_in (0 : Int32) n10 ∧ (((f11 (0 : Int32).toNatClampNeg) = ((r5 : Int32).toInt64) → zL_law_2913 G d mc ms Qr Qx x0 x1 x2 x3 x4 x5 M7 (c + mc3) (sl + ms3)) ∧ (¬ (f11 (0 : Int32).toNatClampNeg) = ((r5 : Int32).toInt64) → Qr (some (.int 0)) M7)))) ∧ (¬ r8 = r2 → Qr (some (.int 0)) M7))) Qx)) Qx)))) Qx))) : zL_law_2265 G d mc ms Qr Qx x0 x1 x2 x3 x4 x5  M c sl := by
  show kz_Z G (d + 11) mc ms mL_law Qr Qx 2265 [(0, .retAddr x0), (1, .ref x1), (2, .ref x2), (3, .ref x3), (4, .ref x4), (5, .int x5)] [] M c sl
  refine kz_aload_n (pc := 2265) 1 (v := .ref x1) (i := 1) rfl rfl rfl dL_law_2265 ?_
  refine kz_aload_n (pc := 2266) 0 (v := .retAddr x0) (i := 0) rfl rfl rfl dL_law_2266 ?_
  refine kz_iload (pc := 2267) 5 (i := 5) rfl dL_law_2267 ?_
  refine kz_iconst (pc := 2269) (v := 1) (by decide) dL_law_2269 ?_
  refine kz_iadd (pc := 2270) dL_law_2270 ?_
  obtain ⟨hi, h⟩ := h
  refine kz_sld (pc := 2271) hX hbs hi dL_law_2271 ?_
  refine kz_aload_n (pc := 2272) 0 (v := .retAddr x0) (i := 0) rfl rfl rfl dL_law_2272 ?_
  refine kz_iload (pc := 2273) 5 (i := 5) rfl dL_law_2273 ?_
  refine kz_iconst (pc := 2275) (v := 2) (by decide) dL_law_2275 ?_
  refine kz_iadd (pc := 2276) dL_law_2276 ?_
  obtain ⟨hi, h⟩ := h
  refine kz_sld (pc := 2277) hX hbs hi dL_law_2277 ?_
  refine kz_aload_n (pc := 2278) 3 (v := .ref x3) (i := 3) rfl rfl rfl dL_law_2278 ?_
  obtain ⟨mc3, ms3, hc3, hs3, h⟩ := h
  refine kz_callSX (pc := 2279) (μ' := mL_appeal) (d' := d + 10) (mc' := mc3) (ms' := ms3) (As := [.ref x1, .int (xs (x5 + 1).toNatClampNeg), .int (xs (x5 + 2).toNatClampNeg), .ref x3]) (st := []) (c := c) (sl := sl) kmL_appeal kw_1212 (by omega) rfl (Nat.le_of_ble_eq_true rfl) hc3 hs3 dL_law_2279 (fun E M9 hx => kz_Tout rfl hc3 hs3 hx) (kz_Cmono (fun v M1 h => ?_) (fun _ _ h => h) h)
  obtain ⟨r2, rfl, h⟩ := h
  show kz_Z G (d + 11) mc ms mL_law Qr Qx 2282 [(0, .retAddr x0), (1, .ref x1), (2, .ref x2), (3, .ref x3), (4, .ref x4), (5, .int x5)] [.int r2] M1 (c + mc3) (sl + ms3)
  refine kz_istore (pc := 2282) (i := 6) (ls' := [(0, .retAddr x0), (1, .ref x1), (2, .ref x2), (3, .ref x3), (4, .ref x4), (5, .int x5)]) (by decide) rfl dL_law_2282 ?_
  refine kz_aload_n (pc := 2284) 3 (v := .ref x2) (i := 2) rfl rfl rfl dL_law_2284 ?_
  refine kz_aload_n (pc := 2285) 1 (v := .retAddr x0) (i := 0) rfl rfl rfl dL_law_2285 ?_
  refine kz_iload (pc := 2286) 6 (i := 5) rfl dL_law_2286 ?_
  refine kz_iconst (pc := 2288) (v := 1) (by decide) dL_law_2288 ?_
  refine kz_iadd (pc := 2289) dL_law_2289 ?_
  obtain ⟨hi, h⟩ := h
  refine kz_sld (pc := 2290) hX hbs hi dL_law_2290 ?_
  refine kz_aload_n (pc := 2291) 1 (v := .retAddr x0) (i := 0) rfl rfl rfl dL_law_2291 ?_
  refine kz_iload (pc := 2292) 6 (i := 5) rfl dL_law_2292 ?_
  refine kz_iconst (pc := 2294) (v := 2) (by decide) dL_law_2294 ?_
  refine kz_iadd (pc := 2295) dL_law_2295 ?_
  obtain ⟨hi, h⟩ := h
  refine kz_sld (pc := 2296) hX hbs hi dL_law_2296 ?_
  obtain ⟨⟨fs13, he⟩, h⟩ := h
  refine kz_callV (pc := 2297) (μ' := mX12_appeal) (ci := 11) (q := (RX12, TX12, 32)) (b := x2) (d' := d + 10) (mc' := 0) (ms' := 0) (As := [.int (xs (x5 + 1).toNatClampNeg), .int (xs (x5 + 2).toNatClampNeg)]) (st := []) (c := c + mc3) (sl := sl + ms3) kmX12_appeal kw_1947 (by omega) rfl (Nat.le_of_ble_eq_true rfl) he rfl rfl hc3 hs3 dL_law_2297 (fun E M9 hx => kz_Tout rfl hc3 hs3 hx) (kz_Cmono (fun v M4 h => ?_) (fun _ _ h => h) h)
  obtain ⟨r5, rfl, h⟩ := h
  show kz_Z G (d + 11) mc ms mL_law Qr Qx 2300 [(6, .int r2), (0, .retAddr x0), (1, .ref x1), (2, .ref x2), (3, .ref x3), (4, .ref x4), (5, .int x5)] [.int r5] M4 (c + mc3) (sl + ms3)
  refine kz_istore (pc := 2300) (i := 7) (ls' := [(6, .int r2), (0, .retAddr x0), (1, .ref x1), (2, .ref x2), (3, .ref x3), (4, .ref x4), (5, .int x5)]) (by decide) rfl dL_law_2300 ?_
  refine kz_aload_n (pc := 2302) 4 (v := .ref x2) (i := 2) rfl rfl rfl dL_law_2302 ?_
  obtain ⟨⟨fs12, he⟩, h⟩ := h
  refine kz_callV (pc := 2303) (μ' := mX12_thrown) (ci := 11) (q := (RX12, TX12, 32)) (b := x2) (d' := d + 10) (mc' := 0) (ms' := 0) (As := []) (st := []) (c := c + mc3) (sl := sl + ms3) kmX12_thrown kw_1475 (by omega) rfl (Nat.le_of_ble_eq_true rfl) he rfl rfl hc3 hs3 dL_law_2303 (fun E M9 hx => kz_Tout rfl hc3 hs3 hx) (kz_Cmono (fun v M7 h => ?_) (fun _ _ h => h) h)
  obtain ⟨r8, rfl, h⟩ := h
  show kz_Z G (d + 11) mc ms mL_law Qr Qx 2306 [(7, .int r5), (6, .int r2), (0, .retAddr x0), (1, .ref x1), (2, .ref x2), (3, .ref x3), (4, .ref x4), (5, .int x5)] [.int r8] M7 (c + mc3) (sl + ms3)
  refine kz_iload (pc := 2306) 1 (i := 6) rfl dL_law_2306 ?_
  refine kz_icmp_eq (pc := 2308) (tgt := 2313) (by decide) dL_law_2308 (fun hb => ?_) (fun hb => ?_)
  · replace h := h.1 hb
    refine kz_iload (pc := 2313) 1 (i := 6) rfl dL_law_2313 ?_
    refine kz_if_ne (pc := 2315) (tgt := 2330) (by decide) dL_law_2315 (fun hb => ?_) (fun hb => ?_)
    · replace h := h.1 hb
      refine kz_goto (pc := 2330) (tgt := 2913) (by decide) dL_law_2330 ?_
      refine kz_sub [2, 3, 4, 5, 6, 7] rfl ?_
      exact h
    · replace h := h.2 hb
      refine kz_aload_n (pc := 2318) 5 (v := .ref x3) (i := 3) rfl rfl rfl dL_law_2318 ?_
      refine kz_iconst (pc := 2319) (v := 0) (by decide) dL_law_2319 ?_
      obtain ⟨n10, f11, hM, hi, h⟩ := h
      refine kz_lald (pc := 2320) hM hi dL_law_2320 ?_
      refine kz_iload (pc := 2321) 0 (i := 7) rfl dL_law_2321 ?_
      refine kz_i2l (pc := 2323) dL_law_2323 ?_
      refine kz_lcmp_eq (pc := 2324) (tgt := 2330) (by decide) dL_law_2324 dL_law_2325 (fun hb => ?_) (fun hb => ?_)
      · replace h := h.1 hb
        refine kz_goto (pc := 2330) (tgt := 2913) (by decide) dL_law_2330 ?_
        refine kz_sub [2, 3, 4, 5, 6, 7] rfl ?_
        exact h
      · replace h := h.2 hb
        refine kz_iconst (pc := 2328) (v := 0) (by decide) dL_law_2328 ?_
        exact kz_zret (pc := 2329) (ty := .boolean) rfl (by decide) hc3 hs3 dL_law_2329 h
  · replace h := h.2 hb
    refine kz_iconst (pc := 2311) (v := 0) (by decide) dL_law_2311 ?_
    exact kz_zret (pc := 2312) (ty := .boolean) rfl (by decide) hc3 hs3 dL_law_2312 h
theorem rL_law_2333 {G : kz_G} {N : Nat} {xs : Nat → Int32} {d : Nat} {mc ms : Nat} {Qr : Option Value → kz_M → Prop} {Qx : String → kz_M → Prop} {x0 : Nat} {x1 : Nat} {x2 : Nat} {x3 : Nat} {x4 : Nat} {x5 : Int32}  {M : kz_M} {c sl : Nat} (hc : c ≤ mc) (hs : sl ≤ ms) (hX : va_X (G.2.2.2 x0) N xs G.2.2.1 G.2.2.1.heap) (hbs : G.2.2.2 x0 < G.2.2.1.heap.size) (h : vp_in (x5 + 1) N ∧ (∃ mc3 ms3, c + mc3 ≤ mc ∧ sl + ms3 ≤ ms ∧ kz_C G (d + 10) mc3 ms3 mL_payOut [.ref x1, .int (xs (x5 + 1).toNatClampNeg), .ref x3] M (fun v M1 => ∃ r2 : Int32, v = some (.int r2) ∧ (vp_in (x5 + 1) N ∧ ((∃ fs13, (M1).1 x2 = some (.inl (11, fs13))) ∧ kz_C G (d + 10) 0 0 mX12_payOut [.ref x2, .int (xs (x5 + 1).toNatClampNeg)] M1 (fun v M4 => ∃ r5 : Int32, v = some (.int r5) ∧ ((∃ fs12, (M4).1 x2 = some (.inl (11, fs12))) ∧ kz_C G (d + 10) 0 0 mX12_thrown [.ref x2] M4 (fun v M7 => ∃ r8 : Int32, v = some (.int r8) ∧ ((r8 = r2 → (¬ r2 = 0 → zL_law_2913 G d mc ms Qr Qx x0 x1 x2 x3 x4 x5 M7 (c + mc3) (sl + ms3)) ∧ (r2 = 0 → ∃ n10 f11, (M7).1 x3 = some (.inr (.long, n10, .inr (.inl f11))) ∧ vp_in (0 : Int32) n10 ∧ (((f11 (0 : Int32).toNatClampNeg) = ((r5 : Int32).toInt64) → zL_law_2913 G d mc ms Qr Qx x0 x1 x2 x3 x4 x5 M7 (c + mc3) (sl + ms3)) ∧ (¬ (f11 (0 : Int32).toNatClampNeg) = ((r5 : Int32).toInt64) → Qr (some (.int 0)) M7)))) ∧ (¬ r8 = r2 → Qr (some (.int 0)) M7))) Qx)) Qx))) Qx)) : zL_law_2333 G d mc ms Qr Qx x0 x1 x2 x3 x4 x5  M c sl := by
  show kz_Z G (d + 11) mc ms mL_law Qr Qx 2333 [(0, .retAddr x0), (1, .ref x1), (2, .ref x2), (3, .ref x3), (4, .ref x4), (5, .int x5)] [] M c sl
  refine kz_aload_n (pc := 2333) 1 (v := .ref x1) (i := 1) rfl rfl rfl dL_law_2333 ?_
  refine kz_aload_n (pc := 2334) 0 (v := .retAddr x0) (i := 0) rfl rfl rfl dL_law_2334 ?_
  refine kz_iload (pc := 2335) 5 (i := 5) rfl dL_law_2335 ?_
  refine kz_iconst (pc := 2337) (v := 1) (by decide) dL_law_2337 ?_
  refine kz_iadd (pc := 2338) dL_law_2338 ?_
  obtain ⟨hi, h⟩ := h
  refine kz_sld (pc := 2339) hX hbs hi dL_law_2339 ?_
  refine kz_aload_n (pc := 2340) 3 (v := .ref x3) (i := 3) rfl rfl rfl dL_law_2340 ?_
  obtain ⟨mc3, ms3, hc3, hs3, h⟩ := h
  refine kz_callSX (pc := 2341) (μ' := mL_payOut) (d' := d + 10) (mc' := mc3) (ms' := ms3) (As := [.ref x1, .int (xs (x5 + 1).toNatClampNeg), .ref x3]) (st := []) (c := c) (sl := sl) kmL_payOut kw_1242 (by omega) rfl (Nat.le_of_ble_eq_true rfl) hc3 hs3 dL_law_2341 (fun E M9 hx => kz_Tout rfl hc3 hs3 hx) (kz_Cmono (fun v M1 h => ?_) (fun _ _ h => h) h)
  obtain ⟨r2, rfl, h⟩ := h
  show kz_Z G (d + 11) mc ms mL_law Qr Qx 2344 [(0, .retAddr x0), (1, .ref x1), (2, .ref x2), (3, .ref x3), (4, .ref x4), (5, .int x5)] [.int r2] M1 (c + mc3) (sl + ms3)
  refine kz_istore (pc := 2344) (i := 6) (ls' := [(0, .retAddr x0), (1, .ref x1), (2, .ref x2), (3, .ref x3), (4, .ref x4), (5, .int x5)]) (by decide) rfl dL_law_2344 ?_
  refine kz_aload_n (pc := 2346) 3 (v := .ref x2) (i := 2) rfl rfl rfl dL_law_2346 ?_
  refine kz_aload_n (pc := 2347) 1 (v := .retAddr x0) (i := 0) rfl rfl rfl dL_law_2347 ?_
  refine kz_iload (pc := 2348) 6 (i := 5) rfl dL_law_2348 ?_
  refine kz_iconst (pc := 2350) (v := 1) (by decide) dL_law_2350 ?_
  refine kz_iadd (pc := 2351) dL_law_2351 ?_
  obtain ⟨hi, h⟩ := h
  refine kz_sld (pc := 2352) hX hbs hi dL_law_2352 ?_
  obtain ⟨⟨fs13, he⟩, h⟩ := h
  refine kz_callV (pc := 2353) (μ' := mX12_payOut) (ci := 11) (q := (RX12, TX12, 32)) (b := x2) (d' := d + 10) (mc' := 0) (ms' := 0) (As := [.int (xs (x5 + 1).toNatClampNeg)]) (st := []) (c := c + mc3) (sl := sl + ms3) kmX12_payOut kw_1955 (by omega) rfl (Nat.le_of_ble_eq_true rfl) he rfl rfl hc3 hs3 dL_law_2353 (fun E M9 hx => kz_Tout rfl hc3 hs3 hx) (kz_Cmono (fun v M4 h => ?_) (fun _ _ h => h) h)
  obtain ⟨r5, rfl, h⟩ := h
  show kz_Z G (d + 11) mc ms mL_law Qr Qx 2356 [(6, .int r2), (0, .retAddr x0), (1, .ref x1), (2, .ref x2), (3, .ref x3), (4, .ref x4), (5, .int x5)] [.int r5] M4 (c + mc3) (sl + ms3)
  refine kz_istore (pc := 2356) (i := 7) (ls' := [(6, .int r2), (0, .retAddr x0), (1, .ref x1), (2, .ref x2), (3, .ref x3), (4, .ref x4), (5, .int x5)]) (by decide) rfl dL_law_2356 ?_
  refine kz_aload_n (pc := 2358) 4 (v := .ref x2) (i := 2) rfl rfl rfl dL_law_2358 ?_
  obtain ⟨⟨fs12, he⟩, h⟩ := h
  refine kz_callV (pc := 2359) (μ' := mX12_thrown) (ci := 11) (q := (RX12, TX12, 32)) (b := x2) (d' := d + 10) (mc' := 0) (ms' := 0) (As := []) (st := []) (c := c + mc3) (sl := sl + ms3) kmX12_thrown kw_1475 (by omega) rfl (Nat.le_of_ble_eq_true rfl) he rfl rfl hc3 hs3 dL_law_2359 (fun E M9 hx => kz_Tout rfl hc3 hs3 hx) (kz_Cmono (fun v M7 h => ?_) (fun _ _ h => h) h)
  obtain ⟨r8, rfl, h⟩ := h
  show kz_Z G (d + 11) mc ms mL_law Qr Qx 2362 [(7, .int r5), (6, .int r2), (0, .retAddr x0), (1, .ref x1), (2, .ref x2), (3, .ref x3), (4, .ref x4), (5, .int x5)] [.int r8] M7 (c + mc3) (sl + ms3)
  refine kz_iload (pc := 2362) 1 (i := 6) rfl dL_law_2362 ?_
  refine kz_icmp_eq (pc := 2364) (tgt := 2369) (by decide) dL_law_2364 (fun hb => ?_) (fun hb => ?_)
  · replace h := h.1 hb
    refine kz_iload (pc := 2369) 1 (i := 6) rfl dL_law_2369 ?_
    refine kz_if_ne (pc := 2371) (tgt := 2386) (by decide) dL_law_2371 (fun hb => ?_) (fun hb => ?_)
    · replace h := h.1 hb
      refine kz_goto (pc := 2386) (tgt := 2913) (by decide) dL_law_2386 ?_
      refine kz_sub [2, 3, 4, 5, 6, 7] rfl ?_
      exact h
    · replace h := h.2 hb
      refine kz_aload_n (pc := 2374) 5 (v := .ref x3) (i := 3) rfl rfl rfl dL_law_2374 ?_
      refine kz_iconst (pc := 2375) (v := 0) (by decide) dL_law_2375 ?_
      obtain ⟨n10, f11, hM, hi, h⟩ := h
      refine kz_lald (pc := 2376) hM hi dL_law_2376 ?_
      refine kz_iload (pc := 2377) 0 (i := 7) rfl dL_law_2377 ?_
      refine kz_i2l (pc := 2379) dL_law_2379 ?_
      refine kz_lcmp_eq (pc := 2380) (tgt := 2386) (by decide) dL_law_2380 dL_law_2381 (fun hb => ?_) (fun hb => ?_)
      · replace h := h.1 hb
        refine kz_goto (pc := 2386) (tgt := 2913) (by decide) dL_law_2386 ?_
        refine kz_sub [2, 3, 4, 5, 6, 7] rfl ?_
        exact h
      · replace h := h.2 hb
        refine kz_iconst (pc := 2384) (v := 0) (by decide) dL_law_2384 ?_
        exact kz_zret (pc := 2385) (ty := .boolean) rfl (by decide) hc3 hs3 dL_law_2385 h
  · replace h := h.2 hb
    refine kz_iconst (pc := 2367) (v := 0) (by decide) dL_law_2367 ?_
    exact kz_zret (pc := 2368) (ty := .boolean) rfl (by decide) hc3 hs3 dL_law_2368 h
theorem rL_law_2389 {G : kz_G} {N : Nat} {xs : Nat → Int32} {d : Nat} {mc ms : Nat} {Qr : Option Value → kz_M → Prop} {Qx : String → kz_M → Prop} {x0 : Nat} {x1 : Nat} {x2 : Nat} {x3 : Nat} {x4 : Nat} {x5 : Int32}  {M : kz_M} {c sl : Nat} (hc : c ≤ mc) (hs : sl ≤ ms) (hX : va_X (G.2.2.2 x0) N xs G.2.2.1 G.2.2.1.heap) (hbs : G.2.2.2 x0 < G.2.2.1.heap.size) (h : vp_in (x5 + 1) N ∧ (vp_in (x5 + 2) N ∧ (∃ mc3 ms3, c + mc3 ≤ mc ∧ sl + ms3 ≤ ms ∧ kz_C G (d + 10) mc3 ms3 mL_advance [.ref x1, .int (xs (x5 + 1).toNatClampNeg), .int (xs (x5 + 2).toNatClampNeg), .ref x3] M (fun v M1 => ∃ r2 : Int32, v = some (.int r2) ∧ (vp_in (x5 + 1) N ∧ (vp_in (x5 + 2) N ∧ ((∃ fs13, (M1).1 x2 = some (.inl (11, fs13))) ∧ kz_C G (d + 10) 0 0 mX12_advance [.ref x2, .int (xs (x5 + 1).toNatClampNeg), .int (xs (x5 + 2).toNatClampNeg)] M1 (fun v M4 => ∃ r5 : Int32, v = some (.int r5) ∧ ((∃ fs12, (M4).1 x2 = some (.inl (11, fs12))) ∧ kz_C G (d + 10) 0 0 mX12_thrown [.ref x2] M4 (fun v M7 => ∃ r8 : Int32, v = some (.int r8) ∧ ((r8 = r2 → (¬ r2 = 0 → zL_law_2913 G d mc ms Qr Qx x0 x1 x2 x3 x4 x5 M7 (c + mc3) (sl + ms3)) ∧ (r2 = 0 → ∃ n10 f11, (M7).1 x3 = some (.inr (.long, n10, .inr (.inl f11))) ∧ vp_in (0 : Int32) n10 ∧ (((f11 (0 : Int32).toNatClampNeg) = ((r5 : Int32).toInt64) → zL_law_2913 G d mc ms Qr Qx x0 x1 x2 x3 x4 x5 M7 (c + mc3) (sl + ms3)) ∧ (¬ (f11 (0 : Int32).toNatClampNeg) = ((r5 : Int32).toInt64) → Qr (some (.int 0)) M7)))) ∧ (¬ r8 = r2 → Qr (some (.int 0)) M7))) Qx)) Qx)))) Qx))) : zL_law_2389 G d mc ms Qr Qx x0 x1 x2 x3 x4 x5  M c sl := by
  show kz_Z G (d + 11) mc ms mL_law Qr Qx 2389 [(0, .retAddr x0), (1, .ref x1), (2, .ref x2), (3, .ref x3), (4, .ref x4), (5, .int x5)] [] M c sl
  refine kz_aload_n (pc := 2389) 1 (v := .ref x1) (i := 1) rfl rfl rfl dL_law_2389 ?_
  refine kz_aload_n (pc := 2390) 0 (v := .retAddr x0) (i := 0) rfl rfl rfl dL_law_2390 ?_
  refine kz_iload (pc := 2391) 5 (i := 5) rfl dL_law_2391 ?_
  refine kz_iconst (pc := 2393) (v := 1) (by decide) dL_law_2393 ?_
  refine kz_iadd (pc := 2394) dL_law_2394 ?_
  obtain ⟨hi, h⟩ := h
  refine kz_sld (pc := 2395) hX hbs hi dL_law_2395 ?_
  refine kz_aload_n (pc := 2396) 0 (v := .retAddr x0) (i := 0) rfl rfl rfl dL_law_2396 ?_
  refine kz_iload (pc := 2397) 5 (i := 5) rfl dL_law_2397 ?_
  refine kz_iconst (pc := 2399) (v := 2) (by decide) dL_law_2399 ?_
  refine kz_iadd (pc := 2400) dL_law_2400 ?_
  obtain ⟨hi, h⟩ := h
  refine kz_sld (pc := 2401) hX hbs hi dL_law_2401 ?_
  refine kz_aload_n (pc := 2402) 3 (v := .ref x3) (i := 3) rfl rfl rfl dL_law_2402 ?_
  obtain ⟨mc3, ms3, hc3, hs3, h⟩ := h
  refine kz_callSX (pc := 2403) (μ' := mL_advance) (d' := d + 10) (mc' := mc3) (ms' := ms3) (As := [.ref x1, .int (xs (x5 + 1).toNatClampNeg), .int (xs (x5 + 2).toNatClampNeg), .ref x3]) (st := []) (c := c) (sl := sl) kmL_advance kw_1257 (by omega) rfl (Nat.le_of_ble_eq_true rfl) hc3 hs3 dL_law_2403 (fun E M9 hx => kz_Tout rfl hc3 hs3 hx) (kz_Cmono (fun v M1 h => ?_) (fun _ _ h => h) h)
  obtain ⟨r2, rfl, h⟩ := h
  show kz_Z G (d + 11) mc ms mL_law Qr Qx 2406 [(0, .retAddr x0), (1, .ref x1), (2, .ref x2), (3, .ref x3), (4, .ref x4), (5, .int x5)] [.int r2] M1 (c + mc3) (sl + ms3)
  refine kz_istore (pc := 2406) (i := 6) (ls' := [(0, .retAddr x0), (1, .ref x1), (2, .ref x2), (3, .ref x3), (4, .ref x4), (5, .int x5)]) (by decide) rfl dL_law_2406 ?_
  refine kz_aload_n (pc := 2408) 3 (v := .ref x2) (i := 2) rfl rfl rfl dL_law_2408 ?_
  refine kz_aload_n (pc := 2409) 1 (v := .retAddr x0) (i := 0) rfl rfl rfl dL_law_2409 ?_
  refine kz_iload (pc := 2410) 6 (i := 5) rfl dL_law_2410 ?_
  refine kz_iconst (pc := 2412) (v := 1) (by decide) dL_law_2412 ?_
  refine kz_iadd (pc := 2413) dL_law_2413 ?_
  obtain ⟨hi, h⟩ := h
  refine kz_sld (pc := 2414) hX hbs hi dL_law_2414 ?_
  refine kz_aload_n (pc := 2415) 1 (v := .retAddr x0) (i := 0) rfl rfl rfl dL_law_2415 ?_
  refine kz_iload (pc := 2416) 6 (i := 5) rfl dL_law_2416 ?_
  refine kz_iconst (pc := 2418) (v := 2) (by decide) dL_law_2418 ?_
  refine kz_iadd (pc := 2419) dL_law_2419 ?_
  obtain ⟨hi, h⟩ := h
  refine kz_sld (pc := 2420) hX hbs hi dL_law_2420 ?_
  obtain ⟨⟨fs13, he⟩, h⟩ := h
  refine kz_callV (pc := 2421) (μ' := mX12_advance) (ci := 11) (q := (RX12, TX12, 32)) (b := x2) (d' := d + 10) (mc' := 0) (ms' := 0) (As := [.int (xs (x5 + 1).toNatClampNeg), .int (xs (x5 + 2).toNatClampNeg)]) (st := []) (c := c + mc3) (sl := sl + ms3) kmX12_advance kw_1963 (by omega) rfl (Nat.le_of_ble_eq_true rfl) he rfl rfl hc3 hs3 dL_law_2421 (fun E M9 hx => kz_Tout rfl hc3 hs3 hx) (kz_Cmono (fun v M4 h => ?_) (fun _ _ h => h) h)
  obtain ⟨r5, rfl, h⟩ := h
  show kz_Z G (d + 11) mc ms mL_law Qr Qx 2424 [(6, .int r2), (0, .retAddr x0), (1, .ref x1), (2, .ref x2), (3, .ref x3), (4, .ref x4), (5, .int x5)] [.int r5] M4 (c + mc3) (sl + ms3)
  refine kz_istore (pc := 2424) (i := 7) (ls' := [(6, .int r2), (0, .retAddr x0), (1, .ref x1), (2, .ref x2), (3, .ref x3), (4, .ref x4), (5, .int x5)]) (by decide) rfl dL_law_2424 ?_
  refine kz_aload_n (pc := 2426) 4 (v := .ref x2) (i := 2) rfl rfl rfl dL_law_2426 ?_
  obtain ⟨⟨fs12, he⟩, h⟩ := h
  refine kz_callV (pc := 2427) (μ' := mX12_thrown) (ci := 11) (q := (RX12, TX12, 32)) (b := x2) (d' := d + 10) (mc' := 0) (ms' := 0) (As := []) (st := []) (c := c + mc3) (sl := sl + ms3) kmX12_thrown kw_1475 (by omega) rfl (Nat.le_of_ble_eq_true rfl) he rfl rfl hc3 hs3 dL_law_2427 (fun E M9 hx => kz_Tout rfl hc3 hs3 hx) (kz_Cmono (fun v M7 h => ?_) (fun _ _ h => h) h)
  obtain ⟨r8, rfl, h⟩ := h
  show kz_Z G (d + 11) mc ms mL_law Qr Qx 2430 [(7, .int r5), (6, .int r2), (0, .retAddr x0), (1, .ref x1), (2, .ref x2), (3, .ref x3), (4, .ref x4), (5, .int x5)] [.int r8] M7 (c + mc3) (sl + ms3)
  refine kz_iload (pc := 2430) 1 (i := 6) rfl dL_law_2430 ?_
  refine kz_icmp_eq (pc := 2432) (tgt := 2437) (by decide) dL_law_2432 (fun hb => ?_) (fun hb => ?_)
  · replace h := h.1 hb
    refine kz_iload (pc := 2437) 1 (i := 6) rfl dL_law_2437 ?_
    refine kz_if_ne (pc := 2439) (tgt := 2454) (by decide) dL_law_2439 (fun hb => ?_) (fun hb => ?_)
    · replace h := h.1 hb
      refine kz_goto (pc := 2454) (tgt := 2913) (by decide) dL_law_2454 ?_
      refine kz_sub [2, 3, 4, 5, 6, 7] rfl ?_
      exact h
    · replace h := h.2 hb
      refine kz_aload_n (pc := 2442) 5 (v := .ref x3) (i := 3) rfl rfl rfl dL_law_2442 ?_
      refine kz_iconst (pc := 2443) (v := 0) (by decide) dL_law_2443 ?_
      obtain ⟨n10, f11, hM, hi, h⟩ := h
      refine kz_lald (pc := 2444) hM hi dL_law_2444 ?_
      refine kz_iload (pc := 2445) 0 (i := 7) rfl dL_law_2445 ?_
      refine kz_i2l (pc := 2447) dL_law_2447 ?_
      refine kz_lcmp_eq (pc := 2448) (tgt := 2454) (by decide) dL_law_2448 dL_law_2449 (fun hb => ?_) (fun hb => ?_)
      · replace h := h.1 hb
        refine kz_goto (pc := 2454) (tgt := 2913) (by decide) dL_law_2454 ?_
        refine kz_sub [2, 3, 4, 5, 6, 7] rfl ?_
        exact h
      · replace h := h.2 hb
        refine kz_iconst (pc := 2452) (v := 0) (by decide) dL_law_2452 ?_
        exact kz_zret (pc := 2453) (ty := .boolean) rfl (by decide) hc3 hs3 dL_law_2453 h
  · replace h := h.2 hb
    refine kz_iconst (pc := 2435) (v := 0) (by decide) dL_law_2435 ?_
    exact kz_zret (pc := 2436) (ty := .boolean) rfl (by decide) hc3 hs3 dL_law_2436 h
theorem rL_law_2457 {G : kz_G} {N : Nat} {xs : Nat → Int32} {d : Nat} {mc ms : Nat} {Qr : Option Value → kz_M → Prop} {Qx : String → kz_M → Prop} {x0 : Nat} {x1 : Nat} {x2 : Nat} {x3 : Nat} {x4 : Nat} {x5 : Int32}  {M : kz_M} {c sl : Nat} (hc : c ≤ mc) (hs : sl ≤ ms) (hX : va_X (G.2.2.2 x0) N xs G.2.2.1 G.2.2.1.heap) (hbs : G.2.2.2 x0 < G.2.2.1.heap.size) (h : (∃ fs8, (M).1 x1 = some (.inl (10, fs8))) ∧ kz_C G (d + 10) 0 0 mX11_addWriter [.ref x1] M (fun v M1 => ∃ r2 : Int32, v = some (.int r2) ∧ ((∃ fs7, (M1).1 x2 = some (.inl (11, fs7))) ∧ kz_C G (d + 10) 0 0 mX12_addWriter [.ref x2] M1 (fun v M4 => ∃ r5 : Int32, v = some (.int r5) ∧ ((r2 = r5 → zL_law_2913 G d mc ms Qr Qx x0 x1 x2 x3 x4 x5 M4 c sl) ∧ (¬ r2 = r5 → Qr (some (.int 0)) M4))) Qx)) Qx) : zL_law_2457 G d mc ms Qr Qx x0 x1 x2 x3 x4 x5  M c sl := by
  show kz_Z G (d + 11) mc ms mL_law Qr Qx 2457 [(0, .retAddr x0), (1, .ref x1), (2, .ref x2), (3, .ref x3), (4, .ref x4), (5, .int x5)] [] M c sl
  refine kz_aload_n (pc := 2457) 1 (v := .ref x1) (i := 1) rfl rfl rfl dL_law_2457 ?_
  obtain ⟨⟨fs8, he⟩, h⟩ := h
  refine kz_callV (pc := 2458) (μ' := mX11_addWriter) (ci := 10) (q := (RX11, TX11, 10)) (b := x1) (d' := d + 10) (mc' := 0) (ms' := 0) (As := []) (st := []) (c := c) (sl := sl) kmX11_addWriter kw_451 (by omega) rfl (Nat.le_of_ble_eq_true rfl) he rfl rfl hc hs dL_law_2458 (fun E M9 hx => kz_Tout rfl hc hs hx) (kz_Cmono (fun v M1 h => ?_) (fun _ _ h => h) h)
  obtain ⟨r2, rfl, h⟩ := h
  show kz_Z G (d + 11) mc ms mL_law Qr Qx 2461 [(0, .retAddr x0), (1, .ref x1), (2, .ref x2), (3, .ref x3), (4, .ref x4), (5, .int x5)] [.int r2] M1 c sl
  refine kz_aload_n (pc := 2461) 2 (v := .ref x2) (i := 2) rfl rfl rfl dL_law_2461 ?_
  obtain ⟨⟨fs7, he⟩, h⟩ := h
  refine kz_callV (pc := 2462) (μ' := mX12_addWriter) (ci := 11) (q := (RX12, TX12, 32)) (b := x2) (d' := d + 10) (mc' := 0) (ms' := 0) (As := []) (st := [.int r2]) (c := c) (sl := sl) kmX12_addWriter kw_1967 (by omega) rfl (Nat.le_of_ble_eq_true rfl) he rfl rfl hc hs dL_law_2462 (fun E M9 hx => kz_Tout rfl hc hs hx) (kz_Cmono (fun v M4 h => ?_) (fun _ _ h => h) h)
  obtain ⟨r5, rfl, h⟩ := h
  show kz_Z G (d + 11) mc ms mL_law Qr Qx 2465 [(0, .retAddr x0), (1, .ref x1), (2, .ref x2), (3, .ref x3), (4, .ref x4), (5, .int x5)] [.int r5, .int r2] M4 c sl
  refine kz_icmp_eq (pc := 2465) (tgt := 2913) (by decide) dL_law_2465 (fun hb => ?_) (fun hb => ?_)
  · replace h := h.1 hb
    exact h
  · replace h := h.2 hb
    refine kz_iconst (pc := 2468) (v := 0) (by decide) dL_law_2468 ?_
    exact kz_zret (pc := 2469) (ty := .boolean) rfl (by decide) hc hs dL_law_2469 h
theorem rL_law_2470 {G : kz_G} {N : Nat} {xs : Nat → Int32} {d : Nat} {mc ms : Nat} {Qr : Option Value → kz_M → Prop} {Qx : String → kz_M → Prop} {x0 : Nat} {x1 : Nat} {x2 : Nat} {x3 : Nat} {x4 : Nat} {x5 : Int32}  {M : kz_M} {c sl : Nat} (hc : c ≤ mc) (hs : sl ≤ ms) (hX : va_X (G.2.2.2 x0) N xs G.2.2.1 G.2.2.1.heap) (hbs : G.2.2.2 x0 < G.2.2.1.heap.size) (h : vp_in (x5 + 1) N ∧ (∃ mc3 ms3, c + mc3 ≤ mc ∧ sl + ms3 ≤ ms ∧ kz_C G (d + 10) mc3 ms3 mL_endow [.ref x1, .int (xs (x5 + 1).toNatClampNeg), .ref x3] M (fun v M1 => ∃ r2 : Int32, v = some (.int r2) ∧ (vp_in (x5 + 1) N ∧ ((∃ fs13, (M1).1 x2 = some (.inl (11, fs13))) ∧ kz_C G (d + 10) 0 0 mX12_endow [.ref x2, .int (xs (x5 + 1).toNatClampNeg)] M1 (fun v M4 => ∃ r5 : Int32, v = some (.int r5) ∧ ((∃ fs12, (M4).1 x2 = some (.inl (11, fs12))) ∧ kz_C G (d + 10) 0 0 mX12_thrown [.ref x2] M4 (fun v M7 => ∃ r8 : Int32, v = some (.int r8) ∧ ((r8 = r2 → (¬ r2 = 0 → zL_law_2913 G d mc ms Qr Qx x0 x1 x2 x3 x4 x5 M7 (c + mc3) (sl + ms3)) ∧ (r2 = 0 → ∃ n10 f11, (M7).1 x3 = some (.inr (.long, n10, .inr (.inl f11))) ∧ vp_in (0 : Int32) n10 ∧ (((f11 (0 : Int32).toNatClampNeg) = ((r5 : Int32).toInt64) → zL_law_2913 G d mc ms Qr Qx x0 x1 x2 x3 x4 x5 M7 (c + mc3) (sl + ms3)) ∧ (¬ (f11 (0 : Int32).toNatClampNeg) = ((r5 : Int32).toInt64) → Qr (some (.int 0)) M7)))) ∧ (¬ r8 = r2 → Qr (some (.int 0)) M7))) Qx)) Qx))) Qx)) : zL_law_2470 G d mc ms Qr Qx x0 x1 x2 x3 x4 x5  M c sl := by
  show kz_Z G (d + 11) mc ms mL_law Qr Qx 2470 [(0, .retAddr x0), (1, .ref x1), (2, .ref x2), (3, .ref x3), (4, .ref x4), (5, .int x5)] [] M c sl
  refine kz_aload_n (pc := 2470) 1 (v := .ref x1) (i := 1) rfl rfl rfl dL_law_2470 ?_
  refine kz_aload_n (pc := 2471) 0 (v := .retAddr x0) (i := 0) rfl rfl rfl dL_law_2471 ?_
  refine kz_iload (pc := 2472) 5 (i := 5) rfl dL_law_2472 ?_
  refine kz_iconst (pc := 2474) (v := 1) (by decide) dL_law_2474 ?_
  refine kz_iadd (pc := 2475) dL_law_2475 ?_
  obtain ⟨hi, h⟩ := h
  refine kz_sld (pc := 2476) hX hbs hi dL_law_2476 ?_
  refine kz_aload_n (pc := 2477) 3 (v := .ref x3) (i := 3) rfl rfl rfl dL_law_2477 ?_
  obtain ⟨mc3, ms3, hc3, hs3, h⟩ := h
  refine kz_callSX (pc := 2478) (μ' := mL_endow) (d' := d + 10) (mc' := mc3) (ms' := ms3) (As := [.ref x1, .int (xs (x5 + 1).toNatClampNeg), .ref x3]) (st := []) (c := c) (sl := sl) kmL_endow kw_1282 (by omega) rfl (Nat.le_of_ble_eq_true rfl) hc3 hs3 dL_law_2478 (fun E M9 hx => kz_Tout rfl hc3 hs3 hx) (kz_Cmono (fun v M1 h => ?_) (fun _ _ h => h) h)
  obtain ⟨r2, rfl, h⟩ := h
  show kz_Z G (d + 11) mc ms mL_law Qr Qx 2481 [(0, .retAddr x0), (1, .ref x1), (2, .ref x2), (3, .ref x3), (4, .ref x4), (5, .int x5)] [.int r2] M1 (c + mc3) (sl + ms3)
  refine kz_istore (pc := 2481) (i := 6) (ls' := [(0, .retAddr x0), (1, .ref x1), (2, .ref x2), (3, .ref x3), (4, .ref x4), (5, .int x5)]) (by decide) rfl dL_law_2481 ?_
  refine kz_aload_n (pc := 2483) 3 (v := .ref x2) (i := 2) rfl rfl rfl dL_law_2483 ?_
  refine kz_aload_n (pc := 2484) 1 (v := .retAddr x0) (i := 0) rfl rfl rfl dL_law_2484 ?_
  refine kz_iload (pc := 2485) 6 (i := 5) rfl dL_law_2485 ?_
  refine kz_iconst (pc := 2487) (v := 1) (by decide) dL_law_2487 ?_
  refine kz_iadd (pc := 2488) dL_law_2488 ?_
  obtain ⟨hi, h⟩ := h
  refine kz_sld (pc := 2489) hX hbs hi dL_law_2489 ?_
  obtain ⟨⟨fs13, he⟩, h⟩ := h
  refine kz_callV (pc := 2490) (μ' := mX12_endow) (ci := 11) (q := (RX12, TX12, 32)) (b := x2) (d' := d + 10) (mc' := 0) (ms' := 0) (As := [.int (xs (x5 + 1).toNatClampNeg)]) (st := []) (c := c + mc3) (sl := sl + ms3) kmX12_endow kw_1971 (by omega) rfl (Nat.le_of_ble_eq_true rfl) he rfl rfl hc3 hs3 dL_law_2490 (fun E M9 hx => kz_Tout rfl hc3 hs3 hx) (kz_Cmono (fun v M4 h => ?_) (fun _ _ h => h) h)
  obtain ⟨r5, rfl, h⟩ := h
  show kz_Z G (d + 11) mc ms mL_law Qr Qx 2493 [(6, .int r2), (0, .retAddr x0), (1, .ref x1), (2, .ref x2), (3, .ref x3), (4, .ref x4), (5, .int x5)] [.int r5] M4 (c + mc3) (sl + ms3)
  refine kz_istore (pc := 2493) (i := 7) (ls' := [(6, .int r2), (0, .retAddr x0), (1, .ref x1), (2, .ref x2), (3, .ref x3), (4, .ref x4), (5, .int x5)]) (by decide) rfl dL_law_2493 ?_
  refine kz_aload_n (pc := 2495) 4 (v := .ref x2) (i := 2) rfl rfl rfl dL_law_2495 ?_
  obtain ⟨⟨fs12, he⟩, h⟩ := h
  refine kz_callV (pc := 2496) (μ' := mX12_thrown) (ci := 11) (q := (RX12, TX12, 32)) (b := x2) (d' := d + 10) (mc' := 0) (ms' := 0) (As := []) (st := []) (c := c + mc3) (sl := sl + ms3) kmX12_thrown kw_1475 (by omega) rfl (Nat.le_of_ble_eq_true rfl) he rfl rfl hc3 hs3 dL_law_2496 (fun E M9 hx => kz_Tout rfl hc3 hs3 hx) (kz_Cmono (fun v M7 h => ?_) (fun _ _ h => h) h)
  obtain ⟨r8, rfl, h⟩ := h
  show kz_Z G (d + 11) mc ms mL_law Qr Qx 2499 [(7, .int r5), (6, .int r2), (0, .retAddr x0), (1, .ref x1), (2, .ref x2), (3, .ref x3), (4, .ref x4), (5, .int x5)] [.int r8] M7 (c + mc3) (sl + ms3)
  refine kz_iload (pc := 2499) 1 (i := 6) rfl dL_law_2499 ?_
  refine kz_icmp_eq (pc := 2501) (tgt := 2506) (by decide) dL_law_2501 (fun hb => ?_) (fun hb => ?_)
  · replace h := h.1 hb
    refine kz_iload (pc := 2506) 1 (i := 6) rfl dL_law_2506 ?_
    refine kz_if_ne (pc := 2508) (tgt := 2523) (by decide) dL_law_2508 (fun hb => ?_) (fun hb => ?_)
    · replace h := h.1 hb
      refine kz_goto (pc := 2523) (tgt := 2913) (by decide) dL_law_2523 ?_
      refine kz_sub [2, 3, 4, 5, 6, 7] rfl ?_
      exact h
    · replace h := h.2 hb
      refine kz_aload_n (pc := 2511) 5 (v := .ref x3) (i := 3) rfl rfl rfl dL_law_2511 ?_
      refine kz_iconst (pc := 2512) (v := 0) (by decide) dL_law_2512 ?_
      obtain ⟨n10, f11, hM, hi, h⟩ := h
      refine kz_lald (pc := 2513) hM hi dL_law_2513 ?_
      refine kz_iload (pc := 2514) 0 (i := 7) rfl dL_law_2514 ?_
      refine kz_i2l (pc := 2516) dL_law_2516 ?_
      refine kz_lcmp_eq (pc := 2517) (tgt := 2523) (by decide) dL_law_2517 dL_law_2518 (fun hb => ?_) (fun hb => ?_)
      · replace h := h.1 hb
        refine kz_goto (pc := 2523) (tgt := 2913) (by decide) dL_law_2523 ?_
        refine kz_sub [2, 3, 4, 5, 6, 7] rfl ?_
        exact h
      · replace h := h.2 hb
        refine kz_iconst (pc := 2521) (v := 0) (by decide) dL_law_2521 ?_
        exact kz_zret (pc := 2522) (ty := .boolean) rfl (by decide) hc3 hs3 dL_law_2522 h
  · replace h := h.2 hb
    refine kz_iconst (pc := 2504) (v := 0) (by decide) dL_law_2504 ?_
    exact kz_zret (pc := 2505) (ty := .boolean) rfl (by decide) hc3 hs3 dL_law_2505 h
theorem rL_law_2526 {G : kz_G} {N : Nat} {xs : Nat → Int32} {d : Nat} {mc ms : Nat} {Qr : Option Value → kz_M → Prop} {Qx : String → kz_M → Prop} {x0 : Nat} {x1 : Nat} {x2 : Nat} {x3 : Nat} {x4 : Nat} {x5 : Int32}  {M : kz_M} {c sl : Nat} (hc : c ≤ mc) (hs : sl ≤ ms) (hX : va_X (G.2.2.2 x0) N xs G.2.2.1 G.2.2.1.heap) (hbs : G.2.2.2 x0 < G.2.2.1.heap.size) (h : vp_in (x5 + 1) N ∧ (∃ mc3 ms3, c + mc3 ≤ mc ∧ sl + ms3 ≤ ms ∧ kz_C G (d + 10) mc3 ms3 mL_pass [.ref x1, .int (xs (x5 + 1).toNatClampNeg), .ref x3] M (fun v M1 => ∃ r2 : Int32, v = some (.int r2) ∧ (vp_in (x5 + 1) N ∧ ((∃ fs13, (M1).1 x2 = some (.inl (11, fs13))) ∧ kz_C G (d + 10) 0 0 mX12_pass [.ref x2, .int (xs (x5 + 1).toNatClampNeg)] M1 (fun v M4 => ∃ r5 : Int32, v = some (.int r5) ∧ ((∃ fs12, (M4).1 x2 = some (.inl (11, fs12))) ∧ kz_C G (d + 10) 0 0 mX12_thrown [.ref x2] M4 (fun v M7 => ∃ r8 : Int32, v = some (.int r8) ∧ ((r8 = r2 → (¬ r2 = 0 → zL_law_2913 G d mc ms Qr Qx x0 x1 x2 x3 x4 x5 M7 (c + mc3) (sl + ms3)) ∧ (r2 = 0 → ∃ n10 f11, (M7).1 x3 = some (.inr (.long, n10, .inr (.inl f11))) ∧ vp_in (0 : Int32) n10 ∧ (((f11 (0 : Int32).toNatClampNeg) = ((r5 : Int32).toInt64) → zL_law_2913 G d mc ms Qr Qx x0 x1 x2 x3 x4 x5 M7 (c + mc3) (sl + ms3)) ∧ (¬ (f11 (0 : Int32).toNatClampNeg) = ((r5 : Int32).toInt64) → Qr (some (.int 0)) M7)))) ∧ (¬ r8 = r2 → Qr (some (.int 0)) M7))) Qx)) Qx))) Qx)) : zL_law_2526 G d mc ms Qr Qx x0 x1 x2 x3 x4 x5  M c sl := by
  show kz_Z G (d + 11) mc ms mL_law Qr Qx 2526 [(0, .retAddr x0), (1, .ref x1), (2, .ref x2), (3, .ref x3), (4, .ref x4), (5, .int x5)] [] M c sl
  refine kz_aload_n (pc := 2526) 1 (v := .ref x1) (i := 1) rfl rfl rfl dL_law_2526 ?_
  refine kz_aload_n (pc := 2527) 0 (v := .retAddr x0) (i := 0) rfl rfl rfl dL_law_2527 ?_
  refine kz_iload (pc := 2528) 5 (i := 5) rfl dL_law_2528 ?_
  refine kz_iconst (pc := 2530) (v := 1) (by decide) dL_law_2530 ?_
  refine kz_iadd (pc := 2531) dL_law_2531 ?_
  obtain ⟨hi, h⟩ := h
  refine kz_sld (pc := 2532) hX hbs hi dL_law_2532 ?_
  refine kz_aload_n (pc := 2533) 3 (v := .ref x3) (i := 3) rfl rfl rfl dL_law_2533 ?_
  obtain ⟨mc3, ms3, hc3, hs3, h⟩ := h
  refine kz_callSX (pc := 2534) (μ' := mL_pass) (d' := d + 10) (mc' := mc3) (ms' := ms3) (As := [.ref x1, .int (xs (x5 + 1).toNatClampNeg), .ref x3]) (st := []) (c := c) (sl := sl) kmL_pass kw_1291 (by omega) rfl (Nat.le_of_ble_eq_true rfl) hc3 hs3 dL_law_2534 (fun E M9 hx => kz_Tout rfl hc3 hs3 hx) (kz_Cmono (fun v M1 h => ?_) (fun _ _ h => h) h)
  obtain ⟨r2, rfl, h⟩ := h
  show kz_Z G (d + 11) mc ms mL_law Qr Qx 2537 [(0, .retAddr x0), (1, .ref x1), (2, .ref x2), (3, .ref x3), (4, .ref x4), (5, .int x5)] [.int r2] M1 (c + mc3) (sl + ms3)
  refine kz_istore (pc := 2537) (i := 6) (ls' := [(0, .retAddr x0), (1, .ref x1), (2, .ref x2), (3, .ref x3), (4, .ref x4), (5, .int x5)]) (by decide) rfl dL_law_2537 ?_
  refine kz_aload_n (pc := 2539) 3 (v := .ref x2) (i := 2) rfl rfl rfl dL_law_2539 ?_
  refine kz_aload_n (pc := 2540) 1 (v := .retAddr x0) (i := 0) rfl rfl rfl dL_law_2540 ?_
  refine kz_iload (pc := 2541) 6 (i := 5) rfl dL_law_2541 ?_
  refine kz_iconst (pc := 2543) (v := 1) (by decide) dL_law_2543 ?_
  refine kz_iadd (pc := 2544) dL_law_2544 ?_
  obtain ⟨hi, h⟩ := h
  refine kz_sld (pc := 2545) hX hbs hi dL_law_2545 ?_
  obtain ⟨⟨fs13, he⟩, h⟩ := h
  refine kz_callV (pc := 2546) (μ' := mX12_pass) (ci := 11) (q := (RX12, TX12, 32)) (b := x2) (d' := d + 10) (mc' := 0) (ms' := 0) (As := [.int (xs (x5 + 1).toNatClampNeg)]) (st := []) (c := c + mc3) (sl := sl + ms3) kmX12_pass kw_1975 (by omega) rfl (Nat.le_of_ble_eq_true rfl) he rfl rfl hc3 hs3 dL_law_2546 (fun E M9 hx => kz_Tout rfl hc3 hs3 hx) (kz_Cmono (fun v M4 h => ?_) (fun _ _ h => h) h)
  obtain ⟨r5, rfl, h⟩ := h
  show kz_Z G (d + 11) mc ms mL_law Qr Qx 2549 [(6, .int r2), (0, .retAddr x0), (1, .ref x1), (2, .ref x2), (3, .ref x3), (4, .ref x4), (5, .int x5)] [.int r5] M4 (c + mc3) (sl + ms3)
  refine kz_istore (pc := 2549) (i := 7) (ls' := [(6, .int r2), (0, .retAddr x0), (1, .ref x1), (2, .ref x2), (3, .ref x3), (4, .ref x4), (5, .int x5)]) (by decide) rfl dL_law_2549 ?_
  refine kz_aload_n (pc := 2551) 4 (v := .ref x2) (i := 2) rfl rfl rfl dL_law_2551 ?_
  obtain ⟨⟨fs12, he⟩, h⟩ := h
  refine kz_callV (pc := 2552) (μ' := mX12_thrown) (ci := 11) (q := (RX12, TX12, 32)) (b := x2) (d' := d + 10) (mc' := 0) (ms' := 0) (As := []) (st := []) (c := c + mc3) (sl := sl + ms3) kmX12_thrown kw_1475 (by omega) rfl (Nat.le_of_ble_eq_true rfl) he rfl rfl hc3 hs3 dL_law_2552 (fun E M9 hx => kz_Tout rfl hc3 hs3 hx) (kz_Cmono (fun v M7 h => ?_) (fun _ _ h => h) h)
  obtain ⟨r8, rfl, h⟩ := h
  show kz_Z G (d + 11) mc ms mL_law Qr Qx 2555 [(7, .int r5), (6, .int r2), (0, .retAddr x0), (1, .ref x1), (2, .ref x2), (3, .ref x3), (4, .ref x4), (5, .int x5)] [.int r8] M7 (c + mc3) (sl + ms3)
  refine kz_iload (pc := 2555) 1 (i := 6) rfl dL_law_2555 ?_
  refine kz_icmp_eq (pc := 2557) (tgt := 2562) (by decide) dL_law_2557 (fun hb => ?_) (fun hb => ?_)
  · replace h := h.1 hb
    refine kz_iload (pc := 2562) 1 (i := 6) rfl dL_law_2562 ?_
    refine kz_if_ne (pc := 2564) (tgt := 2579) (by decide) dL_law_2564 (fun hb => ?_) (fun hb => ?_)
    · replace h := h.1 hb
      refine kz_goto (pc := 2579) (tgt := 2913) (by decide) dL_law_2579 ?_
      refine kz_sub [2, 3, 4, 5, 6, 7] rfl ?_
      exact h
    · replace h := h.2 hb
      refine kz_aload_n (pc := 2567) 5 (v := .ref x3) (i := 3) rfl rfl rfl dL_law_2567 ?_
      refine kz_iconst (pc := 2568) (v := 0) (by decide) dL_law_2568 ?_
      obtain ⟨n10, f11, hM, hi, h⟩ := h
      refine kz_lald (pc := 2569) hM hi dL_law_2569 ?_
      refine kz_iload (pc := 2570) 0 (i := 7) rfl dL_law_2570 ?_
      refine kz_i2l (pc := 2572) dL_law_2572 ?_
      refine kz_lcmp_eq (pc := 2573) (tgt := 2579) (by decide) dL_law_2573 dL_law_2574 (fun hb => ?_) (fun hb => ?_)
      · replace h := h.1 hb
        refine kz_goto (pc := 2579) (tgt := 2913) (by decide) dL_law_2579 ?_
        refine kz_sub [2, 3, 4, 5, 6, 7] rfl ?_
        exact h
      · replace h := h.2 hb
        refine kz_iconst (pc := 2577) (v := 0) (by decide) dL_law_2577 ?_
        exact kz_zret (pc := 2578) (ty := .boolean) rfl (by decide) hc3 hs3 dL_law_2578 h
  · replace h := h.2 hb
    refine kz_iconst (pc := 2560) (v := 0) (by decide) dL_law_2560 ?_
    exact kz_zret (pc := 2561) (ty := .boolean) rfl (by decide) hc3 hs3 dL_law_2561 h
theorem rL_law_2582 {G : kz_G} {N : Nat} {xs : Nat → Int32} {d : Nat} {mc ms : Nat} {Qr : Option Value → kz_M → Prop} {Qx : String → kz_M → Prop} {x0 : Nat} {x1 : Nat} {x2 : Nat} {x3 : Nat} {x4 : Nat} {x5 : Int32}  {M : kz_M} {c sl : Nat} (hc : c ≤ mc) (hs : sl ≤ ms) (hX : va_X (G.2.2.2 x0) N xs G.2.2.1 G.2.2.1.heap) (hbs : G.2.2.2 x0 < G.2.2.1.heap.size) (h : vp_in (x5 + 1) N ∧ (vp_in (x5 + 2) N ∧ (∃ mc3 ms3, c + mc3 ≤ mc ∧ sl + ms3 ≤ ms ∧ kz_C G (d + 10) mc3 ms3 mL_set [.ref x1, .int (xs (x5 + 1).toNatClampNeg), .int (xs (x5 + 2).toNatClampNeg), .ref x3] M (fun v M1 => ∃ r2 : Int32, v = some (.int r2) ∧ (vp_in (x5 + 1) N ∧ (vp_in (x5 + 2) N ∧ ((∃ fs13, (M1).1 x2 = some (.inl (11, fs13))) ∧ kz_C G (d + 10) 0 0 mX12_set [.ref x2, .int (xs (x5 + 1).toNatClampNeg), .int (xs (x5 + 2).toNatClampNeg)] M1 (fun v M4 => ∃ r5 : Int32, v = some (.int r5) ∧ ((∃ fs12, (M4).1 x2 = some (.inl (11, fs12))) ∧ kz_C G (d + 10) 0 0 mX12_thrown [.ref x2] M4 (fun v M7 => ∃ r8 : Int32, v = some (.int r8) ∧ ((r8 = r2 → (¬ r2 = 0 → zL_law_2913 G d mc ms Qr Qx x0 x1 x2 x3 x4 x5 M7 (c + mc3) (sl + ms3)) ∧ (r2 = 0 → ∃ n10 f11, (M7).1 x3 = some (.inr (.long, n10, .inr (.inl f11))) ∧ vp_in (0 : Int32) n10 ∧ (((f11 (0 : Int32).toNatClampNeg) = ((r5 : Int32).toInt64) → zL_law_2913 G d mc ms Qr Qx x0 x1 x2 x3 x4 x5 M7 (c + mc3) (sl + ms3)) ∧ (¬ (f11 (0 : Int32).toNatClampNeg) = ((r5 : Int32).toInt64) → Qr (some (.int 0)) M7)))) ∧ (¬ r8 = r2 → Qr (some (.int 0)) M7))) Qx)) Qx)))) Qx))) : zL_law_2582 G d mc ms Qr Qx x0 x1 x2 x3 x4 x5  M c sl := by
  show kz_Z G (d + 11) mc ms mL_law Qr Qx 2582 [(0, .retAddr x0), (1, .ref x1), (2, .ref x2), (3, .ref x3), (4, .ref x4), (5, .int x5)] [] M c sl
  refine kz_aload_n (pc := 2582) 1 (v := .ref x1) (i := 1) rfl rfl rfl dL_law_2582 ?_
  refine kz_aload_n (pc := 2583) 0 (v := .retAddr x0) (i := 0) rfl rfl rfl dL_law_2583 ?_
  refine kz_iload (pc := 2584) 5 (i := 5) rfl dL_law_2584 ?_
  refine kz_iconst (pc := 2586) (v := 1) (by decide) dL_law_2586 ?_
  refine kz_iadd (pc := 2587) dL_law_2587 ?_
  obtain ⟨hi, h⟩ := h
  refine kz_sld (pc := 2588) hX hbs hi dL_law_2588 ?_
  refine kz_aload_n (pc := 2589) 0 (v := .retAddr x0) (i := 0) rfl rfl rfl dL_law_2589 ?_
  refine kz_iload (pc := 2590) 5 (i := 5) rfl dL_law_2590 ?_
  refine kz_iconst (pc := 2592) (v := 2) (by decide) dL_law_2592 ?_
  refine kz_iadd (pc := 2593) dL_law_2593 ?_
  obtain ⟨hi, h⟩ := h
  refine kz_sld (pc := 2594) hX hbs hi dL_law_2594 ?_
  refine kz_aload_n (pc := 2595) 3 (v := .ref x3) (i := 3) rfl rfl rfl dL_law_2595 ?_
  obtain ⟨mc3, ms3, hc3, hs3, h⟩ := h
  refine kz_callSX (pc := 2596) (μ' := mL_set) (d' := d + 10) (mc' := mc3) (ms' := ms3) (As := [.ref x1, .int (xs (x5 + 1).toNatClampNeg), .int (xs (x5 + 2).toNatClampNeg), .ref x3]) (st := []) (c := c) (sl := sl) kmL_set kw_1300 (by omega) rfl (Nat.le_of_ble_eq_true rfl) hc3 hs3 dL_law_2596 (fun E M9 hx => kz_Tout rfl hc3 hs3 hx) (kz_Cmono (fun v M1 h => ?_) (fun _ _ h => h) h)
  obtain ⟨r2, rfl, h⟩ := h
  show kz_Z G (d + 11) mc ms mL_law Qr Qx 2599 [(0, .retAddr x0), (1, .ref x1), (2, .ref x2), (3, .ref x3), (4, .ref x4), (5, .int x5)] [.int r2] M1 (c + mc3) (sl + ms3)
  refine kz_istore (pc := 2599) (i := 6) (ls' := [(0, .retAddr x0), (1, .ref x1), (2, .ref x2), (3, .ref x3), (4, .ref x4), (5, .int x5)]) (by decide) rfl dL_law_2599 ?_
  refine kz_aload_n (pc := 2601) 3 (v := .ref x2) (i := 2) rfl rfl rfl dL_law_2601 ?_
  refine kz_aload_n (pc := 2602) 1 (v := .retAddr x0) (i := 0) rfl rfl rfl dL_law_2602 ?_
  refine kz_iload (pc := 2603) 6 (i := 5) rfl dL_law_2603 ?_
  refine kz_iconst (pc := 2605) (v := 1) (by decide) dL_law_2605 ?_
  refine kz_iadd (pc := 2606) dL_law_2606 ?_
  obtain ⟨hi, h⟩ := h
  refine kz_sld (pc := 2607) hX hbs hi dL_law_2607 ?_
  refine kz_aload_n (pc := 2608) 1 (v := .retAddr x0) (i := 0) rfl rfl rfl dL_law_2608 ?_
  refine kz_iload (pc := 2609) 6 (i := 5) rfl dL_law_2609 ?_
  refine kz_iconst (pc := 2611) (v := 2) (by decide) dL_law_2611 ?_
  refine kz_iadd (pc := 2612) dL_law_2612 ?_
  obtain ⟨hi, h⟩ := h
  refine kz_sld (pc := 2613) hX hbs hi dL_law_2613 ?_
  obtain ⟨⟨fs13, he⟩, h⟩ := h
  refine kz_callV (pc := 2614) (μ' := mX12_set) (ci := 11) (q := (RX12, TX12, 32)) (b := x2) (d' := d + 10) (mc' := 0) (ms' := 0) (As := [.int (xs (x5 + 1).toNatClampNeg), .int (xs (x5 + 2).toNatClampNeg)]) (st := []) (c := c + mc3) (sl := sl + ms3) kmX12_set kw_1979 (by omega) rfl (Nat.le_of_ble_eq_true rfl) he rfl rfl hc3 hs3 dL_law_2614 (fun E M9 hx => kz_Tout rfl hc3 hs3 hx) (kz_Cmono (fun v M4 h => ?_) (fun _ _ h => h) h)
  obtain ⟨r5, rfl, h⟩ := h
  show kz_Z G (d + 11) mc ms mL_law Qr Qx 2617 [(6, .int r2), (0, .retAddr x0), (1, .ref x1), (2, .ref x2), (3, .ref x3), (4, .ref x4), (5, .int x5)] [.int r5] M4 (c + mc3) (sl + ms3)
  refine kz_istore (pc := 2617) (i := 7) (ls' := [(6, .int r2), (0, .retAddr x0), (1, .ref x1), (2, .ref x2), (3, .ref x3), (4, .ref x4), (5, .int x5)]) (by decide) rfl dL_law_2617 ?_
  refine kz_aload_n (pc := 2619) 4 (v := .ref x2) (i := 2) rfl rfl rfl dL_law_2619 ?_
  obtain ⟨⟨fs12, he⟩, h⟩ := h
  refine kz_callV (pc := 2620) (μ' := mX12_thrown) (ci := 11) (q := (RX12, TX12, 32)) (b := x2) (d' := d + 10) (mc' := 0) (ms' := 0) (As := []) (st := []) (c := c + mc3) (sl := sl + ms3) kmX12_thrown kw_1475 (by omega) rfl (Nat.le_of_ble_eq_true rfl) he rfl rfl hc3 hs3 dL_law_2620 (fun E M9 hx => kz_Tout rfl hc3 hs3 hx) (kz_Cmono (fun v M7 h => ?_) (fun _ _ h => h) h)
  obtain ⟨r8, rfl, h⟩ := h
  show kz_Z G (d + 11) mc ms mL_law Qr Qx 2623 [(7, .int r5), (6, .int r2), (0, .retAddr x0), (1, .ref x1), (2, .ref x2), (3, .ref x3), (4, .ref x4), (5, .int x5)] [.int r8] M7 (c + mc3) (sl + ms3)
  refine kz_iload (pc := 2623) 1 (i := 6) rfl dL_law_2623 ?_
  refine kz_icmp_eq (pc := 2625) (tgt := 2630) (by decide) dL_law_2625 (fun hb => ?_) (fun hb => ?_)
  · replace h := h.1 hb
    refine kz_iload (pc := 2630) 1 (i := 6) rfl dL_law_2630 ?_
    refine kz_if_ne (pc := 2632) (tgt := 2647) (by decide) dL_law_2632 (fun hb => ?_) (fun hb => ?_)
    · replace h := h.1 hb
      refine kz_goto (pc := 2647) (tgt := 2913) (by decide) dL_law_2647 ?_
      refine kz_sub [2, 3, 4, 5, 6, 7] rfl ?_
      exact h
    · replace h := h.2 hb
      refine kz_aload_n (pc := 2635) 5 (v := .ref x3) (i := 3) rfl rfl rfl dL_law_2635 ?_
      refine kz_iconst (pc := 2636) (v := 0) (by decide) dL_law_2636 ?_
      obtain ⟨n10, f11, hM, hi, h⟩ := h
      refine kz_lald (pc := 2637) hM hi dL_law_2637 ?_
      refine kz_iload (pc := 2638) 0 (i := 7) rfl dL_law_2638 ?_
      refine kz_i2l (pc := 2640) dL_law_2640 ?_
      refine kz_lcmp_eq (pc := 2641) (tgt := 2647) (by decide) dL_law_2641 dL_law_2642 (fun hb => ?_) (fun hb => ?_)
      · replace h := h.1 hb
        refine kz_goto (pc := 2647) (tgt := 2913) (by decide) dL_law_2647 ?_
        refine kz_sub [2, 3, 4, 5, 6, 7] rfl ?_
        exact h
      · replace h := h.2 hb
        refine kz_iconst (pc := 2645) (v := 0) (by decide) dL_law_2645 ?_
        exact kz_zret (pc := 2646) (ty := .boolean) rfl (by decide) hc3 hs3 dL_law_2646 h
  · replace h := h.2 hb
    refine kz_iconst (pc := 2628) (v := 0) (by decide) dL_law_2628 ?_
    exact kz_zret (pc := 2629) (ty := .boolean) rfl (by decide) hc3 hs3 dL_law_2629 h
theorem rL_law_2650 {G : kz_G} {N : Nat} {xs : Nat → Int32} {d : Nat} {mc ms : Nat} {Qr : Option Value → kz_M → Prop} {Qx : String → kz_M → Prop} {x0 : Nat} {x1 : Nat} {x2 : Nat} {x3 : Nat} {x4 : Nat} {x5 : Int32}  {M : kz_M} {c sl : Nat} (hc : c ≤ mc) (hs : sl ≤ ms) (hX : va_X (G.2.2.2 x0) N xs G.2.2.1 G.2.2.1.heap) (hbs : G.2.2.2 x0 < G.2.2.1.heap.size) (h : ∃ mc3 ms3, c + mc3 ≤ mc ∧ sl + ms3 ≤ ms ∧ kz_C G (d + 10) mc3 ms3 mL_undo [.ref x1, .ref x3] M (fun v M1 => ∃ r2 : Int32, v = some (.int r2) ∧ ((∃ fs13, (M1).1 x2 = some (.inl (11, fs13))) ∧ kz_C G (d + 10) 0 0 mX12_undo [.ref x2] M1 (fun v M4 => ∃ r5 : Int32, v = some (.int r5) ∧ ((∃ fs12, (M4).1 x2 = some (.inl (11, fs12))) ∧ kz_C G (d + 10) 0 0 mX12_thrown [.ref x2] M4 (fun v M7 => ∃ r8 : Int32, v = some (.int r8) ∧ ((r8 = r2 → (¬ r2 = 0 → zL_law_2913 G d mc ms Qr Qx x0 x1 x2 x3 x4 x5 M7 (c + mc3) (sl + ms3)) ∧ (r2 = 0 → ∃ n10 f11, (M7).1 x3 = some (.inr (.long, n10, .inr (.inl f11))) ∧ vp_in (0 : Int32) n10 ∧ (((f11 (0 : Int32).toNatClampNeg) = ((r5 : Int32).toInt64) → zL_law_2913 G d mc ms Qr Qx x0 x1 x2 x3 x4 x5 M7 (c + mc3) (sl + ms3)) ∧ (¬ (f11 (0 : Int32).toNatClampNeg) = ((r5 : Int32).toInt64) → Qr (some (.int 0)) M7)))) ∧ (¬ r8 = r2 → Qr (some (.int 0)) M7))) Qx)) Qx)) Qx) : zL_law_2650 G d mc ms Qr Qx x0 x1 x2 x3 x4 x5  M c sl := by
  show kz_Z G (d + 11) mc ms mL_law Qr Qx 2650 [(0, .retAddr x0), (1, .ref x1), (2, .ref x2), (3, .ref x3), (4, .ref x4), (5, .int x5)] [] M c sl
  refine kz_aload_n (pc := 2650) 1 (v := .ref x1) (i := 1) rfl rfl rfl dL_law_2650 ?_
  refine kz_aload_n (pc := 2651) 3 (v := .ref x3) (i := 3) rfl rfl rfl dL_law_2651 ?_
  obtain ⟨mc3, ms3, hc3, hs3, h⟩ := h
  refine kz_callSX (pc := 2652) (μ' := mL_undo) (d' := d + 10) (mc' := mc3) (ms' := ms3) (As := [.ref x1, .ref x3]) (st := []) (c := c) (sl := sl) kmL_undo kw_1307 (by omega) rfl (Nat.le_of_ble_eq_true rfl) hc3 hs3 dL_law_2652 (fun E M9 hx => kz_Tout rfl hc3 hs3 hx) (kz_Cmono (fun v M1 h => ?_) (fun _ _ h => h) h)
  obtain ⟨r2, rfl, h⟩ := h
  show kz_Z G (d + 11) mc ms mL_law Qr Qx 2655 [(0, .retAddr x0), (1, .ref x1), (2, .ref x2), (3, .ref x3), (4, .ref x4), (5, .int x5)] [.int r2] M1 (c + mc3) (sl + ms3)
  refine kz_istore (pc := 2655) (i := 6) (ls' := [(0, .retAddr x0), (1, .ref x1), (2, .ref x2), (3, .ref x3), (4, .ref x4), (5, .int x5)]) (by decide) rfl dL_law_2655 ?_
  refine kz_aload_n (pc := 2657) 3 (v := .ref x2) (i := 2) rfl rfl rfl dL_law_2657 ?_
  obtain ⟨⟨fs13, he⟩, h⟩ := h
  refine kz_callV (pc := 2658) (μ' := mX12_undo) (ci := 11) (q := (RX12, TX12, 32)) (b := x2) (d' := d + 10) (mc' := 0) (ms' := 0) (As := []) (st := []) (c := c + mc3) (sl := sl + ms3) kmX12_undo kw_1983 (by omega) rfl (Nat.le_of_ble_eq_true rfl) he rfl rfl hc3 hs3 dL_law_2658 (fun E M9 hx => kz_Tout rfl hc3 hs3 hx) (kz_Cmono (fun v M4 h => ?_) (fun _ _ h => h) h)
  obtain ⟨r5, rfl, h⟩ := h
  show kz_Z G (d + 11) mc ms mL_law Qr Qx 2661 [(6, .int r2), (0, .retAddr x0), (1, .ref x1), (2, .ref x2), (3, .ref x3), (4, .ref x4), (5, .int x5)] [.int r5] M4 (c + mc3) (sl + ms3)
  refine kz_istore (pc := 2661) (i := 7) (ls' := [(6, .int r2), (0, .retAddr x0), (1, .ref x1), (2, .ref x2), (3, .ref x3), (4, .ref x4), (5, .int x5)]) (by decide) rfl dL_law_2661 ?_
  refine kz_aload_n (pc := 2663) 4 (v := .ref x2) (i := 2) rfl rfl rfl dL_law_2663 ?_
  obtain ⟨⟨fs12, he⟩, h⟩ := h
  refine kz_callV (pc := 2664) (μ' := mX12_thrown) (ci := 11) (q := (RX12, TX12, 32)) (b := x2) (d' := d + 10) (mc' := 0) (ms' := 0) (As := []) (st := []) (c := c + mc3) (sl := sl + ms3) kmX12_thrown kw_1475 (by omega) rfl (Nat.le_of_ble_eq_true rfl) he rfl rfl hc3 hs3 dL_law_2664 (fun E M9 hx => kz_Tout rfl hc3 hs3 hx) (kz_Cmono (fun v M7 h => ?_) (fun _ _ h => h) h)
  obtain ⟨r8, rfl, h⟩ := h
  show kz_Z G (d + 11) mc ms mL_law Qr Qx 2667 [(7, .int r5), (6, .int r2), (0, .retAddr x0), (1, .ref x1), (2, .ref x2), (3, .ref x3), (4, .ref x4), (5, .int x5)] [.int r8] M7 (c + mc3) (sl + ms3)
  refine kz_iload (pc := 2667) 1 (i := 6) rfl dL_law_2667 ?_
  refine kz_icmp_eq (pc := 2669) (tgt := 2674) (by decide) dL_law_2669 (fun hb => ?_) (fun hb => ?_)
  · replace h := h.1 hb
    refine kz_iload (pc := 2674) 1 (i := 6) rfl dL_law_2674 ?_
    refine kz_if_ne (pc := 2676) (tgt := 2691) (by decide) dL_law_2676 (fun hb => ?_) (fun hb => ?_)
    · replace h := h.1 hb
      refine kz_goto (pc := 2691) (tgt := 2913) (by decide) dL_law_2691 ?_
      refine kz_sub [2, 3, 4, 5, 6, 7] rfl ?_
      exact h
    · replace h := h.2 hb
      refine kz_aload_n (pc := 2679) 5 (v := .ref x3) (i := 3) rfl rfl rfl dL_law_2679 ?_
      refine kz_iconst (pc := 2680) (v := 0) (by decide) dL_law_2680 ?_
      obtain ⟨n10, f11, hM, hi, h⟩ := h
      refine kz_lald (pc := 2681) hM hi dL_law_2681 ?_
      refine kz_iload (pc := 2682) 0 (i := 7) rfl dL_law_2682 ?_
      refine kz_i2l (pc := 2684) dL_law_2684 ?_
      refine kz_lcmp_eq (pc := 2685) (tgt := 2691) (by decide) dL_law_2685 dL_law_2686 (fun hb => ?_) (fun hb => ?_)
      · replace h := h.1 hb
        refine kz_goto (pc := 2691) (tgt := 2913) (by decide) dL_law_2691 ?_
        refine kz_sub [2, 3, 4, 5, 6, 7] rfl ?_
        exact h
      · replace h := h.2 hb
        refine kz_iconst (pc := 2689) (v := 0) (by decide) dL_law_2689 ?_
        exact kz_zret (pc := 2690) (ty := .boolean) rfl (by decide) hc3 hs3 dL_law_2690 h
  · replace h := h.2 hb
    refine kz_iconst (pc := 2672) (v := 0) (by decide) dL_law_2672 ?_
    exact kz_zret (pc := 2673) (ty := .boolean) rfl (by decide) hc3 hs3 dL_law_2673 h
theorem rL_law_2694 {G : kz_G} {N : Nat} {xs : Nat → Int32} {d : Nat} {mc ms : Nat} {Qr : Option Value → kz_M → Prop} {Qx : String → kz_M → Prop} {x0 : Nat} {x1 : Nat} {x2 : Nat} {x3 : Nat} {x4 : Nat} {x5 : Int32}  {M : kz_M} {c sl : Nat} (hc : c ≤ mc) (hs : sl ≤ ms) (hX : va_X (G.2.2.2 x0) N xs G.2.2.1 G.2.2.1.heap) (hbs : G.2.2.2 x0 < G.2.2.1.heap.size) (h : vp_in (x5 + 1) N ∧ (vp_in (x5 + 2) N ∧ (∃ mc3 ms3, c + mc3 ≤ mc ∧ sl + ms3 ≤ ms ∧ kz_C G (d + 10) mc3 ms3 mL_printLine [.ref x1, .int (xs (x5 + 1).toNatClampNeg), .int (xs (x5 + 2).toNatClampNeg), .ref x3] M (fun v M1 => ∃ r2 : Int32, v = some (.int r2) ∧ (vp_in (x5 + 1) N ∧ (vp_in (x5 + 2) N ∧ ((∃ fs13, (M1).1 x2 = some (.inl (11, fs13))) ∧ kz_C G (d + 10) 0 0 mX12_printLine [.ref x2, .int (xs (x5 + 1).toNatClampNeg), .int (xs (x5 + 2).toNatClampNeg)] M1 (fun v M4 => ∃ r5 : Int32, v = some (.int r5) ∧ ((∃ fs12, (M4).1 x2 = some (.inl (11, fs12))) ∧ kz_C G (d + 10) 0 0 mX12_thrown [.ref x2] M4 (fun v M7 => ∃ r8 : Int32, v = some (.int r8) ∧ ((r8 = r2 → (¬ r2 = 0 → zL_law_2913 G d mc ms Qr Qx x0 x1 x2 x3 x4 x5 M7 (c + mc3) (sl + ms3)) ∧ (r2 = 0 → ∃ n10 f11, (M7).1 x3 = some (.inr (.long, n10, .inr (.inl f11))) ∧ vp_in (0 : Int32) n10 ∧ (((f11 (0 : Int32).toNatClampNeg) = ((r5 : Int32).toInt64) → zL_law_2913 G d mc ms Qr Qx x0 x1 x2 x3 x4 x5 M7 (c + mc3) (sl + ms3)) ∧ (¬ (f11 (0 : Int32).toNatClampNeg) = ((r5 : Int32).toInt64) → Qr (some (.int 0)) M7)))) ∧ (¬ r8 = r2 → Qr (some (.int 0)) M7))) Qx)) Qx)))) Qx))) : zL_law_2694 G d mc ms Qr Qx x0 x1 x2 x3 x4 x5  M c sl := by
  show kz_Z G (d + 11) mc ms mL_law Qr Qx 2694 [(0, .retAddr x0), (1, .ref x1), (2, .ref x2), (3, .ref x3), (4, .ref x4), (5, .int x5)] [] M c sl
  refine kz_aload_n (pc := 2694) 1 (v := .ref x1) (i := 1) rfl rfl rfl dL_law_2694 ?_
  refine kz_aload_n (pc := 2695) 0 (v := .retAddr x0) (i := 0) rfl rfl rfl dL_law_2695 ?_
  refine kz_iload (pc := 2696) 5 (i := 5) rfl dL_law_2696 ?_
  refine kz_iconst (pc := 2698) (v := 1) (by decide) dL_law_2698 ?_
  refine kz_iadd (pc := 2699) dL_law_2699 ?_
  obtain ⟨hi, h⟩ := h
  refine kz_sld (pc := 2700) hX hbs hi dL_law_2700 ?_
  refine kz_aload_n (pc := 2701) 0 (v := .retAddr x0) (i := 0) rfl rfl rfl dL_law_2701 ?_
  refine kz_iload (pc := 2702) 5 (i := 5) rfl dL_law_2702 ?_
  refine kz_iconst (pc := 2704) (v := 2) (by decide) dL_law_2704 ?_
  refine kz_iadd (pc := 2705) dL_law_2705 ?_
  obtain ⟨hi, h⟩ := h
  refine kz_sld (pc := 2706) hX hbs hi dL_law_2706 ?_
  refine kz_aload_n (pc := 2707) 3 (v := .ref x3) (i := 3) rfl rfl rfl dL_law_2707 ?_
  obtain ⟨mc3, ms3, hc3, hs3, h⟩ := h
  refine kz_callSX (pc := 2708) (μ' := mL_printLine) (d' := d + 10) (mc' := mc3) (ms' := ms3) (As := [.ref x1, .int (xs (x5 + 1).toNatClampNeg), .int (xs (x5 + 2).toNatClampNeg), .ref x3]) (st := []) (c := c) (sl := sl) kmL_printLine kw_1335 (by omega) rfl (Nat.le_of_ble_eq_true rfl) hc3 hs3 dL_law_2708 (fun E M9 hx => kz_Tout rfl hc3 hs3 hx) (kz_Cmono (fun v M1 h => ?_) (fun _ _ h => h) h)
  obtain ⟨r2, rfl, h⟩ := h
  show kz_Z G (d + 11) mc ms mL_law Qr Qx 2711 [(0, .retAddr x0), (1, .ref x1), (2, .ref x2), (3, .ref x3), (4, .ref x4), (5, .int x5)] [.int r2] M1 (c + mc3) (sl + ms3)
  refine kz_istore (pc := 2711) (i := 6) (ls' := [(0, .retAddr x0), (1, .ref x1), (2, .ref x2), (3, .ref x3), (4, .ref x4), (5, .int x5)]) (by decide) rfl dL_law_2711 ?_
  refine kz_aload_n (pc := 2713) 3 (v := .ref x2) (i := 2) rfl rfl rfl dL_law_2713 ?_
  refine kz_aload_n (pc := 2714) 1 (v := .retAddr x0) (i := 0) rfl rfl rfl dL_law_2714 ?_
  refine kz_iload (pc := 2715) 6 (i := 5) rfl dL_law_2715 ?_
  refine kz_iconst (pc := 2717) (v := 1) (by decide) dL_law_2717 ?_
  refine kz_iadd (pc := 2718) dL_law_2718 ?_
  obtain ⟨hi, h⟩ := h
  refine kz_sld (pc := 2719) hX hbs hi dL_law_2719 ?_
  refine kz_aload_n (pc := 2720) 1 (v := .retAddr x0) (i := 0) rfl rfl rfl dL_law_2720 ?_
  refine kz_iload (pc := 2721) 6 (i := 5) rfl dL_law_2721 ?_
  refine kz_iconst (pc := 2723) (v := 2) (by decide) dL_law_2723 ?_
  refine kz_iadd (pc := 2724) dL_law_2724 ?_
  obtain ⟨hi, h⟩ := h
  refine kz_sld (pc := 2725) hX hbs hi dL_law_2725 ?_
  obtain ⟨⟨fs13, he⟩, h⟩ := h
  refine kz_callV (pc := 2726) (μ' := mX12_printLine) (ci := 11) (q := (RX12, TX12, 32)) (b := x2) (d' := d + 10) (mc' := 0) (ms' := 0) (As := [.int (xs (x5 + 1).toNatClampNeg), .int (xs (x5 + 2).toNatClampNeg)]) (st := []) (c := c + mc3) (sl := sl + ms3) kmX12_printLine kw_1987 (by omega) rfl (Nat.le_of_ble_eq_true rfl) he rfl rfl hc3 hs3 dL_law_2726 (fun E M9 hx => kz_Tout rfl hc3 hs3 hx) (kz_Cmono (fun v M4 h => ?_) (fun _ _ h => h) h)
  obtain ⟨r5, rfl, h⟩ := h
  show kz_Z G (d + 11) mc ms mL_law Qr Qx 2729 [(6, .int r2), (0, .retAddr x0), (1, .ref x1), (2, .ref x2), (3, .ref x3), (4, .ref x4), (5, .int x5)] [.int r5] M4 (c + mc3) (sl + ms3)
  refine kz_istore (pc := 2729) (i := 7) (ls' := [(6, .int r2), (0, .retAddr x0), (1, .ref x1), (2, .ref x2), (3, .ref x3), (4, .ref x4), (5, .int x5)]) (by decide) rfl dL_law_2729 ?_
  refine kz_aload_n (pc := 2731) 4 (v := .ref x2) (i := 2) rfl rfl rfl dL_law_2731 ?_
  obtain ⟨⟨fs12, he⟩, h⟩ := h
  refine kz_callV (pc := 2732) (μ' := mX12_thrown) (ci := 11) (q := (RX12, TX12, 32)) (b := x2) (d' := d + 10) (mc' := 0) (ms' := 0) (As := []) (st := []) (c := c + mc3) (sl := sl + ms3) kmX12_thrown kw_1475 (by omega) rfl (Nat.le_of_ble_eq_true rfl) he rfl rfl hc3 hs3 dL_law_2732 (fun E M9 hx => kz_Tout rfl hc3 hs3 hx) (kz_Cmono (fun v M7 h => ?_) (fun _ _ h => h) h)
  obtain ⟨r8, rfl, h⟩ := h
  show kz_Z G (d + 11) mc ms mL_law Qr Qx 2735 [(7, .int r5), (6, .int r2), (0, .retAddr x0), (1, .ref x1), (2, .ref x2), (3, .ref x3), (4, .ref x4), (5, .int x5)] [.int r8] M7 (c + mc3) (sl + ms3)
  refine kz_iload (pc := 2735) 1 (i := 6) rfl dL_law_2735 ?_
  refine kz_icmp_eq (pc := 2737) (tgt := 2742) (by decide) dL_law_2737 (fun hb => ?_) (fun hb => ?_)
  · replace h := h.1 hb
    refine kz_iload (pc := 2742) 1 (i := 6) rfl dL_law_2742 ?_
    refine kz_if_ne (pc := 2744) (tgt := 2759) (by decide) dL_law_2744 (fun hb => ?_) (fun hb => ?_)
    · replace h := h.1 hb
      refine kz_goto (pc := 2759) (tgt := 2913) (by decide) dL_law_2759 ?_
      refine kz_sub [2, 3, 4, 5, 6, 7] rfl ?_
      exact h
    · replace h := h.2 hb
      refine kz_aload_n (pc := 2747) 5 (v := .ref x3) (i := 3) rfl rfl rfl dL_law_2747 ?_
      refine kz_iconst (pc := 2748) (v := 0) (by decide) dL_law_2748 ?_
      obtain ⟨n10, f11, hM, hi, h⟩ := h
      refine kz_lald (pc := 2749) hM hi dL_law_2749 ?_
      refine kz_iload (pc := 2750) 0 (i := 7) rfl dL_law_2750 ?_
      refine kz_i2l (pc := 2752) dL_law_2752 ?_
      refine kz_lcmp_eq (pc := 2753) (tgt := 2759) (by decide) dL_law_2753 dL_law_2754 (fun hb => ?_) (fun hb => ?_)
      · replace h := h.1 hb
        refine kz_goto (pc := 2759) (tgt := 2913) (by decide) dL_law_2759 ?_
        refine kz_sub [2, 3, 4, 5, 6, 7] rfl ?_
        exact h
      · replace h := h.2 hb
        refine kz_iconst (pc := 2757) (v := 0) (by decide) dL_law_2757 ?_
        exact kz_zret (pc := 2758) (ty := .boolean) rfl (by decide) hc3 hs3 dL_law_2758 h
  · replace h := h.2 hb
    refine kz_iconst (pc := 2740) (v := 0) (by decide) dL_law_2740 ?_
    exact kz_zret (pc := 2741) (ty := .boolean) rfl (by decide) hc3 hs3 dL_law_2741 h
theorem rL_law_2762 {G : kz_G} {N : Nat} {xs : Nat → Int32} {d : Nat} {mc ms : Nat} {Qr : Option Value → kz_M → Prop} {Qx : String → kz_M → Prop} {x0 : Nat} {x1 : Nat} {x2 : Nat} {x3 : Nat} {x4 : Nat} {x5 : Int32}  {M : kz_M} {c sl : Nat} (hc : c ≤ mc) (hs : sl ≤ ms) (hX : va_X (G.2.2.2 x0) N xs G.2.2.1 G.2.2.1.heap) (hbs : G.2.2.2 x0 < G.2.2.1.heap.size) (h : vp_in (x5 + 1) N ∧ (∃ mc3 ms3, c + mc3 ≤ mc ∧ sl + ms3 ≤ ms ∧ kz_C G (d + 10) mc3 ms3 mL_printWork [.ref x1, .int (xs (x5 + 1).toNatClampNeg), .ref x3] M (fun v M1 => ∃ r2 : Int32, v = some (.int r2) ∧ (vp_in (x5 + 1) N ∧ ((∃ fs13, (M1).1 x2 = some (.inl (11, fs13))) ∧ kz_C G (d + 10) 0 0 mX12_printWork [.ref x2, .int (xs (x5 + 1).toNatClampNeg)] M1 (fun v M4 => ∃ r5 : Int32, v = some (.int r5) ∧ ((∃ fs12, (M4).1 x2 = some (.inl (11, fs12))) ∧ kz_C G (d + 10) 0 0 mX12_thrown [.ref x2] M4 (fun v M7 => ∃ r8 : Int32, v = some (.int r8) ∧ ((r8 = r2 → (¬ r2 = 0 → zL_law_2913 G d mc ms Qr Qx x0 x1 x2 x3 x4 x5 M7 (c + mc3) (sl + ms3)) ∧ (r2 = 0 → ∃ n10 f11, (M7).1 x3 = some (.inr (.long, n10, .inr (.inl f11))) ∧ vp_in (0 : Int32) n10 ∧ (((f11 (0 : Int32).toNatClampNeg) = ((r5 : Int32).toInt64) → zL_law_2913 G d mc ms Qr Qx x0 x1 x2 x3 x4 x5 M7 (c + mc3) (sl + ms3)) ∧ (¬ (f11 (0 : Int32).toNatClampNeg) = ((r5 : Int32).toInt64) → Qr (some (.int 0)) M7)))) ∧ (¬ r8 = r2 → Qr (some (.int 0)) M7))) Qx)) Qx))) Qx)) : zL_law_2762 G d mc ms Qr Qx x0 x1 x2 x3 x4 x5  M c sl := by
  show kz_Z G (d + 11) mc ms mL_law Qr Qx 2762 [(0, .retAddr x0), (1, .ref x1), (2, .ref x2), (3, .ref x3), (4, .ref x4), (5, .int x5)] [] M c sl
  refine kz_aload_n (pc := 2762) 1 (v := .ref x1) (i := 1) rfl rfl rfl dL_law_2762 ?_
  refine kz_aload_n (pc := 2763) 0 (v := .retAddr x0) (i := 0) rfl rfl rfl dL_law_2763 ?_
  refine kz_iload (pc := 2764) 5 (i := 5) rfl dL_law_2764 ?_
  refine kz_iconst (pc := 2766) (v := 1) (by decide) dL_law_2766 ?_
  refine kz_iadd (pc := 2767) dL_law_2767 ?_
  obtain ⟨hi, h⟩ := h
  refine kz_sld (pc := 2768) hX hbs hi dL_law_2768 ?_
  refine kz_aload_n (pc := 2769) 3 (v := .ref x3) (i := 3) rfl rfl rfl dL_law_2769 ?_
  obtain ⟨mc3, ms3, hc3, hs3, h⟩ := h
  refine kz_callSX (pc := 2770) (μ' := mL_printWork) (d' := d + 10) (mc' := mc3) (ms' := ms3) (As := [.ref x1, .int (xs (x5 + 1).toNatClampNeg), .ref x3]) (st := []) (c := c) (sl := sl) kmL_printWork kw_1342 (by omega) rfl (Nat.le_of_ble_eq_true rfl) hc3 hs3 dL_law_2770 (fun E M9 hx => kz_Tout rfl hc3 hs3 hx) (kz_Cmono (fun v M1 h => ?_) (fun _ _ h => h) h)
  obtain ⟨r2, rfl, h⟩ := h
  show kz_Z G (d + 11) mc ms mL_law Qr Qx 2773 [(0, .retAddr x0), (1, .ref x1), (2, .ref x2), (3, .ref x3), (4, .ref x4), (5, .int x5)] [.int r2] M1 (c + mc3) (sl + ms3)
  refine kz_istore (pc := 2773) (i := 6) (ls' := [(0, .retAddr x0), (1, .ref x1), (2, .ref x2), (3, .ref x3), (4, .ref x4), (5, .int x5)]) (by decide) rfl dL_law_2773 ?_
  refine kz_aload_n (pc := 2775) 3 (v := .ref x2) (i := 2) rfl rfl rfl dL_law_2775 ?_
  refine kz_aload_n (pc := 2776) 1 (v := .retAddr x0) (i := 0) rfl rfl rfl dL_law_2776 ?_
  refine kz_iload (pc := 2777) 6 (i := 5) rfl dL_law_2777 ?_
  refine kz_iconst (pc := 2779) (v := 1) (by decide) dL_law_2779 ?_
  refine kz_iadd (pc := 2780) dL_law_2780 ?_
  obtain ⟨hi, h⟩ := h
  refine kz_sld (pc := 2781) hX hbs hi dL_law_2781 ?_
  obtain ⟨⟨fs13, he⟩, h⟩ := h
  refine kz_callV (pc := 2782) (μ' := mX12_printWork) (ci := 11) (q := (RX12, TX12, 32)) (b := x2) (d' := d + 10) (mc' := 0) (ms' := 0) (As := [.int (xs (x5 + 1).toNatClampNeg)]) (st := []) (c := c + mc3) (sl := sl + ms3) kmX12_printWork kw_2000 (by omega) rfl (Nat.le_of_ble_eq_true rfl) he rfl rfl hc3 hs3 dL_law_2782 (fun E M9 hx => kz_Tout rfl hc3 hs3 hx) (kz_Cmono (fun v M4 h => ?_) (fun _ _ h => h) h)
  obtain ⟨r5, rfl, h⟩ := h
  show kz_Z G (d + 11) mc ms mL_law Qr Qx 2785 [(6, .int r2), (0, .retAddr x0), (1, .ref x1), (2, .ref x2), (3, .ref x3), (4, .ref x4), (5, .int x5)] [.int r5] M4 (c + mc3) (sl + ms3)
  refine kz_istore (pc := 2785) (i := 7) (ls' := [(6, .int r2), (0, .retAddr x0), (1, .ref x1), (2, .ref x2), (3, .ref x3), (4, .ref x4), (5, .int x5)]) (by decide) rfl dL_law_2785 ?_
  refine kz_aload_n (pc := 2787) 4 (v := .ref x2) (i := 2) rfl rfl rfl dL_law_2787 ?_
  obtain ⟨⟨fs12, he⟩, h⟩ := h
  refine kz_callV (pc := 2788) (μ' := mX12_thrown) (ci := 11) (q := (RX12, TX12, 32)) (b := x2) (d' := d + 10) (mc' := 0) (ms' := 0) (As := []) (st := []) (c := c + mc3) (sl := sl + ms3) kmX12_thrown kw_1475 (by omega) rfl (Nat.le_of_ble_eq_true rfl) he rfl rfl hc3 hs3 dL_law_2788 (fun E M9 hx => kz_Tout rfl hc3 hs3 hx) (kz_Cmono (fun v M7 h => ?_) (fun _ _ h => h) h)
  obtain ⟨r8, rfl, h⟩ := h
  show kz_Z G (d + 11) mc ms mL_law Qr Qx 2791 [(7, .int r5), (6, .int r2), (0, .retAddr x0), (1, .ref x1), (2, .ref x2), (3, .ref x3), (4, .ref x4), (5, .int x5)] [.int r8] M7 (c + mc3) (sl + ms3)
  refine kz_iload (pc := 2791) 1 (i := 6) rfl dL_law_2791 ?_
  refine kz_icmp_eq (pc := 2793) (tgt := 2798) (by decide) dL_law_2793 (fun hb => ?_) (fun hb => ?_)
  · replace h := h.1 hb
    refine kz_iload (pc := 2798) 1 (i := 6) rfl dL_law_2798 ?_
    refine kz_if_ne (pc := 2800) (tgt := 2815) (by decide) dL_law_2800 (fun hb => ?_) (fun hb => ?_)
    · replace h := h.1 hb
      refine kz_goto (pc := 2815) (tgt := 2913) (by decide) dL_law_2815 ?_
      refine kz_sub [2, 3, 4, 5, 6, 7] rfl ?_
      exact h
    · replace h := h.2 hb
      refine kz_aload_n (pc := 2803) 5 (v := .ref x3) (i := 3) rfl rfl rfl dL_law_2803 ?_
      refine kz_iconst (pc := 2804) (v := 0) (by decide) dL_law_2804 ?_
      obtain ⟨n10, f11, hM, hi, h⟩ := h
      refine kz_lald (pc := 2805) hM hi dL_law_2805 ?_
      refine kz_iload (pc := 2806) 0 (i := 7) rfl dL_law_2806 ?_
      refine kz_i2l (pc := 2808) dL_law_2808 ?_
      refine kz_lcmp_eq (pc := 2809) (tgt := 2815) (by decide) dL_law_2809 dL_law_2810 (fun hb => ?_) (fun hb => ?_)
      · replace h := h.1 hb
        refine kz_goto (pc := 2815) (tgt := 2913) (by decide) dL_law_2815 ?_
        refine kz_sub [2, 3, 4, 5, 6, 7] rfl ?_
        exact h
      · replace h := h.2 hb
        refine kz_iconst (pc := 2813) (v := 0) (by decide) dL_law_2813 ?_
        exact kz_zret (pc := 2814) (ty := .boolean) rfl (by decide) hc3 hs3 dL_law_2814 h
  · replace h := h.2 hb
    refine kz_iconst (pc := 2796) (v := 0) (by decide) dL_law_2796 ?_
    exact kz_zret (pc := 2797) (ty := .boolean) rfl (by decide) hc3 hs3 dL_law_2797 h
theorem rL_law_2818 {G : kz_G} {N : Nat} {xs : Nat → Int32} {d : Nat} {mc ms : Nat} {Qr : Option Value → kz_M → Prop} {Qx : String → kz_M → Prop} {x0 : Nat} {x1 : Nat} {x2 : Nat} {x3 : Nat} {x4 : Nat} {x5 : Int32}  {M : kz_M} {c sl : Nat} (hc : c ≤ mc) (hs : sl ≤ ms) (hX : va_X (G.2.2.2 x0) N xs G.2.2.1 G.2.2.1.heap) (hbs : G.2.2.2 x0 < G.2.2.1.heap.size) (h : (∃ fs8, (M).1 x1 = some (.inl (10, fs8))) ∧ kz_C G (d + 10) 0 0 mX11_printBalances [.ref x1] M (fun v M1 => ∃ r2 : Int32, v = some (.int r2) ∧ ((∃ fs7, (M1).1 x2 = some (.inl (11, fs7))) ∧ kz_C G (d + 10) 0 0 mX12_printBalances [.ref x2] M1 (fun v M4 => ∃ r5 : Int32, v = some (.int r5) ∧ ((r2 = r5 → zL_law_2913 G d mc ms Qr Qx x0 x1 x2 x3 x4 x5 M4 c sl) ∧ (¬ r2 = r5 → Qr (some (.int 0)) M4))) Qx)) Qx) : zL_law_2818 G d mc ms Qr Qx x0 x1 x2 x3 x4 x5  M c sl := by
  show kz_Z G (d + 11) mc ms mL_law Qr Qx 2818 [(0, .retAddr x0), (1, .ref x1), (2, .ref x2), (3, .ref x3), (4, .ref x4), (5, .int x5)] [] M c sl
  refine kz_aload_n (pc := 2818) 1 (v := .ref x1) (i := 1) rfl rfl rfl dL_law_2818 ?_
  obtain ⟨⟨fs8, he⟩, h⟩ := h
  refine kz_callV (pc := 2819) (μ' := mX11_printBalances) (ci := 10) (q := (RX11, TX11, 10)) (b := x1) (d' := d + 10) (mc' := 0) (ms' := 0) (As := []) (st := []) (c := c) (sl := sl) kmX11_printBalances kw_473 (by omega) rfl (Nat.le_of_ble_eq_true rfl) he rfl rfl hc hs dL_law_2819 (fun E M9 hx => kz_Tout rfl hc hs hx) (kz_Cmono (fun v M1 h => ?_) (fun _ _ h => h) h)
  obtain ⟨r2, rfl, h⟩ := h
  show kz_Z G (d + 11) mc ms mL_law Qr Qx 2822 [(0, .retAddr x0), (1, .ref x1), (2, .ref x2), (3, .ref x3), (4, .ref x4), (5, .int x5)] [.int r2] M1 c sl
  refine kz_aload_n (pc := 2822) 2 (v := .ref x2) (i := 2) rfl rfl rfl dL_law_2822 ?_
  obtain ⟨⟨fs7, he⟩, h⟩ := h
  refine kz_callV (pc := 2823) (μ' := mX12_printBalances) (ci := 11) (q := (RX12, TX12, 32)) (b := x2) (d' := d + 10) (mc' := 0) (ms' := 0) (As := []) (st := [.int r2]) (c := c) (sl := sl) kmX12_printBalances kw_2014 (by omega) rfl (Nat.le_of_ble_eq_true rfl) he rfl rfl hc hs dL_law_2823 (fun E M9 hx => kz_Tout rfl hc hs hx) (kz_Cmono (fun v M4 h => ?_) (fun _ _ h => h) h)
  obtain ⟨r5, rfl, h⟩ := h
  show kz_Z G (d + 11) mc ms mL_law Qr Qx 2826 [(0, .retAddr x0), (1, .ref x1), (2, .ref x2), (3, .ref x3), (4, .ref x4), (5, .int x5)] [.int r5, .int r2] M4 c sl
  refine kz_icmp_eq (pc := 2826) (tgt := 2913) (by decide) dL_law_2826 (fun hb => ?_) (fun hb => ?_)
  · replace h := h.1 hb
    exact h
  · replace h := h.2 hb
    refine kz_iconst (pc := 2829) (v := 0) (by decide) dL_law_2829 ?_
    exact kz_zret (pc := 2830) (ty := .boolean) rfl (by decide) hc hs dL_law_2830 h
theorem rL_law_2831 {G : kz_G} {N : Nat} {xs : Nat → Int32} {d : Nat} {mc ms : Nat} {Qr : Option Value → kz_M → Prop} {Qx : String → kz_M → Prop} {x0 : Nat} {x1 : Nat} {x2 : Nat} {x3 : Nat} {x4 : Nat} {x5 : Int32}  {M : kz_M} {c sl : Nat} (hc : c ≤ mc) (hs : sl ≤ ms) (hX : va_X (G.2.2.2 x0) N xs G.2.2.1 G.2.2.1.heap) (hbs : G.2.2.2 x0 < G.2.2.1.heap.size) (h : vp_in (x5 + 1) N ∧ ((∃ fs8, (M).1 x1 = some (.inl (10, fs8))) ∧ kz_C G (d + 10) 0 0 mX11_outputByte [.ref x1, .int (xs (x5 + 1).toNatClampNeg)] M (fun v M1 => ∃ r2 : Int32, v = some (.int r2) ∧ (vp_in (x5 + 1) N ∧ ((∃ fs7, (M1).1 x2 = some (.inl (11, fs7))) ∧ kz_C G (d + 10) 0 0 mX12_outputByte [.ref x2, .int (xs (x5 + 1).toNatClampNeg)] M1 (fun v M4 => ∃ r5 : Int32, v = some (.int r5) ∧ ((r2 = r5 → zL_law_2913 G d mc ms Qr Qx x0 x1 x2 x3 x4 x5 M4 c sl) ∧ (¬ r2 = r5 → Qr (some (.int 0)) M4))) Qx))) Qx)) : zL_law_2831 G d mc ms Qr Qx x0 x1 x2 x3 x4 x5  M c sl := by
  show kz_Z G (d + 11) mc ms mL_law Qr Qx 2831 [(0, .retAddr x0), (1, .ref x1), (2, .ref x2), (3, .ref x3), (4, .ref x4), (5, .int x5)] [] M c sl
  refine kz_aload_n (pc := 2831) 1 (v := .ref x1) (i := 1) rfl rfl rfl dL_law_2831 ?_
  refine kz_aload_n (pc := 2832) 0 (v := .retAddr x0) (i := 0) rfl rfl rfl dL_law_2832 ?_
  refine kz_iload (pc := 2833) 5 (i := 5) rfl dL_law_2833 ?_
  refine kz_iconst (pc := 2835) (v := 1) (by decide) dL_law_2835 ?_
  refine kz_iadd (pc := 2836) dL_law_2836 ?_
  obtain ⟨hi, h⟩ := h
  refine kz_sld (pc := 2837) hX hbs hi dL_law_2837 ?_
  obtain ⟨⟨fs8, he⟩, h⟩ := h
  refine kz_callV (pc := 2838) (μ' := mX11_outputByte) (ci := 10) (q := (RX11, TX11, 10)) (b := x1) (d' := d + 10) (mc' := 0) (ms' := 0) (As := [.int (xs (x5 + 1).toNatClampNeg)]) (st := []) (c := c) (sl := sl) kmX11_outputByte kw_501 (by omega) rfl (Nat.le_of_ble_eq_true rfl) he rfl rfl hc hs dL_law_2838 (fun E M9 hx => kz_Tout rfl hc hs hx) (kz_Cmono (fun v M1 h => ?_) (fun _ _ h => h) h)
  obtain ⟨r2, rfl, h⟩ := h
  show kz_Z G (d + 11) mc ms mL_law Qr Qx 2841 [(0, .retAddr x0), (1, .ref x1), (2, .ref x2), (3, .ref x3), (4, .ref x4), (5, .int x5)] [.int r2] M1 c sl
  refine kz_aload_n (pc := 2841) 2 (v := .ref x2) (i := 2) rfl rfl rfl dL_law_2841 ?_
  refine kz_aload_n (pc := 2842) 0 (v := .retAddr x0) (i := 0) rfl rfl rfl dL_law_2842 ?_
  refine kz_iload (pc := 2843) 5 (i := 5) rfl dL_law_2843 ?_
  refine kz_iconst (pc := 2845) (v := 1) (by decide) dL_law_2845 ?_
  refine kz_iadd (pc := 2846) dL_law_2846 ?_
  obtain ⟨hi, h⟩ := h
  refine kz_sld (pc := 2847) hX hbs hi dL_law_2847 ?_
  obtain ⟨⟨fs7, he⟩, h⟩ := h
  refine kz_callV (pc := 2848) (μ' := mX12_outputByte) (ci := 11) (q := (RX12, TX12, 32)) (b := x2) (d' := d + 10) (mc' := 0) (ms' := 0) (As := [.int (xs (x5 + 1).toNatClampNeg)]) (st := [.int r2]) (c := c) (sl := sl) kmX12_outputByte kw_2022 (by omega) rfl (Nat.le_of_ble_eq_true rfl) he rfl rfl hc hs dL_law_2848 (fun E M9 hx => kz_Tout rfl hc hs hx) (kz_Cmono (fun v M4 h => ?_) (fun _ _ h => h) h)
  obtain ⟨r5, rfl, h⟩ := h
  show kz_Z G (d + 11) mc ms mL_law Qr Qx 2851 [(0, .retAddr x0), (1, .ref x1), (2, .ref x2), (3, .ref x3), (4, .ref x4), (5, .int x5)] [.int r5, .int r2] M4 c sl
  refine kz_icmp_eq (pc := 2851) (tgt := 2913) (by decide) dL_law_2851 (fun hb => ?_) (fun hb => ?_)
  · replace h := h.1 hb
    exact h
  · replace h := h.2 hb
    refine kz_iconst (pc := 2854) (v := 0) (by decide) dL_law_2854 ?_
    exact kz_zret (pc := 2855) (ty := .boolean) rfl (by decide) hc hs dL_law_2855 h
theorem rL_law_2856 {G : kz_G} {N : Nat} {xs : Nat → Int32} {d : Nat} {mc ms : Nat} {Qr : Option Value → kz_M → Prop} {Qx : String → kz_M → Prop} {x0 : Nat} {x1 : Nat} {x2 : Nat} {x3 : Nat} {x4 : Nat} {x5 : Int32}  {M : kz_M} {c sl : Nat} (hc : c ≤ mc) (hs : sl ≤ ms) (hX : va_X (G.2.2.2 x0) N xs G.2.2.1 G.2.2.1.heap) (hbs : G.2.2.2 x0 < G.2.2.1.heap.size) (h : (∃ fs8, (M).1 x1 = some (.inl (10, fs8))) ∧ kz_C G (d + 10) 0 0 mX11_saveState [.ref x1] M (fun v M1 => ∃ r2 : Int32, v = some (.int r2) ∧ ((∃ fs7, (M1).1 x2 = some (.inl (11, fs7))) ∧ kz_C G (d + 10) 0 0 mX12_saveState [.ref x2] M1 (fun v M4 => ∃ r5 : Int32, v = some (.int r5) ∧ ((r2 = r5 → zL_law_2913 G d mc ms Qr Qx x0 x1 x2 x3 x4 x5 M4 c sl) ∧ (¬ r2 = r5 → Qr (some (.int 0)) M4))) Qx)) Qx) : zL_law_2856 G d mc ms Qr Qx x0 x1 x2 x3 x4 x5  M c sl := by
  show kz_Z G (d + 11) mc ms mL_law Qr Qx 2856 [(0, .retAddr x0), (1, .ref x1), (2, .ref x2), (3, .ref x3), (4, .ref x4), (5, .int x5)] [] M c sl
  refine kz_aload_n (pc := 2856) 1 (v := .ref x1) (i := 1) rfl rfl rfl dL_law_2856 ?_
  obtain ⟨⟨fs8, he⟩, h⟩ := h
  refine kz_callV (pc := 2857) (μ' := mX11_saveState) (ci := 10) (q := (RX11, TX11, 10)) (b := x1) (d' := d + 10) (mc' := 0) (ms' := 0) (As := []) (st := []) (c := c) (sl := sl) kmX11_saveState kw_509 (by omega) rfl (Nat.le_of_ble_eq_true rfl) he rfl rfl hc hs dL_law_2857 (fun E M9 hx => kz_Tout rfl hc hs hx) (kz_Cmono (fun v M1 h => ?_) (fun _ _ h => h) h)
  obtain ⟨r2, rfl, h⟩ := h
  show kz_Z G (d + 11) mc ms mL_law Qr Qx 2860 [(0, .retAddr x0), (1, .ref x1), (2, .ref x2), (3, .ref x3), (4, .ref x4), (5, .int x5)] [.int r2] M1 c sl
  refine kz_aload_n (pc := 2860) 2 (v := .ref x2) (i := 2) rfl rfl rfl dL_law_2860 ?_
  obtain ⟨⟨fs7, he⟩, h⟩ := h
  refine kz_callV (pc := 2861) (μ' := mX12_saveState) (ci := 11) (q := (RX12, TX12, 32)) (b := x2) (d' := d + 10) (mc' := 0) (ms' := 0) (As := []) (st := [.int r2]) (c := c) (sl := sl) kmX12_saveState kw_2026 (by omega) rfl (Nat.le_of_ble_eq_true rfl) he rfl rfl hc hs dL_law_2861 (fun E M9 hx => kz_Tout rfl hc hs hx) (kz_Cmono (fun v M4 h => ?_) (fun _ _ h => h) h)
  obtain ⟨r5, rfl, h⟩ := h
  show kz_Z G (d + 11) mc ms mL_law Qr Qx 2864 [(0, .retAddr x0), (1, .ref x1), (2, .ref x2), (3, .ref x3), (4, .ref x4), (5, .int x5)] [.int r5, .int r2] M4 c sl
  refine kz_icmp_eq (pc := 2864) (tgt := 2913) (by decide) dL_law_2864 (fun hb => ?_) (fun hb => ?_)
  · replace h := h.1 hb
    exact h
  · replace h := h.2 hb
    refine kz_iconst (pc := 2867) (v := 0) (by decide) dL_law_2867 ?_
    exact kz_zret (pc := 2868) (ty := .boolean) rfl (by decide) hc hs dL_law_2868 h
theorem rL_law_2869 {G : kz_G} {N : Nat} {xs : Nat → Int32} {d : Nat} {mc ms : Nat} {Qr : Option Value → kz_M → Prop} {Qx : String → kz_M → Prop} {x0 : Nat} {x1 : Nat} {x2 : Nat} {x3 : Nat} {x4 : Nat} {x5 : Int32}  {M : kz_M} {c sl : Nat} (hc : c ≤ mc) (hs : sl ≤ ms) (hX : va_X (G.2.2.2 x0) N xs G.2.2.1 G.2.2.1.heap) (hbs : G.2.2.2 x0 < G.2.2.1.heap.size) (h : ∃ mc3 ms3, c + mc3 ≤ mc ∧ sl + ms3 ≤ ms ∧ kz_C G (d + 10) mc3 ms3 mL_restoreState [.ref x1, .ref x3] M (fun v M1 => ∃ r2 : Int32, v = some (.int r2) ∧ ((∃ fs13, (M1).1 x2 = some (.inl (11, fs13))) ∧ kz_C G (d + 10) 0 0 mX12_restoreState [.ref x2] M1 (fun v M4 => ∃ r5 : Int32, v = some (.int r5) ∧ ((∃ fs12, (M4).1 x2 = some (.inl (11, fs12))) ∧ kz_C G (d + 10) 0 0 mX12_thrown [.ref x2] M4 (fun v M7 => ∃ r8 : Int32, v = some (.int r8) ∧ ((r8 = r2 → (¬ r2 = 0 → zL_law_2913 G d mc ms Qr Qx x0 x1 x2 x3 x4 x5 M7 (c + mc3) (sl + ms3)) ∧ (r2 = 0 → ∃ n10 f11, (M7).1 x3 = some (.inr (.long, n10, .inr (.inl f11))) ∧ vp_in (0 : Int32) n10 ∧ (((f11 (0 : Int32).toNatClampNeg) = ((r5 : Int32).toInt64) → zL_law_2913 G d mc ms Qr Qx x0 x1 x2 x3 x4 x5 M7 (c + mc3) (sl + ms3)) ∧ (¬ (f11 (0 : Int32).toNatClampNeg) = ((r5 : Int32).toInt64) → Qr (some (.int 0)) M7)))) ∧ (¬ r8 = r2 → Qr (some (.int 0)) M7))) Qx)) Qx)) Qx) : zL_law_2869 G d mc ms Qr Qx x0 x1 x2 x3 x4 x5  M c sl := by
  show kz_Z G (d + 11) mc ms mL_law Qr Qx 2869 [(0, .retAddr x0), (1, .ref x1), (2, .ref x2), (3, .ref x3), (4, .ref x4), (5, .int x5)] [] M c sl
  refine kz_aload_n (pc := 2869) 1 (v := .ref x1) (i := 1) rfl rfl rfl dL_law_2869 ?_
  refine kz_aload_n (pc := 2870) 3 (v := .ref x3) (i := 3) rfl rfl rfl dL_law_2870 ?_
  obtain ⟨mc3, ms3, hc3, hs3, h⟩ := h
  refine kz_callSX (pc := 2871) (μ' := mL_restoreState) (d' := d + 10) (mc' := mc3) (ms' := ms3) (As := [.ref x1, .ref x3]) (st := []) (c := c) (sl := sl) kmL_restoreState kw_1356 (by omega) rfl (Nat.le_of_ble_eq_true rfl) hc3 hs3 dL_law_2871 (fun E M9 hx => kz_Tout rfl hc3 hs3 hx) (kz_Cmono (fun v M1 h => ?_) (fun _ _ h => h) h)
  obtain ⟨r2, rfl, h⟩ := h
  show kz_Z G (d + 11) mc ms mL_law Qr Qx 2874 [(0, .retAddr x0), (1, .ref x1), (2, .ref x2), (3, .ref x3), (4, .ref x4), (5, .int x5)] [.int r2] M1 (c + mc3) (sl + ms3)
  refine kz_istore (pc := 2874) (i := 6) (ls' := [(0, .retAddr x0), (1, .ref x1), (2, .ref x2), (3, .ref x3), (4, .ref x4), (5, .int x5)]) (by decide) rfl dL_law_2874 ?_
  refine kz_aload_n (pc := 2876) 3 (v := .ref x2) (i := 2) rfl rfl rfl dL_law_2876 ?_
  obtain ⟨⟨fs13, he⟩, h⟩ := h
  refine kz_callV (pc := 2877) (μ' := mX12_restoreState) (ci := 11) (q := (RX12, TX12, 32)) (b := x2) (d' := d + 10) (mc' := 0) (ms' := 0) (As := []) (st := []) (c := c + mc3) (sl := sl + ms3) kmX12_restoreState kw_2030 (by omega) rfl (Nat.le_of_ble_eq_true rfl) he rfl rfl hc3 hs3 dL_law_2877 (fun E M9 hx => kz_Tout rfl hc3 hs3 hx) (kz_Cmono (fun v M4 h => ?_) (fun _ _ h => h) h)
  obtain ⟨r5, rfl, h⟩ := h
  show kz_Z G (d + 11) mc ms mL_law Qr Qx 2880 [(6, .int r2), (0, .retAddr x0), (1, .ref x1), (2, .ref x2), (3, .ref x3), (4, .ref x4), (5, .int x5)] [.int r5] M4 (c + mc3) (sl + ms3)
  refine kz_istore (pc := 2880) (i := 7) (ls' := [(6, .int r2), (0, .retAddr x0), (1, .ref x1), (2, .ref x2), (3, .ref x3), (4, .ref x4), (5, .int x5)]) (by decide) rfl dL_law_2880 ?_
  refine kz_aload_n (pc := 2882) 4 (v := .ref x2) (i := 2) rfl rfl rfl dL_law_2882 ?_
  obtain ⟨⟨fs12, he⟩, h⟩ := h
  refine kz_callV (pc := 2883) (μ' := mX12_thrown) (ci := 11) (q := (RX12, TX12, 32)) (b := x2) (d' := d + 10) (mc' := 0) (ms' := 0) (As := []) (st := []) (c := c + mc3) (sl := sl + ms3) kmX12_thrown kw_1475 (by omega) rfl (Nat.le_of_ble_eq_true rfl) he rfl rfl hc3 hs3 dL_law_2883 (fun E M9 hx => kz_Tout rfl hc3 hs3 hx) (kz_Cmono (fun v M7 h => ?_) (fun _ _ h => h) h)
  obtain ⟨r8, rfl, h⟩ := h
  show kz_Z G (d + 11) mc ms mL_law Qr Qx 2886 [(7, .int r5), (6, .int r2), (0, .retAddr x0), (1, .ref x1), (2, .ref x2), (3, .ref x3), (4, .ref x4), (5, .int x5)] [.int r8] M7 (c + mc3) (sl + ms3)
  refine kz_iload (pc := 2886) 1 (i := 6) rfl dL_law_2886 ?_
  refine kz_icmp_eq (pc := 2888) (tgt := 2893) (by decide) dL_law_2888 (fun hb => ?_) (fun hb => ?_)
  · replace h := h.1 hb
    refine kz_iload (pc := 2893) 1 (i := 6) rfl dL_law_2893 ?_
    refine kz_if_ne (pc := 2895) (tgt := 2910) (by decide) dL_law_2895 (fun hb => ?_) (fun hb => ?_)
    · replace h := h.1 hb
      refine kz_goto (pc := 2910) (tgt := 2913) (by decide) dL_law_2910 ?_
      refine kz_sub [2, 3, 4, 5, 6, 7] rfl ?_
      exact h
    · replace h := h.2 hb
      refine kz_aload_n (pc := 2898) 5 (v := .ref x3) (i := 3) rfl rfl rfl dL_law_2898 ?_
      refine kz_iconst (pc := 2899) (v := 0) (by decide) dL_law_2899 ?_
      obtain ⟨n10, f11, hM, hi, h⟩ := h
      refine kz_lald (pc := 2900) hM hi dL_law_2900 ?_
      refine kz_iload (pc := 2901) 0 (i := 7) rfl dL_law_2901 ?_
      refine kz_i2l (pc := 2903) dL_law_2903 ?_
      refine kz_lcmp_eq (pc := 2904) (tgt := 2910) (by decide) dL_law_2904 dL_law_2905 (fun hb => ?_) (fun hb => ?_)
      · replace h := h.1 hb
        refine kz_goto (pc := 2910) (tgt := 2913) (by decide) dL_law_2910 ?_
        refine kz_sub [2, 3, 4, 5, 6, 7] rfl ?_
        exact h
      · replace h := h.2 hb
        refine kz_iconst (pc := 2908) (v := 0) (by decide) dL_law_2908 ?_
        exact kz_zret (pc := 2909) (ty := .boolean) rfl (by decide) hc3 hs3 dL_law_2909 h
  · replace h := h.2 hb
    refine kz_iconst (pc := 2891) (v := 0) (by decide) dL_law_2891 ?_
    exact kz_zret (pc := 2892) (ty := .boolean) rfl (by decide) hc3 hs3 dL_law_2892 h
theorem rL_law_2913 {G : kz_G} {N : Nat} {xs : Nat → Int32} {d : Nat} {mc ms : Nat} {Qr : Option Value → kz_M → Prop} {Qx : String → kz_M → Prop} {x0 : Nat} {x1 : Nat} {x2 : Nat} {x3 : Nat} {x4 : Nat} {x5 : Int32}  {M : kz_M} {c sl : Nat} (hc : c ≤ mc) (hs : sl ≤ ms) (hX : va_X (G.2.2.2 x0) N xs G.2.2.1 G.2.2.1.heap) (hbs : G.2.2.2 x0 < G.2.2.1.heap.size) (h : zL_law_28 G d mc ms Qr Qx x0 x1 x2 x3 x4 (x5 + 6) M c sl) : zL_law_2913 G d mc ms Qr Qx x0 x1 x2 x3 x4 x5  M c sl := by
  show kz_Z G (d + 11) mc ms mL_law Qr Qx 2913 [(0, .retAddr x0), (1, .ref x1), (2, .ref x2), (3, .ref x3), (4, .ref x4), (5, .int x5)] [] M c sl
  refine kz_iinc (pc := 2913) 5 (i := 5) (v := x5 + 6) (ls' := [(0, .retAddr x0), (1, .ref x1), (2, .ref x2), (3, .ref x3), (4, .ref x4)]) rfl (congrArg (fun z => x5 + z) (by decide)) (by decide) rfl dL_law_2913 ?_
  refine kz_goto (pc := 2916) (tgt := 28) (by decide) dL_law_2916 ?_
  refine kz_sub [1, 2, 3, 4, 5, 0] rfl ?_
  exact h
