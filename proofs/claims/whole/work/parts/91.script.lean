/-! Part 91: the law's script -/
def mL_law : kz_Y := (⟨"LineOfficeLaw", "law", "([I)Z"⟩, code, 9, ret, [])
section KZL
variable {G : kz_G} {d mc ms : Nat} {μ : kz_Y} {Qr : Option Value → kz_M → Prop} {Qx : String → kz_M → Prop} {pc : Nat} {ls : List (Nat × Value)} {st : List Value} {M : kz_M} {c sl : Nat}
theorem kz_sld {j N : Nat} {xs : Nat → Int32} {i : Int32} (hX : va_X (G.2.2.2 j) N xs G.2.2.1 G.2.2.1.heap) (hb : G.2.2.2 j < G.2.2.1.heap.size) (hin : vp_in i N) (hd : decode μ.2.1 pc = .ok (.iaload, 1)) (kk : kz_Z G d mc ms μ Qr Qx (pc + 1) ls (.int (xs i.toNatClampNeg) :: st) M c sl) : kz_Z G d mc ms μ Qr Qx pc ls (.int i :: .retAddr j :: st) M c sl := by
  intro p e R s m args below meth cd H locs la hF hl hH hL T hT X
  have kk := kk p e R s m args below meth cd H locs la hF hl hH hL
  obtain ⟨hx, hb', -, -, hown, -, -, -, hK, hlow, -⟩ := hF
  exact va_sld hx hb' ((hX.moved hK.2.2.2).kept (hlow.2 _ hb)) (Nat.lt_of_lt_of_le hb hlow.1) (Nat.not_le.mpr hb) (kz_vaS hlow hH hL hT X) hin hd kk T hT X
theorem kz_slen {j N : Nat} {xs : Nat → Int32} (hX : va_X (G.2.2.2 j) N xs G.2.2.1 G.2.2.1.heap) (hb : G.2.2.2 j < G.2.2.1.heap.size) (hd : decode μ.2.1 pc = .ok (.arraylength, 1)) (kk : kz_Z G d mc ms μ Qr Qx (pc + 1) ls (.int (Int32.ofNat N) :: st) M c sl) : kz_Z G d mc ms μ Qr Qx pc ls (.retAddr j :: st) M c sl := by
  intro p e R s m args below meth cd H locs la hF hl hH hL T hT X
  have kk := kk p e R s m args below meth cd H locs la hF hl hH hL
  obtain ⟨hx, hb', -, -, hown, -, -, -, hK, hlow, -⟩ := hF
  exact va_slen hx hb' ((hX.moved hK.2.2.2).kept (hlow.2 _ hb)) (Nat.lt_of_lt_of_le hb hlow.1) (Nat.not_le.mpr hb) (kz_vaS hlow hH hL hT X) hd kk T hT X
end KZL
