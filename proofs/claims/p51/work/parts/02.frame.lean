/-! Part 02: one abstract heap for the whole run, and a judgement over it: kz_Z (a method at a pc) and kz_C (a call) -/
abbrev kz_G : Type := Launch × va_G × State × (Nat → Nat)
abbrev kz_E : Type := (Nat × List Value) ⊕ (FieldType × vp_A)
abbrev kz_M : Type := (Nat → Option kz_E) × Nat
/-- a method: its name, code, locals, answer's type, handlers -/
abbrev kz_Y : Type := MethodName × ByteArray × Nat × Option FieldType × List (Nat × Nat × Nat × Nat)
/-- an abstract value's own: cells that were made since the law's start are counted from there; what stood there before is numbered apart -/
def kz_o (P k : Nat) : Nat := if P = 0 then k else if k < 99 then P + k else if k < 99 + P then k - 99 else k
def kz_ad (G : kz_G) (k : Nat) : Nat := G.2.2.1.heap.size + kz_o (G.2.2.2 9999) k
/-- the next cell is where its number says -/
def kz_tp (G : kz_G) (n : Nat) : Prop := G.2.2.2 9999 = 0 ∨ 99 + G.2.2.2 9999 ≤ n
theorem kz_o_inj {P a b : Nat} (h : kz_o P a = kz_o P b) : a = b := by
  unfold kz_o at h
  repeat' split at h
  all_goals omega
theorem kz_o_top {P n : Nat} (h : P = 0 ∨ 99 + P ≤ n) : kz_o P n = n := by
  unfold kz_o
  repeat' split
  all_goals omega
theorem kz_o_lt {P n k : Nat} (h : P = 0 ∨ 99 + P ≤ n) (hk : k < n) : kz_o P k < n := by
  unfold kz_o
  repeat' split
  all_goals omega
theorem kz_ad_inj {G : kz_G} {a b : Nat} (h : kz_ad G a = kz_ad G b) : a = b := kz_o_inj (Nat.add_left_cancel h)
theorem kz_ad_le (G : kz_G) (a : Nat) : G.2.2.1.heap.size ≤ kz_ad G a := Nat.le_add_right _ _
theorem kz_ad_top {G : kz_G} {n : Nat} (h : kz_tp G n) : kz_ad G n = G.2.2.1.heap.size + n := congrArg (G.2.2.1.heap.size + ·) (kz_o_top h)
theorem kz_ad_lt {G : kz_G} {n k : Nat} (h : kz_tp G n) (hk : k < n) : kz_ad G k < G.2.2.1.heap.size + n := Nat.add_lt_add_left (kz_o_lt h hk) _
theorem kz_tp.mono {G : kz_G} {n m : Nat} (h : kz_tp G n) (hm : n ≤ m) : kz_tp G m := h.imp id fun h => Nat.le_trans h hm
def kz_v (G : kz_G) (x : Value) : Value := match x with
  | .ref a => .ref (kz_ad G a)
  | .retAddr j => .ref (G.2.2.2 j)
  | v => v
def kz_x (G : kz_G) (x : vp_A) : vp_A := (x.1, match x.2 with
  | .inr (.inr (.inr (.inr f))) => .inr (.inr (.inr (.inr (fun j => (f j).map (kz_ad G)))))
  | y => y)
def kz_at (G : kz_G) (k : Nat) (e : kz_E) (H : Heap) : Prop := match e with
  | .inl o => ∃ r : vw_C, vwCl[o.1]? = some r ∧ t_OB (kz_ad G k) (G.2.1.1 o.1) r.2.2 (G.2.1.2 o.1) H (vp_V (o.2.map (kz_v G)))
  | .inr a => ∃ cA : ClassId, H[kz_ad G k]? = some (vp_cell cA (kz_x G a.2)) ∧ ArrOfT G.2.2.1 cA a.1 ∧ va_RA G.2.2.1 cA a.1
def kz_H (G : kz_G) (M : kz_M) (H : Heap) : Prop := H.size = G.2.2.1.heap.size + M.2 ∧ (∀ q, q < G.2.2.1.heap.size → H[q]? = G.2.2.1.heap[q]?) ∧ (∀ k e, M.1 k = some e → k < M.2 ∧ kz_at G k e H) ∧ kz_tp G M.2
def kz_ok (w : Cond) : Bool := match w with
  | .methodLinkNest _ _ _ _ => true
  | .fieldLinkNest _ _ _ _ _ _ => true
  | .castable _ _ => true
  | .declares _ => true
  | w => goodWord w
/-- the string literals: owner, place, text, number -/
def kz_strs : List (String × Nat × String × Nat) := [("LineOffice", 65, "a", 1000), ("LineOffice", 136, "no such number of the whole", 1001), ("LineOffice", 163, "no such number of a writer", 1002), ("LineOffice", 195, "no such number of a work", 1003), ("LineOffice", 222, "no such number of a line", 1004), ("LineOffice", 65, "a", 1000), ("LineOffice", 65, "a", 1000), ("LineOffice", 65, "a", 1000), ("LineOffice", 65, "a", 1000), ("LineOffice", 65, "a", 1000), ("LineOffice", 65, "a", 1000), ("LineOffice", 401, "no such number of days", 1011), ("LineOffice", 403, "too late a day", 1012), ("LineOffice", 65, "a", 1000), ("LineOffice", 65, "a", 1000), ("LineOffice", 446, "no such writer", 1015), ("LineOffice", 65, "a", 1000), ("LineOffice", 457, "no such value of the setting", 1017), ("LineOffice", 459, "no such kind", 1018), ("LineOffice", 461, "no such length", 1019), ("LineOffice", 463, "no such work", 1020), ("LineOffice", 469, "no such line", 1021), ("LineOffice", 500, "office", 1022), ("LineOffice", 502, "writer", 1023), ("LineOffice$Setting", 68, "measure", 1024), ("LineOffice$Setting", 74, "stuff", 1025), ("LineOffice$Setting", 77, "worn", 1026), ("LineOffice$Setting", 80, "fine", 1027), ("LineOffice$Setting", 83, "term", 1028), ("LineOffice$Setting", 86, "distinct", 1029), ("LineOffice$Setting", 89, "fee", 1030), ("LineOffice$Setting", 92, "prose", 1031), ("LineOffice$Setting", 95, "verse", 1032), ("LineOffice$Setting", 98, "list", 1033), ("LineOffice$SetupReader", 57, "writer", 1034), ("LineOffice$SetupReader", 82, "office", 1035), ("LineOfficeLaw", 89, "office ", 1036), ("LineOfficeLaw", 98, ";writer a;writer b;writer c;measure ", 1037), ("LineOfficeLaw", 100, ";stuff ", 1038), ("LineOfficeLaw", 102, ";worn ", 1039), ("LineOfficeLaw", 104, ";fine ", 1040), ("LineOfficeLaw", 106, ";term ", 1041), ("LineOfficeLaw", 108, ";distinct ", 1042), ("LineOfficeLaw", 110, ";fee ", 1043), ("LineOfficeLaw", 218, "/ ", 1044), ("LineOfficeLaw", 220, "ab", 1045), ("LineOfficeLaw", 222, "abc", 1046), ("LineOfficeLaw", 224, "d", 1047), ("LineOfficeLaw", 226, "abcdefghi", 1048)]
/-- the calls through an interface: the receiver's class, what is named, what is run -/
def kz_faces : List (String × MethodName × MethodName) := [("java/util/ArrayList", ⟨"java/util/List", "size", "()I"⟩, ⟨"java/util/ArrayList", "size", "()I"⟩), ("java/util/ArrayList", ⟨"java/util/List", "isEmpty", "()Z"⟩, ⟨"java/util/ArrayList", "isEmpty", "()Z"⟩), ("java/util/ArrayList", ⟨"java/util/List", "get", "(I)Ljava/lang/Object;"⟩, ⟨"java/util/ArrayList", "get", "(I)Ljava/lang/Object;"⟩), ("java/util/ArrayList", ⟨"java/util/List", "iterator", "()Ljava/util/Iterator;"⟩, ⟨"java/util/ArrayList", "iterator", "()Ljava/util/Iterator;"⟩), ("java/util/ArrayList", ⟨"java/util/List", "add", "(Ljava/lang/Object;)Z"⟩, ⟨"java/util/ArrayList", "add", "(Ljava/lang/Object;)Z"⟩), ("java/util/ArrayList$Itr", ⟨"java/util/Iterator", "hasNext", "()Z"⟩, ⟨"java/util/ArrayList$Itr", "hasNext", "()Z"⟩), ("java/util/ArrayList$Itr", ⟨"java/util/Iterator", "next", "()Ljava/lang/Object;"⟩, ⟨"java/util/ArrayList$Itr", "next", "()Ljava/lang/Object;"⟩)]
theorem kz_facesOk : ∀ q ∈ kz_faces, q.2.1.cls ≠ "java/lang/invoke/MethodHandle" ∧ q.2.1.cls ≠ "java/lang/invoke/VarHandle" := by decide +kernel
def kz_K (G : kz_G) (U : State) : Prop := (∀ w ∈ lw_tbl, kz_ok w = true → ∀ A : Array Value, w.before A U = true) ∧ va_K G.2.1 vwCl [] U ∧ (((∀ C, Cond.arrayOver (.object C) ∈ lw_tbl → va_AO C U) ∧ (∀ q ∈ kz_faces, va_Fw q.1 q.2.1 q.2.2 U) ∧ va_Mi "[Ljava/lang/Object;" (G.2.2.2 3001) U) ∧ ∀ q ∈ kz_strs, vk_R q.1 q.2.1 q.2.2.1 (G.2.2.2 q.2.2.2) U) ∧ G.2.2.1.vm.Alike U.vm
theorem kz_K.moved {G : kz_G} {s U : State} (hW : s.WarmedH U.vm) (h : kz_K G s) : kz_K G U := by
  obtain ⟨h1, h2, h3, h4⟩ := h
  refine ⟨fun w hw hk A => ?_, h2.moved hW.alike, ⟨⟨fun C hC => (h3.1.1 C hC).moved hW.alike, fun q hq => (h3.1.2.1 q hq).moved (kz_facesOk q hq) hW.alike, h3.1.2.2.moved hW.alike⟩, fun q hq => (h3.2 q hq).warm hW⟩, h4.trans hW.alike⟩
  cases w with
  | methodLinkNest a b c d => exact va_Nw.use rfl (va_Nw.warmM hW (h1 _ hw hk #[]))
  | fieldLinkNest a b c d e f => exact va_Nw.use rfl (va_Nw.warmF hW (h1 _ hw hk #[]))
  | castable a b => exact va_Nw.use rfl (va_Nw.warmC hW (h1 _ hw hk #[]))
  | declares a => exact va_Nw.use rfl (va_Nw.warmD hW (h1 _ hw hk #[]))
  | _ => exact word_at hW (good_of_word hk) (h1 _ hw hk #[])
def kz_code (μ : kz_Y) : Cond := match μ.2.2.2.2 with
  | [] => .code μ.1 μ.2.1 μ.2.2.1 μ.2.2.2.1
  | hh => .codeWith μ.1 μ.2.1 μ.2.2.1 μ.2.2.2.1 hh
def kz_rm (d mc ms : Nat) : Room := { frames := d, cells := mc, slots := ms, locals := 37 * d }
def kz_Qc (G : kz_G) (Qr : Option Value → kz_M → Prop) : Array Value → State → Outcome → State → Prop := fun _ _ o t => ∃ v M1, o = .returned (v.map (kz_v G)) ∧ Qr v M1 ∧ kz_H G M1 t.heap
def kz_Xc (G : kz_G) (Qx : String → kz_M → Prop) : String → State → State → Prop := fun E _ t => ∃ M1, Qx E M1 ∧ kz_H G M1 t.heap
def kz_B (G : kz_G) (M : kz_M) (U : State) : Prop := kz_H G M U.heap ∧ kz_K G U
/-- a call: from the heap M with these arguments the method returns with Qr or throws with Qx -/
def kz_C (G : kz_G) (d mc ms : Nat) (μ : kz_Y) (as : List Value) (M : kz_M) (Qr : Option Value → kz_M → Prop) (Qx : String → kz_M → Prop) : Prop :=
  vx_Met G.1 μ.1 [kz_code μ] (kz_rm d mc ms) (va_Pc (as.map (kz_v G)) (kz_B G M)) (kz_Qc G Qr) (kz_Xc G Qx) mc ms (fun q => G.2.2.1.heap.size ≤ q)
/-- a frame of the method -/
def kz_F (G : kz_G) (d mc ms : Nat) (μ : kz_Y) (p : Program) (R : Room) (s : State) (m : MethodId) (meth : Method) (cd : Code) : Prop :=
  p.tables.exec = Jvm.exec ∧ cd.code = μ.2.1 ∧ meth.sig.returnType = μ.2.2.2.1 ∧ cd.maxLocals = μ.2.2.1 ∧ s.vm.findClass μ.1.cls = some m.cls ∧ meth.locks = false ∧ meth.name = μ.1.name ∧ cd.exceptionTable.toList = tableOf μ.2.2.2.2 ∧ kz_K G s ∧ (G.2.2.1.heap.size ≤ s.heap.size ∧ ∀ q, q < G.2.2.1.heap.size → s.heap[q]? = G.2.2.1.heap[q]?) ∧ R = kz_rm d mc ms
def kz_Z (G : kz_G) (d mc ms : Nat) (μ : kz_Y) (Qr : Option Value → kz_M → Prop) (Qx : String → kz_M → Prop) (pc : Nat) (ls : List (Nat × Value)) (st : List Value) (M : kz_M) (c sl : Nat) : Prop :=
  ∀ (p : Program) (e : Env) (R : Room) (s : State) (m : MethodId) (args : Array Value) (below : List Frame) (meth : Method) (cd : Code) (H : Heap) (locs : List Loc) (la : Array Slot),
    kz_F G d mc ms μ p R s m meth cd → lv_has la μ.2.2.1 (ls.map fun q => (q.1, kz_v G q.2)) → kz_H G M H → (∀ q ∈ locs, G.2.2.1.heap.size ≤ q.base) →
    W p G.1 e R s m args below meth cd H locs c sl (vx_MQ below (kz_Qc G Qr) (kz_Xc G Qx) args s mc ms (fun q => G.2.2.1.heap.size ≤ q)) (F0 m pc la (st.map (kz_v G)))
theorem kz_mono {G : kz_G} {d mc ms : Nat} {μ : kz_Y} {Qr Qr' : Option Value → kz_M → Prop} {Qx Qx' : String → kz_M → Prop} {pc : Nat} {ls : List (Nat × Value)} {st : List Value} {M : kz_M} {c sl : Nat} (h1 : ∀ v M1, Qr v M1 → Qr' v M1) (h2 : ∀ E M1, Qx E M1 → Qx' E M1) (h : kz_Z G d mc ms μ Qr Qx pc ls st M c sl) : kz_Z G d mc ms μ Qr' Qx' pc ls st M c sl := by
  intro p e R s m args below meth cd H locs la hF hl hH hL T hT X
  obtain ⟨t, a1, o, b1, b2, b3⟩ := h p e R s m args below meth cd H locs la hF hl hH hL T hT X
  refine ⟨t, a1, o, b1, b2, ?_⟩
  rcases b3 with ⟨⟨v, M1, e1, e2, e3⟩, e4⟩ | ⟨q, e1, E, ce, L, ⟨M1, e2, e3⟩, e4⟩
  · exact Or.inl ⟨⟨v, M1, e1, h1 _ _ e2, e3⟩, e4⟩
  · exact Or.inr ⟨q, e1, E, ce, L, ⟨M1, h2 _ _ e2, e3⟩, e4⟩
theorem kz_Cmono {G : kz_G} {d mc ms : Nat} {μ : kz_Y} {Qr Qr' : Option Value → kz_M → Prop} {Qx Qx' : String → kz_M → Prop} {as : List Value} {M : kz_M} (h1 : ∀ v M1, Qr v M1 → Qr' v M1) (h2 : ∀ E M1, Qx E M1 → Qx' E M1) (h : kz_C G d mc ms μ as M Qr Qx) : kz_C G d mc ms μ as M Qr' Qx' := by
  intro p e a1 a2 a3 s m args below a4 a5 hP hK
  obtain ⟨k, o, b1, b2, b3, b4⟩ := h p e a1 a2 a3 s m args below a4 a5 hP hK
  refine ⟨k, o, b1, b2, b3, ?_⟩
  rcases b4 with ⟨⟨v, M1, e1, e2, e3⟩, e4⟩ | ⟨q, e1, E, ce, L, ⟨M1, e2, e3⟩, e4⟩
  · exact Or.inl ⟨⟨v, M1, e1, h1 _ _ e2, e3⟩, e4⟩
  · exact Or.inr ⟨q, e1, E, ce, L, ⟨M1, h2 _ _ e2, e3⟩, e4⟩
