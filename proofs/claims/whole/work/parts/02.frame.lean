/-! memory of one side: ints by object and place, longs likewise -/
abbrev Mem : Type := (Nat → Nat → Int32) × (Nat → Nat → Int64)
def uA (t : Mem) (o : Nat) (f : Nat → Int32) : Mem := (fun i => if i = o then f else t.1 i, t.2)
def uB (t : Mem) (o : Nat) (f : Nat → Int64) : Mem := (t.1, fun i => if i = o then f else t.2 i)
abbrev uI (t : Mem) (o j : Nat) (v : Int32) : Mem := uA t o (upd (t.1 o) j v)
abbrev uL (t : Mem) (o j : Nat) (v : Int64) : Mem := uB t o (vp_updL (t.2 o) j v)
abbrev oLd (L : Fin 3) : Nat := 1 + L.val
abbrev oKn (L : Fin 3) : Nat := 4 + L.val
abbrev oMk (L : Fin 3) : Nat := 7 + L.val
abbrev oRd (L : Fin 3) : Nat := 10 + L.val
abbrev oLn (J : Fin 2) : Nat := 13 + J.val
abbrev oCe (J : Fin 2) : Nat := 15 + J.val
abbrev oSh (K : Fin 8) : Nat := 18 + K.val
abbrev oEl (K : Fin 8) : Nat := 26 + K.val
/-! class numbers of the arrays; the addresses of static arrays, of texts, of their bytes -/
abbrev Gv : Type := (ClassId × ClassId × ClassId) × (Nat → Nat) × (Nat → Nat) × (Nat → Nat)
def tysG (g : Gv) : List (ClassId × FieldType) := [(g.1.1, .int), (g.1.2.1, .long), (g.1.2.2, .object "MillOfDistances$Shelf")]
abbrev vwCl : List vw_C := [(RX0, TX0, 5), (RX1, TX1, 7), (RX2, TX2, 2), (RX3, TX3, 4), (RX4, TX4, 4), (RX5, TX5, 10), (RX6, TX6, 22)]
def wsA (ad : Nat → Nat) (g : Gv) (t u : Mem) : va_W := [
  (ad 0, .inr (5, [.ref (ad 1), .ref (ad 2), .ref (ad 3), .ref (ad 13), .ref (ad 14), .ref (ad 17), .ref (ad 34), .ref (ad 35), .ref (ad 37), .int (t.1 0 9)])),
  (ad 1, .inr (1, [.ref (ad 4), .ref (ad 7), .ref (ad 10), .int (t.1 1 3), .int (t.1 1 4), .int (t.1 1 5), .int (t.1 1 6)])),
  (ad 2, .inr (1, [.ref (ad 5), .ref (ad 8), .ref (ad 11), .int (t.1 2 3), .int (t.1 2 4), .int (t.1 2 5), .int (t.1 2 6)])),
  (ad 3, .inr (1, [.ref (ad 6), .ref (ad 9), .ref (ad 12), .int (t.1 3 3), .int (t.1 3 4), .int (t.1 3 5), .int (t.1 3 6)])),
  (ad 4, .inl (g.1.1, 8, .inl (t.1 4))),
  (ad 5, .inl (g.1.1, 8, .inl (t.1 5))),
  (ad 6, .inl (g.1.1, 8, .inl (t.1 6))),
  (ad 7, .inl (g.1.1, 8, .inl (t.1 7))),
  (ad 8, .inl (g.1.1, 8, .inl (t.1 8))),
  (ad 9, .inl (g.1.1, 8, .inl (t.1 9))),
  (ad 10, .inl (g.1.1, 64, .inl (t.1 10))),
  (ad 11, .inl (g.1.1, 64, .inl (t.1 11))),
  (ad 12, .inl (g.1.1, 64, .inl (t.1 12))),
  (ad 13, .inr (2, [.ref (ad 15), .int (t.1 13 1)])),
  (ad 14, .inr (2, [.ref (ad 16), .int (t.1 14 1)])),
  (ad 15, .inl (g.1.1, 64, .inl (t.1 15))),
  (ad 16, .inl (g.1.1, 64, .inl (t.1 16))),
  (ad 17, .inl (g.1.2.2, 8, .inr (.inr (.inr (.inr (fun j => some (ad (18 + j)))))))),
  (ad 18, .inr (4, [.ref (ad 26), .int (t.1 18 1), .int (t.1 18 2), .int (t.1 18 3)])),
  (ad 19, .inr (4, [.ref (ad 27), .int (t.1 19 1), .int (t.1 19 2), .int (t.1 19 3)])),
  (ad 20, .inr (4, [.ref (ad 28), .int (t.1 20 1), .int (t.1 20 2), .int (t.1 20 3)])),
  (ad 21, .inr (4, [.ref (ad 29), .int (t.1 21 1), .int (t.1 21 2), .int (t.1 21 3)])),
  (ad 22, .inr (4, [.ref (ad 30), .int (t.1 22 1), .int (t.1 22 2), .int (t.1 22 3)])),
  (ad 23, .inr (4, [.ref (ad 31), .int (t.1 23 1), .int (t.1 23 2), .int (t.1 23 3)])),
  (ad 24, .inr (4, [.ref (ad 32), .int (t.1 24 1), .int (t.1 24 2), .int (t.1 24 3)])),
  (ad 25, .inr (4, [.ref (ad 33), .int (t.1 25 1), .int (t.1 25 2), .int (t.1 25 3)])),
  (ad 26, .inl (g.1.2.1, 160, .inr (.inl (t.2 26)))),
  (ad 27, .inl (g.1.2.1, 160, .inr (.inl (t.2 27)))),
  (ad 28, .inl (g.1.2.1, 160, .inr (.inl (t.2 28)))),
  (ad 29, .inl (g.1.2.1, 160, .inr (.inl (t.2 29)))),
  (ad 30, .inl (g.1.2.1, 160, .inr (.inl (t.2 30)))),
  (ad 31, .inl (g.1.2.1, 160, .inr (.inl (t.2 31)))),
  (ad 32, .inl (g.1.2.1, 160, .inr (.inl (t.2 32)))),
  (ad 33, .inl (g.1.2.1, 160, .inr (.inl (t.2 33)))),
  (ad 34, .inl (g.1.1, 8, .inl (t.1 34))),
  (ad 35, .inr (3, [.int (t.1 35 0), .ref (ad 36), .int (t.1 35 2), .int (t.1 35 3)])),
  (ad 36, .inl (g.1.1, 3, .inl (t.1 36))),
  (ad 37, .inr (0, [.ref (ad 38), .int (t.1 37 1), .int (t.1 37 2), .int (t.1 37 3), .int (t.1 37 4)])),
  (ad 38, .inl (g.1.1, 20, .inl (t.1 38))),
  (ad 39, .inr (6, [.ref (ad 40), .ref (ad 41), .ref (ad 42), .int (u.1 39 3), .ref (ad 43), .ref (ad 44), .ref (ad 45), .int (u.1 39 7), .int (u.1 39 8), .int (u.1 39 9), .int (u.1 39 10), .ref (ad 46), .int (u.1 39 12), .ref (ad 47), .int (u.1 39 14), .ref (ad 48), .ref (ad 49), .int (u.1 39 17), .int (u.1 39 18), .ref (ad 50), .ref (ad 51), .ref (ad 52)])),
  (ad 40, .inl (g.1.1, 8, .inl (u.1 40))),
  (ad 41, .inl (g.1.1, 8, .inl (u.1 41))),
  (ad 42, .inl (g.1.2.1, 1280, .inr (.inl (u.2 42)))),
  (ad 43, .inl (g.1.1, 8, .inl (u.1 43))),
  (ad 44, .inl (g.1.1, 8, .inl (u.1 44))),
  (ad 45, .inl (g.1.1, 64, .inl (u.1 45))),
  (ad 46, .inl (g.1.1, 8, .inl (u.1 46))),
  (ad 47, .inl (g.1.1, 20, .inl (u.1 47))),
  (ad 48, .inl (g.1.1, 84, .inl (u.1 48))),
  (ad 49, .inl (g.1.1, 84, .inl (u.1 49))),
  (ad 50, .inl (g.1.1, 3, .inl (u.1 50))),
  (ad 51, .inl (g.1.1, 64, .inl (u.1 51))),
  (ad 52, .inl (g.1.1, 64, .inl (u.1 52)))]
theorem wsA_fst (ad : Nat → Nat) (g : Gv) (t u : Mem) : (wsA ad g t u).map Prod.fst = (List.range 53).map ad := rfl
/-- the world's addresses, and all from sz on -/
def Awd (ad : Nat → Nat) (sz : Nat) : Nat → Prop := fun q => (∃ i, i < 53 ∧ ad i = q) ∨ sz ≤ q
def Jad (ad : Nat → Nat) : Prop := ∀ i j, i < 53 → j < 53 → ad i = ad j → i = j
theorem wsA_at {ad : Nat → Nat} {g : Gv} {t u : Mem} {k : Nat} {q : Nat × va_E} (h : (wsA ad g t u)[k]? = some q) : k < 53 ∧ q.1 = ad k := by
  have h1 : ((wsA ad g t u).map Prod.fst)[k]? = some q.1 := by rw [List.getElem?_map, h]; rfl
  rw [wsA_fst, List.getElem?_map] at h1
  have hk : k < 53 := by
    rcases Nat.lt_or_ge k 53 with hk | hk
    · exact hk
    · rw [List.getElem?_eq_none (by simpa using hk)] at h1
      cases h1
  rw [List.getElem?_range hk] at h1
  exact ⟨hk, (Option.some.inj h1).symm⟩
theorem wsA_D {ad : Nat → Nat} {g : Gv} {A : Nat → Prop} (hJ : Jad ad) (hA : ∀ i, i < 53 → A (ad i)) (t u : Mem) : va_D A (wsA ad g t u) :=
  ⟨fun i j p q hi hj he => hJ i j (wsA_at hi).1 (wsA_at hj).1 (by rw [← (wsA_at hi).2, ← (wsA_at hj).2]; exact he), fun k q h => by rw [(wsA_at h).2]; exact hA k (wsA_at h).1⟩
/-! statics that nobody writes -/
def kaF (j : Nat) : Int32 := match j with | 0 => -1 | 1 => 0 | 2 => 0 | 3 => 1 | 4 => 0 | 5 => 2 | _ => 4
def nuF (j : Nat) : Int32 := match j with | 0 => 2 | 1 => 3 | 2 => 2 | 3 => 1 | 4 => 1 | 5 => 3 | _ => 3
def boF (j : Nat) : Int32 := match j with | 0 => 10 | 1 => 11 | 2 => 12 | 3 => 20 | 4 => 0 | 5 => 0 | 6 => 0 | 7 => 30 | 8 => 0 | 9 => 0 | 10 => 40 | 11 => 0 | 12 => 51 | 13 => 0 | 14 => 50 | 15 => 0 | 16 => 0 | 17 => 60 | 18 => 70 | 19 => 71 | _ => 0
def txL : List Nat := [5, 4, 4, 5, 4, 4, 3, 3, 2]
def txB : List (List Int32) := [[112, 108, 97, 99, 101], [114, 111, 97, 100], [109, 105, 108, 108], [102, 108, 111, 117, 114], [119, 105, 110, 100], [110, 101, 97, 114], [102, 97, 114], [111, 117, 114], [97, 114]]
def txC (i : Nat) (j : Nat) : Int32 := (txB.getD i []).getD j 0

def Sti (A : Nat → Prop) (g : Gv) (s : State) (H : Heap) : Prop :=
  (va_Z "MillOfDistances" "KIND_ABOVE" "[I" (.ref (g.2.1 0)) A s H ∧ va_T .int (g.2.1 0) 7 (fun j => .int (kaF j)) A s H) ∧
  (va_Z "MillOfDistances$MapReader" "NUMBERS" "[I" (.ref (g.2.1 1)) A s H ∧ va_T .int (g.2.1 1) 7 (fun j => .int (nuF j)) A s H) ∧
  (va_Z "MillOfDistances$Doer" "BODIES" "[I" (.ref (g.2.1 2)) A s H ∧ va_T .int (g.2.1 2) 21 (fun j => .int (boF j)) A s H) ∧
  vk_S 9 txL txB g.2.2.1 g.2.2.2 A s H ∧ va_Z "java/lang/String" "COMPACT_STRINGS" "Z" (.int 1) A s H ∧ va_Zq "jdk/internal/util/Preconditions" "SIOOBE_FORMATTER" "Ljava/util/function/BiFunction;" A s H
def Sts (g : Gv) (s : State) : Prop :=
  vk_R "MillOfDistances$MapReader" 87 "place" (g.2.2.1 0) s ∧ vk_R "MillOfDistances$MapReader" 89 "road" (g.2.2.1 1) s ∧ vk_R "MillOfDistances$MapReader" 91 "mill" (g.2.2.1 2) s ∧ vk_R "MillOfDistances$MapReader" 93 "flour" (g.2.2.1 3) s ∧ vk_R "MillOfDistances$MapReader" 95 "wind" (g.2.2.1 4) s ∧ vk_R "MillOfDistances$MapReader" 97 "near" (g.2.2.1 5) s ∧ vk_R "MillOfDistances$MapReader" 99 "far" (g.2.2.1 6) s ∧ vk_R "MillOfDistancesModel" 144 "place" (g.2.2.1 0) s ∧ vk_R "MillOfDistancesModel" 149 "road" (g.2.2.1 1) s ∧ vk_R "MillOfDistancesModel" 155 "mill" (g.2.2.1 2) s ∧ vk_R "MillOfDistancesModel" 161 "our" (g.2.2.1 7) s ∧ vk_R "MillOfDistancesModel" 163 "near" (g.2.2.1 5) s ∧ vk_R "MillOfDistancesModel" 165 "ar" (g.2.2.1 8) s ∧ vk_R "MillOfDistancesModel" 174 "wind" (g.2.2.1 4) s ∧
  va_Nw (Cond.fieldLinkNest "MillOfDistances$Land" 44 "MillOfDistances" "KIND_ABOVE" "[I" "MillOfDistances") s ∧
  va_Nw (Cond.methodLinkNest "MillOfDistances$Lengths" 30 yX5_pairOf "MillOfDistances") s ∧
  va_Nw (Cond.methodLinkNest "MillOfDistances$Doer" 32 yX5_isKind "MillOfDistances") s ∧
  va_Nw (Cond.methodLinkNest "MillOfDistances$Doer" 39 yX5_kindAbove "MillOfDistances") s
def Stt (A : Nat → Prop) (g : Gv) (s : State) (H : Heap) : Prop := Sti A g s H ∧ Sts g s
theorem Sti.moved {A : Nat → Prop} {g : Gv} {u U : State} {H : Heap} (hvm : u.vm.Alike U.vm) (h : Sti A g u H) : Sti A g U H := by
  obtain ⟨⟨a1, a2⟩, ⟨b1, b2⟩, ⟨c1, c2⟩, d, e, f⟩ := h
  exact ⟨⟨a1.moved hvm, a2.moved hvm⟩, ⟨b1.moved hvm, b2.moved hvm⟩, ⟨c1.moved hvm, c2.moved hvm⟩, d.moved hvm, e.moved hvm, f.moved hvm⟩
theorem Sti.kept {A : Nat → Prop} {g : Gv} {U : State} {H H1 : Heap} (h : Sti A g U H) (hq : ∀ a : Nat, a < H.size → ¬ A a → H1[a]? = H[a]?) : Sti A g U H1 := by
  obtain ⟨⟨a1, a2⟩, ⟨b1, b2⟩, ⟨c1, c2⟩, d, e, f⟩ := h
  exact ⟨⟨a1.kept hq, a2.kept hq⟩, ⟨b1.kept hq, b2.kept hq⟩, ⟨c1.kept hq, c2.kept hq⟩, d.kept hq, e.kept hq, f.kept hq⟩
theorem Sti.narrow {A B : Nat → Prop} {g : Gv} {U : State} {H : Heap} (h : Sti A g U H) (hAB : ∀ q, B q → A q) : Sti B g U H := by
  obtain ⟨⟨a1, a2⟩, ⟨b1, b2⟩, ⟨c1, c2⟩, d, e, f⟩ := h
  exact ⟨⟨a1.narrow hAB, a2.narrow hAB⟩, ⟨b1.narrow hAB, b2.narrow hAB⟩, ⟨c1.narrow hAB, c2.narrow hAB⟩, d.narrow hAB, e.narrow hAB, f.narrow hAB⟩
theorem Sts.same {g : Gv} {u U : State} (hv : U.vm = u.vm) (h : Sts g u) : Sts g U := by
  obtain ⟨r0, r1, r2, r3, r4, r5, r6, r7, r8, r9, r10, r11, r12, r13, n335, n736, n816, n819⟩ := h
  exact ⟨r0.same hv, r1.same hv, r2.same hv, r3.same hv, r4.same hv, r5.same hv, r6.same hv, r7.same hv, r8.same hv, r9.same hv, r10.same hv, r11.same hv, r12.same hv, r13.same hv, va_Nw.same rfl hv.symm n335, va_Nw.same rfl hv.symm n736, va_Nw.same rfl hv.symm n816, va_Nw.same rfl hv.symm n819⟩
theorem Sts.warm {g : Gv} {s U : State} (hW : s.WarmedH U.vm) (h : Sts g s) : Sts g U := by
  obtain ⟨r0, r1, r2, r3, r4, r5, r6, r7, r8, r9, r10, r11, r12, r13, n335, n736, n816, n819⟩ := h
  exact ⟨r0.warm hW, r1.warm hW, r2.warm hW, r3.warm hW, r4.warm hW, r5.warm hW, r6.warm hW, r7.warm hW, r8.warm hW, r9.warm hW, r10.warm hW, r11.warm hW, r12.warm hW, r13.warm hW, va_Nw.warmF hW n335, va_Nw.warmM hW n736, va_Nw.warmM hW n816, va_Nw.warmM hW n819⟩
/-! the words that a method may be given -/
def gw : List Cond := lw_tbl.filter goodWord
theorem gm {w : Cond} (h : w ∈ lw_tbl) (hg : goodWord w = true) : w ∈ gw := List.mem_filter.mpr ⟨h, hg⟩
/-! contracts -/
def rmD (d : Nat) : Room := { frames := d, cells := 0, slots := 0, locals := 64 * d }
def Pre (D : va_G) (ad : Nat → Nat) (g : Gv) (sz : Nat) (t u : Mem) (U : State) : Prop := U.heap.size = sz ∧ va_P D vwCl (wsA ad g t u) U.heap ∧ va_K D vwCl (tysG g) U ∧ Stt (Awd ad sz) g U U.heap
def Wld (D : va_G) (ad : Nat → Nat) (g : Gv) (t u : Mem) : Unit → State → Prop := fun _ T => va_P D vwCl (wsA ad g t u) T.heap
def ConI (l : Launch) (y : MethodName) (cc : ByteArray) (nL : Nat) (ret : Option FieldType) (d : Nat) (dv : List Value) (D : va_G) (ad : Nat → Nat) (g : Gv) (t u t' u' : Mem) (r : Int32) : Prop :=
  ∀ sz : Nat, Met l y (.code y cc nL ret :: gw) (rmD d) (va_Pc dv (Pre D ad g sz t u)) (va_Qi (fun (r0 : Int32) (_ : Unit) => r0 = r) (Wld D ad g t' u') (Awd ad sz)) 0 0 (Awd ad sz)
def ConL (l : Launch) (y : MethodName) (cc : ByteArray) (nL : Nat) (ret : Option FieldType) (d : Nat) (dv : List Value) (D : va_G) (ad : Nat → Nat) (g : Gv) (t u t' u' : Mem) (r : Int64) : Prop :=
  ∀ sz : Nat, Met l y (.code y cc nL ret :: gw) (rmD d) (va_Pc dv (Pre D ad g sz t u)) (va_Ql (fun (r0 : Int64) (_ : Unit) => r0 = r) (Wld D ad g t' u') (Awd ad sz)) 0 0 (Awd ad sz)
def ConV (l : Launch) (y : MethodName) (cc : ByteArray) (nL : Nat) (ret : Option FieldType) (d : Nat) (dv : List Value) (D : va_G) (ad : Nat → Nat) (g : Gv) (t u t' u' : Mem) : Prop :=
  ∀ sz : Nat, Met l y (.code y cc nL ret :: gw) (rmD d) (va_Pc dv (Pre D ad g sz t u)) (va_Qv (fun (_ : Unit) => True) (Wld D ad g t' u') (Awd ad sz)) 0 0 (Awd ad sz)
def ConQ (l : Launch) (y : MethodName) (cc : ByteArray) (nL : Nat) (ret : Option FieldType) (d : Nat) (dv : List Value) (D : va_G) (ad : Nat → Nat) (g : Gv) (t u t' u' : Mem) (r : Option Nat) : Prop :=
  ∀ sz : Nat, Met l y (.code y cc nL ret :: gw) (rmD d) (va_Pc dv (Pre D ad g sz t u)) (va_Qq (fun (r0 : Option Nat) (_ : Unit) => r0 = r) (Wld D ad g t' u') (Awd ad sz)) 0 0 (Awd ad sz)
/-! the machine at a place of a method, over the world -/
abbrev Cx : Type := Program × Launch × Env × Room × State × MethodId × Array Value × List Frame × Method × Code × (State → Prop) × (Nat → Prop) × Nat × Nat × Nat
def G (X : Cx) (D : va_G) (ad : Nat → Nat) (g : Gv) (t u : Mem) (lv : List (Nat × Value)) (pc : Nat) (st : List Value) : Prop :=
  match X with
  | (p, l, e, R, s, m, args, below, meth, c, Q, A, nL, cells, slots) => ∀ (H : Heap) (locs : List Loc) (ls : Array Slot), lv_has ls nL lv → va_P D vwCl (wsA ad g t u) H → va_S A s.heap H locs → W p l e R s m args below meth c H locs cells slots Q (F0 m pc ls st)
/-- what stays: the machine, the code, the tables, the classes, the statics, room for calls of depth d, N locals -/
def Fx (X : Cx) (l0 : Launch) (D : va_G) (ad : Nat → Nat) (g : Gv) (cc : ByteArray) (own : String) (d N : Nat) : Prop :=
  match X with
  | (p, l, _, R, s, m, args, _, _, c, _, A, nL, cells, slots) => p.tables.exec = Jvm.exec ∧ c.code = cc ∧ c.maxLocals = nL ∧ s.vm.findClass own = some m.cls ∧ (∀ w ∈ gw, w.before args s = true) ∧ va_K D vwCl (tysG g) s ∧ Jad ad ∧ Stt A g s s.heap ∧ (∀ q, s.heap.size ≤ q → A q) ∧ (∀ i, i < 53 → A (ad i)) ∧ (d ≤ R.frames ∧ 64 * d ≤ R.locals ∧ cells ≤ R.cells ∧ slots ≤ R.slots) ∧ nL = N ∧ l = l0
theorem good_tbl : GoodIn gw gw := fun w h => ⟨h, good_of_word (List.mem_filter.mp h).2⟩
theorem con_body {y : MethodName} {cc : ByteArray} {nL : Nat} {ret : Option FieldType} {d : Nat} {dv : List Value} {D : va_G} {ad : Nat → Nat} {g : Gv} {t u : Mem} {sz : Nat} {l : Launch} {Qc : Array Value → State → Outcome → State → Prop} (hJ : Jad ad) (hy : plainName y.cls = true) (hln : (lg_sl dv).length ≤ nL)
    (body : ∀ (p : Program) (e : Env) (s : State) (m : MethodId) (args : Array Value) (below : List Frame) (meth : Method) (c : Code), Fx (p, l, e, rmD d, s, m, args, below, meth, c, MQ below Qc args s 0 0 (Awd ad sz), Awd ad sz, nL, 0, 0) l D ad g cc y.cls d nL → meth.sig.returnType = ret → meth.locks = false → s.heap.size = sz → G (p, l, e, rmD d, s, m, args, below, meth, c, MQ below Qc args s 0 0 (Awd ad sz), Awd ad sz, nL, 0, 0) D ad g t u (lv_args 0 dv) 0 []) :
    Met l y (.code y cc nL ret :: gw) (rmD d) (va_Pc dv (Pre D ad g sz t u)) Qc 0 0 (Awd ad sz) := by
  refine Met.ofW (cc := cc) (maxL := nL) (ret := ret) hy rfl ?_
  intro p e s m args below meth c s₁ B hml hv
  obtain ⟨rfl, hsz, hP, hK, hSt⟩ := hv
  have hts := atoms_spec (ws := .code y cc nL ret :: gw) B.pre
  have key := body p e s m dv.toArray below meth c ⟨B.exec, B.bytes, hml, findClass_of_methodNamed B.named, fun w h => hts w (List.mem_cons_of_mem _ h), hK, hJ, hSt, fun q h => Or.inr (hsz ▸ h), fun i hi => Or.inl ⟨i, hi, rfl⟩, ⟨Nat.le_refl _, Nat.le_refl _, Nat.le_refl _, Nat.le_refl _⟩, rfl, rfl⟩ B.returns B.notSynchronized hsz
  rw [lg_entry_eq]
  exact key s.heap [] _ (lv_entry dv hln) hP va_S.rf
theorem con_i {y : MethodName} {cc : ByteArray} {nL : Nat} {ret : Option FieldType} {ty : FieldType} {d : Nat} {dv : List Value} {D : va_G} {ad : Nat → Nat} {g : Gv} {t u t' u' : Mem} {r : Int32} {l : Launch} (hJ : Jad ad) (hy : plainName y.cls = true) (hln : (lg_sl dv).length ≤ nL) (hrt : ret = some ty)
    (body : ∀ X : Cx, Fx X l D ad g cc y.cls d nL → (∀ {pc q : Nat} {lv : List (Nat × Value)}, Dq cc pc .ireturn 1 q → narrow ty (.int r) = .int r → G X D ad g t' u' lv pc [.int r]) → G X D ad g t u (lv_args 0 dv) 0 []) : ConI l y cc nL ret d dv D ad g t u t' u' r := by
  intro sz
  refine con_body hJ hy hln (fun p e s m args below meth c F hr hlk hsz => body _ F (fun {pc q lv} hd hn H locs ls hl hP hS => ?_))
  exact W.zret (ty := ty) (hlocks := hlk) F.1 F.2.1 (hr.trans hrt) hn (fun T hT hW => ⟨⟨r, (), rfl, rfl, by show va_P _ _ _ T.heap; rw [hT]; exact hP⟩, hS.F hT⟩) hS.2.2 hd.1
theorem con_l {y : MethodName} {cc : ByteArray} {nL : Nat} {ret : Option FieldType} {d : Nat} {dv : List Value} {D : va_G} {ad : Nat → Nat} {g : Gv} {t u t' u' : Mem} {r : Int64} {l : Launch} (hJ : Jad ad) (hy : plainName y.cls = true) (hln : (lg_sl dv).length ≤ nL) (hrt : ret = some .long)
    (body : ∀ X : Cx, Fx X l D ad g cc y.cls d nL → (∀ {pc q : Nat} {lv : List (Nat × Value)}, Dq cc pc .lreturn 1 q → G X D ad g t' u' lv pc [.long r]) → G X D ad g t u (lv_args 0 dv) 0 []) : ConL l y cc nL ret d dv D ad g t u t' u' r := by
  intro sz
  refine con_body hJ hy hln (fun p e s m args below meth c F hr hlk hsz => body _ F (fun {pc q lv} hd H locs ls hl hP hS => ?_))
  exact W.lret (hlocks := hlk) F.1 F.2.1 (hr.trans hrt) (fun T hT hW => ⟨⟨r, (), rfl, rfl, by show va_P _ _ _ T.heap; rw [hT]; exact hP⟩, hS.F hT⟩) hS.2.2 hd.1
theorem con_v {y : MethodName} {cc : ByteArray} {nL : Nat} {ret : Option FieldType} {d : Nat} {dv : List Value} {D : va_G} {ad : Nat → Nat} {g : Gv} {t u t' u' : Mem} {l : Launch} (hJ : Jad ad) (hy : plainName y.cls = true) (hln : (lg_sl dv).length ≤ nL) (hrt : ret = none)
    (body : ∀ X : Cx, Fx X l D ad g cc y.cls d nL → (∀ {pc q : Nat} {lv : List (Nat × Value)}, Dq cc pc .return_ 1 q → G X D ad g t' u' lv pc []) → G X D ad g t u (lv_args 0 dv) 0 []) : ConV l y cc nL ret d dv D ad g t u t' u' := by
  intro sz
  refine con_body hJ hy hln (fun p e s m args below meth c F hr hlk hsz => body _ F (fun {pc q lv} hd H locs ls hl hP hS => ?_))
  exact W.vret (hlocks := hlk) F.1 F.2.1 (hr.trans hrt) (fun T hT hW => ⟨⟨(), rfl, trivial, by show va_P _ _ _ T.heap; rw [hT]; exact hP⟩, hS.F hT⟩) hS.2.2 hd.1
theorem con_q {y : MethodName} {cc : ByteArray} {nL : Nat} {ret : Option FieldType} {C : String} {d : Nat} {dv : List Value} {D : va_G} {ad : Nat → Nat} {g : Gv} {t u t' u' : Mem} {r : Option Nat} {l : Launch} (hJ : Jad ad) (hy : plainName y.cls = true) (hln : (lg_sl dv).length ≤ nL) (hrt : ret = some (.object C))
    (body : ∀ X : Cx, Fx X l D ad g cc y.cls d nL → (∀ {pc q : Nat} {lv : List (Nat × Value)}, Dq cc pc .areturn 1 q → G X D ad g t' u' lv pc [va_rf r]) → G X D ad g t u (lv_args 0 dv) 0 []) : ConQ l y cc nL ret d dv D ad g t u t' u' r := by
  intro sz
  refine con_body hJ hy hln (fun p e s m args below meth c F hr hlk hsz => body _ F (fun {pc q lv} hd H locs ls hl hP hS => ?_))
  exact W.aret (hlocks := hlk) F.1 F.2.1 (hr.trans hrt) (Or.inl ⟨_, rfl⟩) (va_rf_or r) (fun T hT hW => ⟨⟨r, (), rfl, rfl, by show va_P _ _ _ T.heap; rw [hT]; exact hP⟩, hS.F hT⟩) hS.2.2 hd.1
section GR
variable {X : Cx} {l0 : Launch} {D : va_G} {ad : Nat → Nat} {g : Gv} {cc : ByteArray} {own : String} {d N : Nat} {t u : Mem} {lv lv' : List (Nat × Value)} {pc q tgt : Nat} {st : List Value}
theorem g_lv (he : lv = lv') (k : G X D ad g t u lv' pc st) : G X D ad g t u lv pc st := he ▸ k
theorem g_sub (ks : List Nat) (he : lv_pick lv ks = lv') (k : G X D ad g t u lv' pc st) : G X D ad g t u lv pc st := by
  obtain ⟨p, l, e, R, s, m, args, below, meth, c, Q, A, nL, cells, slots⟩ := X
  exact fun H locs ls hl hP hS => k H locs ls (lv_sub hl ks he) hP hS
theorem g_st {st' : List Value} (he : st = st') (k : G X D ad g t u lv pc st') : G X D ad g t u lv pc st := he ▸ k
theorem g_iadd {x y : Int32} (F : Fx X l0 D ad g cc own d N) (hd : Dq cc pc (.iadd) 1 q) (k : G X D ad g t u lv q (.int (x + y) :: st)) : G X D ad g t u lv pc (.int y :: .int x :: st) := by
  obtain ⟨p, l, e, R, s, m, args, below, meth, c, Q, A, nL, cells, slots⟩ := X
  obtain ⟨hd, rfl⟩ := hd
  exact fun H locs ls hl hP hS => lv_iadd F.1 F.2.1 hd (k H locs ls hl hP hS)
theorem g_isub {x y : Int32} (F : Fx X l0 D ad g cc own d N) (hd : Dq cc pc (.isub) 1 q) (k : G X D ad g t u lv q (.int (x - y) :: st)) : G X D ad g t u lv pc (.int y :: .int x :: st) := by
  obtain ⟨p, l, e, R, s, m, args, below, meth, c, Q, A, nL, cells, slots⟩ := X
  obtain ⟨hd, rfl⟩ := hd
  exact fun H locs ls hl hP hS => lv_isub F.1 F.2.1 hd (k H locs ls hl hP hS)
theorem g_imul {x y : Int32} (F : Fx X l0 D ad g cc own d N) (hd : Dq cc pc (.imul) 1 q) (k : G X D ad g t u lv q (.int (x * y) :: st)) : G X D ad g t u lv pc (.int y :: .int x :: st) := by
  obtain ⟨p, l, e, R, s, m, args, below, meth, c, Q, A, nL, cells, slots⟩ := X
  obtain ⟨hd, rfl⟩ := hd
  exact fun H locs ls hl hP hS => lv_imul F.1 F.2.1 hd (k H locs ls hl hP hS)
theorem g_iand {x y : Int32} (F : Fx X l0 D ad g cc own d N) (hd : Dq cc pc (.iand) 1 q) (k : G X D ad g t u lv q (.int (x &&& y) :: st)) : G X D ad g t u lv pc (.int y :: .int x :: st) := by
  obtain ⟨p, l, e, R, s, m, args, below, meth, c, Q, A, nL, cells, slots⟩ := X
  obtain ⟨hd, rfl⟩ := hd
  exact fun H locs ls hl hP hS => lv_iand F.1 F.2.1 hd (k H locs ls hl hP hS)
theorem g_ior {x y : Int32} (F : Fx X l0 D ad g cc own d N) (hd : Dq cc pc (.ior) 1 q) (k : G X D ad g t u lv q (.int (x ||| y) :: st)) : G X D ad g t u lv pc (.int y :: .int x :: st) := by
  obtain ⟨p, l, e, R, s, m, args, below, meth, c, Q, A, nL, cells, slots⟩ := X
  obtain ⟨hd, rfl⟩ := hd
  exact fun H locs ls hl hP hS => lv_ior F.1 F.2.1 hd (k H locs ls hl hP hS)
theorem g_ixor {x y : Int32} (F : Fx X l0 D ad g cc own d N) (hd : Dq cc pc (.ixor) 1 q) (k : G X D ad g t u lv q (.int (x ^^^ y) :: st)) : G X D ad g t u lv pc (.int y :: .int x :: st) := by
  obtain ⟨p, l, e, R, s, m, args, below, meth, c, Q, A, nL, cells, slots⟩ := X
  obtain ⟨hd, rfl⟩ := hd
  exact fun H locs ls hl hP hS => lv_ixor F.1 F.2.1 hd (k H locs ls hl hP hS)
theorem g_ladd {x y : Int64} (F : Fx X l0 D ad g cc own d N) (hd : Dq cc pc (.ladd) 1 q) (k : G X D ad g t u lv q (.long (x + y) :: st)) : G X D ad g t u lv pc (.long y :: .long x :: st) := by
  obtain ⟨p, l, e, R, s, m, args, below, meth, c, Q, A, nL, cells, slots⟩ := X
  obtain ⟨hd, rfl⟩ := hd
  exact fun H locs ls hl hP hS => lv_ladd F.1 F.2.1 hd (k H locs ls hl hP hS)
theorem g_lsub {x y : Int64} (F : Fx X l0 D ad g cc own d N) (hd : Dq cc pc (.lsub) 1 q) (k : G X D ad g t u lv q (.long (x - y) :: st)) : G X D ad g t u lv pc (.long y :: .long x :: st) := by
  obtain ⟨p, l, e, R, s, m, args, below, meth, c, Q, A, nL, cells, slots⟩ := X
  obtain ⟨hd, rfl⟩ := hd
  exact fun H locs ls hl hP hS => lv_lsub F.1 F.2.1 hd (k H locs ls hl hP hS)
theorem g_lmul {x y : Int64} (F : Fx X l0 D ad g cc own d N) (hd : Dq cc pc (.lmul) 1 q) (k : G X D ad g t u lv q (.long (x * y) :: st)) : G X D ad g t u lv pc (.long y :: .long x :: st) := by
  obtain ⟨p, l, e, R, s, m, args, below, meth, c, Q, A, nL, cells, slots⟩ := X
  obtain ⟨hd, rfl⟩ := hd
  exact fun H locs ls hl hP hS => lv_lmul F.1 F.2.1 hd (k H locs ls hl hP hS)
theorem g_land {x y : Int64} (F : Fx X l0 D ad g cc own d N) (hd : Dq cc pc (.land) 1 q) (k : G X D ad g t u lv q (.long (x &&& y) :: st)) : G X D ad g t u lv pc (.long y :: .long x :: st) := by
  obtain ⟨p, l, e, R, s, m, args, below, meth, c, Q, A, nL, cells, slots⟩ := X
  obtain ⟨hd, rfl⟩ := hd
  exact fun H locs ls hl hP hS => lv_land F.1 F.2.1 hd (k H locs ls hl hP hS)
theorem g_lor {x y : Int64} (F : Fx X l0 D ad g cc own d N) (hd : Dq cc pc (.lor) 1 q) (k : G X D ad g t u lv q (.long (x ||| y) :: st)) : G X D ad g t u lv pc (.long y :: .long x :: st) := by
  obtain ⟨p, l, e, R, s, m, args, below, meth, c, Q, A, nL, cells, slots⟩ := X
  obtain ⟨hd, rfl⟩ := hd
  exact fun H locs ls hl hP hS => lv_lor F.1 F.2.1 hd (k H locs ls hl hP hS)
theorem g_idiv {x y : Int32} (F : Fx X l0 D ad g cc own d N) (hd : Dq cc pc (.idiv) 1 q) (hy : ¬ y = 0) (k : G X D ad g t u lv q (.int (x / y) :: st)) : G X D ad g t u lv pc (.int y :: .int x :: st) := by
  obtain ⟨p, l, e, R, s, m, args, below, meth, c, Q, A, nL, cells, slots⟩ := X
  obtain ⟨hd, rfl⟩ := hd
  exact fun H locs ls hl hP hS => lv_idiv F.1 F.2.1 hd hy (k H locs ls hl hP hS)
theorem g_irem {x y : Int32} (F : Fx X l0 D ad g cc own d N) (hd : Dq cc pc (.irem) 1 q) (hy : ¬ y = 0) (k : G X D ad g t u lv q (.int (x - x / y * y) :: st)) : G X D ad g t u lv pc (.int y :: .int x :: st) := by
  obtain ⟨p, l, e, R, s, m, args, below, meth, c, Q, A, nL, cells, slots⟩ := X
  obtain ⟨hd, rfl⟩ := hd
  exact fun H locs ls hl hP hS => lv_irem F.1 F.2.1 hd hy (k H locs ls hl hP hS)
theorem g_ineg {x : Int32} (F : Fx X l0 D ad g cc own d N) (hd : Dq cc pc (.ineg) 1 q) (k : G X D ad g t u lv q (.int (-x) :: st)) : G X D ad g t u lv pc (.int x :: st) := by
  obtain ⟨p, l, e, R, s, m, args, below, meth, c, Q, A, nL, cells, slots⟩ := X
  obtain ⟨hd, rfl⟩ := hd
  exact fun H locs ls hl hP hS => lv_ineg F.1 F.2.1 hd (k H locs ls hl hP hS)
theorem g_ishl {x y : Int32} (F : Fx X l0 D ad g cc own d N) (hd : Dq cc pc (.ishl) 1 q) (k : G X D ad g t u lv q (.int (x <<< (y &&& 31)) :: st)) : G X D ad g t u lv pc (.int y :: .int x :: st) := by
  obtain ⟨p, l, e, R, s, m, args, below, meth, c, Q, A, nL, cells, slots⟩ := X
  obtain ⟨hd, rfl⟩ := hd
  exact fun H locs ls hl hP hS => lv_ishl F.1 F.2.1 hd (k H locs ls hl hP hS)
theorem g_ishr {x y : Int32} (F : Fx X l0 D ad g cc own d N) (hd : Dq cc pc (.ishr) 1 q) (k : G X D ad g t u lv q (.int (x >>> (y &&& 31)) :: st)) : G X D ad g t u lv pc (.int y :: .int x :: st) := by
  obtain ⟨p, l, e, R, s, m, args, below, meth, c, Q, A, nL, cells, slots⟩ := X
  obtain ⟨hd, rfl⟩ := hd
  exact fun H locs ls hl hP hS => lv_ishr F.1 F.2.1 hd (k H locs ls hl hP hS)
def jushr (x y : Int32) : Int32 := (x.toUInt32 >>> (y.toUInt32 &&& Int32.toUInt32 31)).toInt32
theorem g_iushr {x y : Int32} (F : Fx X l0 D ad g cc own d N) (hd : Dq cc pc (.iushr) 1 q) (k : G X D ad g t u lv q (.int (jushr x y) :: st)) : G X D ad g t u lv pc (.int y :: .int x :: st) := by
  obtain ⟨p, l, e, R, s, m, args, below, meth, c, Q, A, nL, cells, slots⟩ := X
  obtain ⟨hd, rfl⟩ := hd
  exact fun H locs ls hl hP hS => lv_iushr F.1 F.2.1 hd rfl (k H locs ls hl hP hS)
theorem g_i2l {x : Int32} (F : Fx X l0 D ad g cc own d N) (hd : Dq cc pc (.i2l) 1 q) (k : G X D ad g t u lv q (.long x.toInt64 :: st)) : G X D ad g t u lv pc (.int x :: st) := by
  obtain ⟨p, l, e, R, s, m, args, below, meth, c, Q, A, nL, cells, slots⟩ := X
  obtain ⟨hd, rfl⟩ := hd
  exact fun H locs ls hl hP hS => lv_i2l F.1 F.2.1 hd rfl (k H locs ls hl hP hS)
theorem g_l2i {x : Int64} (F : Fx X l0 D ad g cc own d N) (hd : Dq cc pc (.l2i) 1 q) (k : G X D ad g t u lv q (.int x.toInt32 :: st)) : G X D ad g t u lv pc (.long x :: st) := by
  obtain ⟨p, l, e, R, s, m, args, below, meth, c, Q, A, nL, cells, slots⟩ := X
  obtain ⟨hd, rfl⟩ := hd
  exact fun H locs ls hl hP hS => lv_l2i F.1 F.2.1 hd rfl (k H locs ls hl hP hS)
theorem g_i2b {x : Int32} (F : Fx X l0 D ad g cc own d N) (hd : Dq cc pc (.i2b) 1 q) (k : G X D ad g t u lv q (.int x.toInt8.toInt32 :: st)) : G X D ad g t u lv pc (.int x :: st) := by
  obtain ⟨p, l, e, R, s, m, args, below, meth, c, Q, A, nL, cells, slots⟩ := X
  obtain ⟨hd, rfl⟩ := hd
  exact fun H locs ls hl hP hS => lv_i2b F.1 F.2.1 hd rfl (k H locs ls hl hP hS)
theorem g_i2s {x : Int32} (F : Fx X l0 D ad g cc own d N) (hd : Dq cc pc (.i2s) 1 q) (k : G X D ad g t u lv q (.int x.toInt16.toInt32 :: st)) : G X D ad g t u lv pc (.int x :: st) := by
  obtain ⟨p, l, e, R, s, m, args, below, meth, c, Q, A, nL, cells, slots⟩ := X
  obtain ⟨hd, rfl⟩ := hd
  exact fun H locs ls hl hP hS => lv_i2s F.1 F.2.1 hd rfl (k H locs ls hl hP hS)
theorem g_i2c {x : Int32} (F : Fx X l0 D ad g cc own d N) (hd : Dq cc pc (.i2c) 1 q) (k : G X D ad g t u lv q (.int (x.toUInt32 % 65536).toInt32 :: st)) : G X D ad g t u lv pc (.int x :: st) := by
  obtain ⟨p, l, e, R, s, m, args, below, meth, c, Q, A, nL, cells, slots⟩ := X
  obtain ⟨hd, rfl⟩ := hd
  exact fun H locs ls hl hP hS => lv_i2c F.1 F.2.1 hd rfl (k H locs ls hl hP hS)
theorem g_lshl {x : Int64} {y : Int32} (F : Fx X l0 D ad g cc own d N) (hd : Dq cc pc (.lshl) 1 q) (k : G X D ad g t u lv q (.long (x <<< (y.toInt64 &&& 63)) :: st)) : G X D ad g t u lv pc (.int y :: .long x :: st) := by
  obtain ⟨p, l, e, R, s, m, args, below, meth, c, Q, A, nL, cells, slots⟩ := X
  obtain ⟨hd, rfl⟩ := hd
  exact fun H locs ls hl hP hS => lv_lshl F.1 F.2.1 hd rfl (k H locs ls hl hP hS)
theorem g_lcmp {x y : Int64} (F : Fx X l0 D ad g cc own d N) (hd : Dq cc pc (.lcmp) 1 q) (k : G X D ad g t u lv q (.int (lg_cmp x y) :: st)) : G X D ad g t u lv pc (.long y :: .long x :: st) := by
  obtain ⟨p, l, e, R, s, m, args, below, meth, c, Q, A, nL, cells, slots⟩ := X
  obtain ⟨hd, rfl⟩ := hd
  exact fun H locs ls hl hP hS => W.lcmp F.1 F.2.1 hd (k H locs ls hl hP hS)
theorem g_iconst {n : Int} {v : Int32} (F : Fx X l0 D ad g cc own d N) (hd : Dq cc pc (.iconst n) 1 q) (hv : Int32.ofInt n = v) (k : G X D ad g t u lv q (.int v :: st)) : G X D ad g t u lv pc (st) := by
  obtain ⟨p, l, e, R, s, m, args, below, meth, c, Q, A, nL, cells, slots⟩ := X
  obtain ⟨hd, rfl⟩ := hd
  exact fun H locs ls hl hP hS => lv_iconst F.1 F.2.1 hd hv (k H locs ls hl hP hS)
theorem g_bipush {n : Int} {v : Int32} (F : Fx X l0 D ad g cc own d N) (hd : Dq cc pc (.bipush n) 2 q) (hv : (Int8.ofInt n).toInt32 = v) (k : G X D ad g t u lv q (.int v :: st)) : G X D ad g t u lv pc (st) := by
  obtain ⟨p, l, e, R, s, m, args, below, meth, c, Q, A, nL, cells, slots⟩ := X
  obtain ⟨hd, rfl⟩ := hd
  exact fun H locs ls hl hP hS => lv_bipush F.1 F.2.1 hd hv (k H locs ls hl hP hS)
theorem g_sipush {n : Int} {v : Int32} (F : Fx X l0 D ad g cc own d N) (hd : Dq cc pc (.sipush n) 3 q) (hv : (Int16.ofInt n).toInt32 = v) (k : G X D ad g t u lv q (.int v :: st)) : G X D ad g t u lv pc (st) := by
  obtain ⟨p, l, e, R, s, m, args, below, meth, c, Q, A, nL, cells, slots⟩ := X
  obtain ⟨hd, rfl⟩ := hd
  exact fun H locs ls hl hP hS => lv_sipush F.1 F.2.1 hd hv (k H locs ls hl hP hS)
theorem g_lconst {n : Fin 2} {v : Int64} (F : Fx X l0 D ad g cc own d N) (hd : Dq cc pc (.lconst n) 1 q) (hv : Int64.ofNat (n : Nat) = v) (k : G X D ad g t u lv q (.long v :: st)) : G X D ad g t u lv pc (st) := by
  obtain ⟨p, l, e, R, s, m, args, below, meth, c, Q, A, nL, cells, slots⟩ := X
  obtain ⟨hd, rfl⟩ := hd
  exact fun H locs ls hl hP hS => lv_lconst F.1 F.2.1 hd hv (k H locs ls hl hP hS)
theorem g_null  (F : Fx X l0 D ad g cc own d N) (hd : Dq cc pc (.aconst_null) 1 q) (k : G X D ad g t u lv q (.null :: st)) : G X D ad g t u lv pc (st) := by
  obtain ⟨p, l, e, R, s, m, args, below, meth, c, Q, A, nL, cells, slots⟩ := X
  obtain ⟨hd, rfl⟩ := hd
  exact fun H locs ls hl hP hS => lv_null F.1 F.2.1 hd (k H locs ls hl hP hS)
theorem g_dup {v : Value} (F : Fx X l0 D ad g cc own d N) (hd : Dq cc pc (.dup) 1 q) (hv : v.category = 1) (k : G X D ad g t u lv q (v :: v :: st)) : G X D ad g t u lv pc (v :: st) := by
  obtain ⟨p, l, e, R, s, m, args, below, meth, c, Q, A, nL, cells, slots⟩ := X
  obtain ⟨hd, rfl⟩ := hd
  exact fun H locs ls hl hP hS => lv_dup F.1 F.2.1 hd hv (k H locs ls hl hP hS)
theorem g_pop {v : Value} (F : Fx X l0 D ad g cc own d N) (hd : Dq cc pc (.pop) 1 q) (hv : v.category = 1) (k : G X D ad g t u lv q (st)) : G X D ad g t u lv pc (v :: st) := by
  obtain ⟨p, l, e, R, s, m, args, below, meth, c, Q, A, nL, cells, slots⟩ := X
  obtain ⟨hd, rfl⟩ := hd
  exact fun H locs ls hl hP hS => lv_pop F.1 F.2.1 hd hv (k H locs ls hl hP hS)
theorem g_dup_x1 {v w : Value} (F : Fx X l0 D ad g cc own d N) (hd : Dq cc pc (.dup_x1) 1 q) (hv : v.category = 1) (hw : w.category = 1) (k : G X D ad g t u lv q (v :: w :: v :: st)) : G X D ad g t u lv pc (v :: w :: st) := by
  obtain ⟨p, l, e, R, s, m, args, below, meth, c, Q, A, nL, cells, slots⟩ := X
  obtain ⟨hd, rfl⟩ := hd
  exact fun H locs ls hl hP hS => lv_dup_x1 F.1 F.2.1 hd hv hw (k H locs ls hl hP hS)
theorem g_dup2 {v w : Value} (F : Fx X l0 D ad g cc own d N) (hd : Dq cc pc (.dup2) 1 q) (hv : v.category = 1) (hw : w.category = 1) (k : G X D ad g t u lv q (v :: w :: v :: w :: st)) : G X D ad g t u lv pc (v :: w :: st) := by
  obtain ⟨p, l, e, R, s, m, args, below, meth, c, Q, A, nL, cells, slots⟩ := X
  obtain ⟨hd, rfl⟩ := hd
  exact fun H locs ls hl hP hS => lv_dup2_11 F.1 F.2.1 hd hv hw (k H locs ls hl hP hS)
theorem g_ldc {i : Nat} {v : Int32} (F : Fx X l0 D ad g cc own d N) (hd : Dq cc pc (.ldc i) 2 q) (hw : Cond.constant own i v ∈ gw) (k : G X D ad g t u lv q (.int v :: st)) : G X D ad g t u lv pc (st) := by
  obtain ⟨p, l, e, R, s, m, args, below, meth, c, Q, A, nL, cells, slots⟩ := X
  obtain ⟨hd, rfl⟩ := hd
  exact fun H locs ls hl hP hS => lv_ldc F.1 F.2.1 F.2.2.2.1 (F.2.2.2.2.1 _ hw) hd (k H locs ls hl hP hS)
theorem g_ldcw {i : Nat} {v : Int32} (F : Fx X l0 D ad g cc own d N) (hd : Dq cc pc (.ldc_w i) 3 q) (hw : Cond.constant own i v ∈ gw) (k : G X D ad g t u lv q (.int v :: st)) : G X D ad g t u lv pc (st) := by
  obtain ⟨p, l, e, R, s, m, args, below, meth, c, Q, A, nL, cells, slots⟩ := X
  obtain ⟨hd, rfl⟩ := hd
  exact fun H locs ls hl hP hS => lv_ldcw F.1 F.2.1 F.2.2.2.1 (F.2.2.2.2.1 _ hw) hd (k H locs ls hl hP hS)
theorem g_ldc2 {i : Nat} {v : Int64} (F : Fx X l0 D ad g cc own d N) (hd : Dq cc pc (.ldc2_w i) 3 q) (hw : Cond.constantLong own i v ∈ gw) (k : G X D ad g t u lv q (.long v :: st)) : G X D ad g t u lv pc (st) := by
  obtain ⟨p, l, e, R, s, m, args, below, meth, c, Q, A, nL, cells, slots⟩ := X
  obtain ⟨hd, rfl⟩ := hd
  exact fun H locs ls hl hP hS => lv_ldc2 F.1 F.2.1 F.2.2.2.1 (F.2.2.2.2.1 _ hw) hd (k H locs ls hl hP hS)
theorem g_iload_n {kk : Fin 4} {x : Int32} (F : Fx X l0 D ad g cc own d N) (hd : Dq cc pc (.iload_n kk) 1 q) (j : Nat) (hl : lv[j]? = some ((kk : Nat), .int x)) (k : G X D ad g t u lv q (.int x :: st)) : G X D ad g t u lv pc st := by
  obtain ⟨p, l, e, R, s, m, args, below, meth, c, Q, A, nL, cells, slots⟩ := X
  obtain ⟨hd, rfl⟩ := hd
  exact fun H locs ls hv hP hS => lv_iload_n F.1 F.2.1 hd rfl (lv_at hv j hl) (k H locs ls hv hP hS)
theorem g_iload {i : Nat} {x : Int32} (F : Fx X l0 D ad g cc own d N) (hd : Dq cc pc (.iload i) 2 q) (j : Nat) (hl : lv[j]? = some (i, .int x)) (k : G X D ad g t u lv q (.int x :: st)) : G X D ad g t u lv pc st := by
  obtain ⟨p, l, e, R, s, m, args, below, meth, c, Q, A, nL, cells, slots⟩ := X
  obtain ⟨hd, rfl⟩ := hd
  exact fun H locs ls hv hP hS => lv_iload F.1 F.2.1 hd (lv_at hv j hl) (k H locs ls hv hP hS)
theorem g_lload_n {kk : Fin 4} {x : Int64} (F : Fx X l0 D ad g cc own d N) (hd : Dq cc pc (.lload_n kk) 1 q) (j : Nat) (hl : lv[j]? = some ((kk : Nat), .long x)) (k : G X D ad g t u lv q (.long x :: st)) : G X D ad g t u lv pc st := by
  obtain ⟨p, l, e, R, s, m, args, below, meth, c, Q, A, nL, cells, slots⟩ := X
  obtain ⟨hd, rfl⟩ := hd
  exact fun H locs ls hv hP hS => lv_lload_n F.1 F.2.1 hd rfl (lv_at hv j hl) (k H locs ls hv hP hS)
theorem g_lload {i : Nat} {x : Int64} (F : Fx X l0 D ad g cc own d N) (hd : Dq cc pc (.lload i) 2 q) (j : Nat) (hl : lv[j]? = some (i, .long x)) (k : G X D ad g t u lv q (.long x :: st)) : G X D ad g t u lv pc st := by
  obtain ⟨p, l, e, R, s, m, args, below, meth, c, Q, A, nL, cells, slots⟩ := X
  obtain ⟨hd, rfl⟩ := hd
  exact fun H locs ls hv hP hS => lv_lload F.1 F.2.1 hd (lv_at hv j hl) (k H locs ls hv hP hS)
theorem g_aload_n {kk : Fin 4} {x : Nat} (F : Fx X l0 D ad g cc own d N) (hd : Dq cc pc (.aload_n kk) 1 q) (j : Nat) (hl : lv[j]? = some ((kk : Nat), .ref x)) (k : G X D ad g t u lv q (.ref x :: st)) : G X D ad g t u lv pc st := by
  obtain ⟨p, l, e, R, s, m, args, below, meth, c, Q, A, nL, cells, slots⟩ := X
  obtain ⟨hd, rfl⟩ := hd
  exact fun H locs ls hv hP hS => lv_aload_n F.1 F.2.1 hd rfl (lv_at hv j hl) (k H locs ls hv hP hS)
theorem g_aload {i : Nat} {x : Nat} (F : Fx X l0 D ad g cc own d N) (hd : Dq cc pc (.aload i) 2 q) (j : Nat) (hl : lv[j]? = some (i, .ref x)) (k : G X D ad g t u lv q (.ref x :: st)) : G X D ad g t u lv pc st := by
  obtain ⟨p, l, e, R, s, m, args, below, meth, c, Q, A, nL, cells, slots⟩ := X
  obtain ⟨hd, rfl⟩ := hd
  exact fun H locs ls hv hP hS => lv_aload F.1 F.2.1 hd (lv_at hv j hl) (k H locs ls hv hP hS)
theorem g_istore_n {kk : Fin 4} {x : Int32} (F : Fx X l0 D ad g cc own d N) (hd : Dq cc pc (.istore_n kk) 1 q) (hn : (kk : Nat) < N) (hl : ((kk : Nat), Value.int x) :: lv.filter (fun q => !(q.1 == (kk : Nat)) && !(q.1 + 1 == (kk : Nat) && q.2.category == 2)) = lv') (k : G X D ad g t u lv' q st) : G X D ad g t u lv pc (.int x :: st) := by
  obtain ⟨p, l, e, R, s, m, args, below, meth, c, Q, A, nL, cells, slots⟩ := X
  obtain ⟨hd, rfl⟩ := hd
  obtain rfl : nL = N := F.2.2.2.2.2.2.2.2.2.2.2.1
  exact fun H locs ls hv hP hS => lv_istore_n F.1 F.2.1 hd rfl hv hn hl (fun ls hv => k H locs ls hv hP hS)
theorem g_istore {i : Nat} {x : Int32} (F : Fx X l0 D ad g cc own d N) (hd : Dq cc pc (.istore i) 2 q) (hn : i < N) (hl : (i, Value.int x) :: lv.filter (fun q => !(q.1 == i) && !(q.1 + 1 == i && q.2.category == 2)) = lv') (k : G X D ad g t u lv' q st) : G X D ad g t u lv pc (.int x :: st) := by
  obtain ⟨p, l, e, R, s, m, args, below, meth, c, Q, A, nL, cells, slots⟩ := X
  obtain ⟨hd, rfl⟩ := hd
  obtain rfl : nL = N := F.2.2.2.2.2.2.2.2.2.2.2.1
  exact fun H locs ls hv hP hS => lv_istore F.1 F.2.1 hd hv hn hl (fun ls hv => k H locs ls hv hP hS)
theorem g_lstore_n {kk : Fin 4} {x : Int64} (F : Fx X l0 D ad g cc own d N) (hd : Dq cc pc (.lstore_n kk) 1 q) (hn : (kk : Nat) + 1 < N) (hl : ((kk : Nat), Value.long x) :: lv.filter (fun q => !(q.1 == (kk : Nat)) && (!(q.1 == (kk : Nat) + 1) && !(q.1 + 1 == (kk : Nat) && q.2.category == 2))) = lv') (k : G X D ad g t u lv' q st) : G X D ad g t u lv pc (.long x :: st) := by
  obtain ⟨p, l, e, R, s, m, args, below, meth, c, Q, A, nL, cells, slots⟩ := X
  obtain ⟨hd, rfl⟩ := hd
  obtain rfl : nL = N := F.2.2.2.2.2.2.2.2.2.2.2.1
  exact fun H locs ls hv hP hS => lv_lstore_n F.1 F.2.1 hd rfl hv hn hl (fun ls hv => k H locs ls hv hP hS)
theorem g_lstore {i : Nat} {x : Int64} (F : Fx X l0 D ad g cc own d N) (hd : Dq cc pc (.lstore i) 2 q) (hn : i + 1 < N) (hl : (i, Value.long x) :: lv.filter (fun q => !(q.1 == i) && (!(q.1 == i + 1) && !(q.1 + 1 == i && q.2.category == 2))) = lv') (k : G X D ad g t u lv' q st) : G X D ad g t u lv pc (.long x :: st) := by
  obtain ⟨p, l, e, R, s, m, args, below, meth, c, Q, A, nL, cells, slots⟩ := X
  obtain ⟨hd, rfl⟩ := hd
  obtain rfl : nL = N := F.2.2.2.2.2.2.2.2.2.2.2.1
  exact fun H locs ls hv hP hS => lv_lstore F.1 F.2.1 hd hv hn hl (fun ls hv => k H locs ls hv hP hS)
theorem g_astore_n {kk : Fin 4} {x : Nat} (F : Fx X l0 D ad g cc own d N) (hd : Dq cc pc (.astore_n kk) 1 q) (hn : (kk : Nat) < N) (hl : ((kk : Nat), Value.ref x) :: lv.filter (fun q => !(q.1 == (kk : Nat)) && !(q.1 + 1 == (kk : Nat) && q.2.category == 2)) = lv') (k : G X D ad g t u lv' q st) : G X D ad g t u lv pc (.ref x :: st) := by
  obtain ⟨p, l, e, R, s, m, args, below, meth, c, Q, A, nL, cells, slots⟩ := X
  obtain ⟨hd, rfl⟩ := hd
  obtain rfl : nL = N := F.2.2.2.2.2.2.2.2.2.2.2.1
  exact fun H locs ls hv hP hS => lv_astore_n F.1 F.2.1 hd rfl hv hn hl (fun ls hv => k H locs ls hv hP hS)
theorem g_astore {i : Nat} {x : Nat} (F : Fx X l0 D ad g cc own d N) (hd : Dq cc pc (.astore i) 2 q) (hn : i < N) (hl : (i, Value.ref x) :: lv.filter (fun q => !(q.1 == i) && !(q.1 + 1 == i && q.2.category == 2)) = lv') (k : G X D ad g t u lv' q st) : G X D ad g t u lv pc (.ref x :: st) := by
  obtain ⟨p, l, e, R, s, m, args, below, meth, c, Q, A, nL, cells, slots⟩ := X
  obtain ⟨hd, rfl⟩ := hd
  obtain rfl : nL = N := F.2.2.2.2.2.2.2.2.2.2.2.1
  exact fun H locs ls hv hP hS => lv_astore F.1 F.2.1 hd hv hn hl (fun ls hv => k H locs ls hv hP hS)
theorem g_iinc {i : Nat} {n : Int} {x w : Int32} (F : Fx X l0 D ad g cc own d N) (hd : Dq cc pc (.iinc i n) 3 q) (j : Nat) (hj : lv[j]? = some (i, .int x)) (hw : Int32.ofInt n = w) (hn : i < N) (hl : (i, Value.int (x + w)) :: lv.filter (fun q => !(q.1 == i) && !(q.1 + 1 == i && q.2.category == 2)) = lv') (k : G X D ad g t u lv' q st) : G X D ad g t u lv pc st := by
  obtain ⟨p, l, e, R, s, m, args, below, meth, c, Q, A, nL, cells, slots⟩ := X
  obtain ⟨hd, rfl⟩ := hd
  obtain rfl : nL = N := F.2.2.2.2.2.2.2.2.2.2.2.1
  exact fun H locs ls hv hP hS => lv_iinc F.1 F.2.1 hd hv hj (by rw [hw]) hn hl (fun ls hv => k H locs ls hv hP hS)
theorem g_goto {off : Int} (F : Fx X l0 D ad g cc own d N) (hd : Dq cc pc (.goto off) 3 q) (ht : (pc : Int) + off = (tgt : Int)) (k : G X D ad g t u lv tgt st) : G X D ad g t u lv pc st := by
  obtain ⟨p, l, e, R, s, m, args, below, meth, c, Q, A, nL, cells, slots⟩ := X
  exact fun H locs ls hv hP hS => lv_goto F.1 F.2.1 hd.1 ht (k H locs ls hv hP hS)
theorem g_if_eq {Rt : Type} {Rv : Rt} {U V : Option Rt} {x : Int32} {off : Int} (F : Fx X l0 D ad g cc own d N) (hd : Dq cc pc (.ifCond .eq off) 3 q) (ht : (pc : Int) + off = (tgt : Int)) (h : (if x = 0 then U else V) = some Rv) (k1 : x = 0 → U = some Rv → G X D ad g t u lv tgt st) (k2 : ¬ x = 0 → V = some Rv → G X D ad g t u lv q st) : G X D ad g t u lv pc (.int x :: st) := by
  obtain ⟨p, l, e, R, s, m, args, below, meth, c, Q, A, nL, cells, slots⟩ := X
  obtain ⟨hd, rfl⟩ := hd
  exact fun H locs ls hv hP hS => lv_if_eq F.1 F.2.1 hd ht (fun c => k1 c (by rw [if_pos c] at h; exact h) H locs ls hv hP hS) (fun c => k2 c (by rw [if_neg c] at h; exact h) H locs ls hv hP hS)
theorem g_icmp_eq {Rt : Type} {Rv : Rt} {U V : Option Rt} {x y : Int32} {off : Int} (F : Fx X l0 D ad g cc own d N) (hd : Dq cc pc (.if_icmp .eq off) 3 q) (ht : (pc : Int) + off = (tgt : Int)) (h : (if x = y then U else V) = some Rv) (k1 : x = y → U = some Rv → G X D ad g t u lv tgt st) (k2 : ¬ x = y → V = some Rv → G X D ad g t u lv q st) : G X D ad g t u lv pc (.int y :: .int x :: st) := by
  obtain ⟨p, l, e, R, s, m, args, below, meth, c, Q, A, nL, cells, slots⟩ := X
  obtain ⟨hd, rfl⟩ := hd
  exact fun H locs ls hv hP hS => lv_icmp_eq F.1 F.2.1 hd ht (fun c => k1 c (by rw [if_pos c] at h; exact h) H locs ls hv hP hS) (fun c => k2 c (by rw [if_neg c] at h; exact h) H locs ls hv hP hS)
theorem g_if_ne {Rt : Type} {Rv : Rt} {U V : Option Rt} {x : Int32} {off : Int} (F : Fx X l0 D ad g cc own d N) (hd : Dq cc pc (.ifCond .ne off) 3 q) (ht : (pc : Int) + off = (tgt : Int)) (h : (if ¬ x = 0 then U else V) = some Rv) (k1 : ¬ x = 0 → U = some Rv → G X D ad g t u lv tgt st) (k2 : x = 0 → V = some Rv → G X D ad g t u lv q st) : G X D ad g t u lv pc (.int x :: st) := by
  obtain ⟨p, l, e, R, s, m, args, below, meth, c, Q, A, nL, cells, slots⟩ := X
  obtain ⟨hd, rfl⟩ := hd
  exact fun H locs ls hv hP hS => lv_if_ne F.1 F.2.1 hd ht (fun c => k1 c (by rw [if_pos c] at h; exact h) H locs ls hv hP hS) (fun c => k2 c (by rw [if_neg (fun z => z c)] at h; exact h) H locs ls hv hP hS)
theorem g_icmp_ne {Rt : Type} {Rv : Rt} {U V : Option Rt} {x y : Int32} {off : Int} (F : Fx X l0 D ad g cc own d N) (hd : Dq cc pc (.if_icmp .ne off) 3 q) (ht : (pc : Int) + off = (tgt : Int)) (h : (if ¬ x = y then U else V) = some Rv) (k1 : ¬ x = y → U = some Rv → G X D ad g t u lv tgt st) (k2 : x = y → V = some Rv → G X D ad g t u lv q st) : G X D ad g t u lv pc (.int y :: .int x :: st) := by
  obtain ⟨p, l, e, R, s, m, args, below, meth, c, Q, A, nL, cells, slots⟩ := X
  obtain ⟨hd, rfl⟩ := hd
  exact fun H locs ls hv hP hS => lv_icmp_ne F.1 F.2.1 hd ht (fun c => k1 c (by rw [if_pos c] at h; exact h) H locs ls hv hP hS) (fun c => k2 c (by rw [if_neg (fun z => z c)] at h; exact h) H locs ls hv hP hS)
theorem g_if_lt {Rt : Type} {Rv : Rt} {U V : Option Rt} {x : Int32} {off : Int} (F : Fx X l0 D ad g cc own d N) (hd : Dq cc pc (.ifCond .lt off) 3 q) (ht : (pc : Int) + off = (tgt : Int)) (h : (if x < 0 then U else V) = some Rv) (k1 : x < 0 → U = some Rv → G X D ad g t u lv tgt st) (k2 : ¬ x < 0 → V = some Rv → G X D ad g t u lv q st) : G X D ad g t u lv pc (.int x :: st) := by
  obtain ⟨p, l, e, R, s, m, args, below, meth, c, Q, A, nL, cells, slots⟩ := X
  obtain ⟨hd, rfl⟩ := hd
  exact fun H locs ls hv hP hS => lv_if_lt F.1 F.2.1 hd ht (fun c => k1 c (by rw [if_pos c] at h; exact h) H locs ls hv hP hS) (fun c => k2 c (by rw [if_neg c] at h; exact h) H locs ls hv hP hS)
theorem g_icmp_lt {Rt : Type} {Rv : Rt} {U V : Option Rt} {x y : Int32} {off : Int} (F : Fx X l0 D ad g cc own d N) (hd : Dq cc pc (.if_icmp .lt off) 3 q) (ht : (pc : Int) + off = (tgt : Int)) (h : (if x < y then U else V) = some Rv) (k1 : x < y → U = some Rv → G X D ad g t u lv tgt st) (k2 : ¬ x < y → V = some Rv → G X D ad g t u lv q st) : G X D ad g t u lv pc (.int y :: .int x :: st) := by
  obtain ⟨p, l, e, R, s, m, args, below, meth, c, Q, A, nL, cells, slots⟩ := X
  obtain ⟨hd, rfl⟩ := hd
  exact fun H locs ls hv hP hS => lv_icmp_lt F.1 F.2.1 hd ht (fun c => k1 c (by rw [if_pos c] at h; exact h) H locs ls hv hP hS) (fun c => k2 c (by rw [if_neg c] at h; exact h) H locs ls hv hP hS)
theorem g_if_ge {Rt : Type} {Rv : Rt} {U V : Option Rt} {x : Int32} {off : Int} (F : Fx X l0 D ad g cc own d N) (hd : Dq cc pc (.ifCond .ge off) 3 q) (ht : (pc : Int) + off = (tgt : Int)) (h : (if 0 ≤ x then U else V) = some Rv) (k1 : 0 ≤ x → U = some Rv → G X D ad g t u lv tgt st) (k2 : ¬ 0 ≤ x → V = some Rv → G X D ad g t u lv q st) : G X D ad g t u lv pc (.int x :: st) := by
  obtain ⟨p, l, e, R, s, m, args, below, meth, c, Q, A, nL, cells, slots⟩ := X
  obtain ⟨hd, rfl⟩ := hd
  exact fun H locs ls hv hP hS => lv_if_ge F.1 F.2.1 hd ht (fun c => k1 c (by rw [if_pos c] at h; exact h) H locs ls hv hP hS) (fun c => k2 c (by rw [if_neg c] at h; exact h) H locs ls hv hP hS)
theorem g_icmp_ge {Rt : Type} {Rv : Rt} {U V : Option Rt} {x y : Int32} {off : Int} (F : Fx X l0 D ad g cc own d N) (hd : Dq cc pc (.if_icmp .ge off) 3 q) (ht : (pc : Int) + off = (tgt : Int)) (h : (if y ≤ x then U else V) = some Rv) (k1 : y ≤ x → U = some Rv → G X D ad g t u lv tgt st) (k2 : ¬ y ≤ x → V = some Rv → G X D ad g t u lv q st) : G X D ad g t u lv pc (.int y :: .int x :: st) := by
  obtain ⟨p, l, e, R, s, m, args, below, meth, c, Q, A, nL, cells, slots⟩ := X
  obtain ⟨hd, rfl⟩ := hd
  exact fun H locs ls hv hP hS => lv_icmp_ge F.1 F.2.1 hd ht (fun c => k1 c (by rw [if_pos c] at h; exact h) H locs ls hv hP hS) (fun c => k2 c (by rw [if_neg c] at h; exact h) H locs ls hv hP hS)
theorem g_if_gt {Rt : Type} {Rv : Rt} {U V : Option Rt} {x : Int32} {off : Int} (F : Fx X l0 D ad g cc own d N) (hd : Dq cc pc (.ifCond .gt off) 3 q) (ht : (pc : Int) + off = (tgt : Int)) (h : (if 0 < x then U else V) = some Rv) (k1 : 0 < x → U = some Rv → G X D ad g t u lv tgt st) (k2 : ¬ 0 < x → V = some Rv → G X D ad g t u lv q st) : G X D ad g t u lv pc (.int x :: st) := by
  obtain ⟨p, l, e, R, s, m, args, below, meth, c, Q, A, nL, cells, slots⟩ := X
  obtain ⟨hd, rfl⟩ := hd
  exact fun H locs ls hv hP hS => lv_if_gt F.1 F.2.1 hd ht (fun c => k1 c (by rw [if_pos c] at h; exact h) H locs ls hv hP hS) (fun c => k2 c (by rw [if_neg c] at h; exact h) H locs ls hv hP hS)
theorem g_icmp_gt {Rt : Type} {Rv : Rt} {U V : Option Rt} {x y : Int32} {off : Int} (F : Fx X l0 D ad g cc own d N) (hd : Dq cc pc (.if_icmp .gt off) 3 q) (ht : (pc : Int) + off = (tgt : Int)) (h : (if y < x then U else V) = some Rv) (k1 : y < x → U = some Rv → G X D ad g t u lv tgt st) (k2 : ¬ y < x → V = some Rv → G X D ad g t u lv q st) : G X D ad g t u lv pc (.int y :: .int x :: st) := by
  obtain ⟨p, l, e, R, s, m, args, below, meth, c, Q, A, nL, cells, slots⟩ := X
  obtain ⟨hd, rfl⟩ := hd
  exact fun H locs ls hv hP hS => lv_icmp_gt F.1 F.2.1 hd ht (fun c => k1 c (by rw [if_pos c] at h; exact h) H locs ls hv hP hS) (fun c => k2 c (by rw [if_neg c] at h; exact h) H locs ls hv hP hS)
theorem g_if_le {Rt : Type} {Rv : Rt} {U V : Option Rt} {x : Int32} {off : Int} (F : Fx X l0 D ad g cc own d N) (hd : Dq cc pc (.ifCond .le off) 3 q) (ht : (pc : Int) + off = (tgt : Int)) (h : (if x ≤ 0 then U else V) = some Rv) (k1 : x ≤ 0 → U = some Rv → G X D ad g t u lv tgt st) (k2 : ¬ x ≤ 0 → V = some Rv → G X D ad g t u lv q st) : G X D ad g t u lv pc (.int x :: st) := by
  obtain ⟨p, l, e, R, s, m, args, below, meth, c, Q, A, nL, cells, slots⟩ := X
  obtain ⟨hd, rfl⟩ := hd
  exact fun H locs ls hv hP hS => lv_if_le F.1 F.2.1 hd ht (fun c => k1 c (by rw [if_pos c] at h; exact h) H locs ls hv hP hS) (fun c => k2 c (by rw [if_neg c] at h; exact h) H locs ls hv hP hS)
theorem g_icmp_le {Rt : Type} {Rv : Rt} {U V : Option Rt} {x y : Int32} {off : Int} (F : Fx X l0 D ad g cc own d N) (hd : Dq cc pc (.if_icmp .le off) 3 q) (ht : (pc : Int) + off = (tgt : Int)) (h : (if x ≤ y then U else V) = some Rv) (k1 : x ≤ y → U = some Rv → G X D ad g t u lv tgt st) (k2 : ¬ x ≤ y → V = some Rv → G X D ad g t u lv q st) : G X D ad g t u lv pc (.int y :: .int x :: st) := by
  obtain ⟨p, l, e, R, s, m, args, below, meth, c, Q, A, nL, cells, slots⟩ := X
  obtain ⟨hd, rfl⟩ := hd
  exact fun H locs ls hv hP hS => lv_icmp_le F.1 F.2.1 hd ht (fun c => k1 c (by rw [if_pos c] at h; exact h) H locs ls hv hP hS) (fun c => k2 c (by rw [if_neg c] at h; exact h) H locs ls hv hP hS)
theorem g_case {Rt : Type} {Rv : Rt} {U V : Option Rt} {x : Int32} (v : Int32) (h : (if x = v then U else V) = some Rv) (k1 : x = v → U = some Rv → G X D ad g t u lv pc st) (k2 : ¬ x = v → V = some Rv → G X D ad g t u lv pc st) : G X D ad g t u lv pc st := by
  by_cases c : x = v
  · exact k1 c (by rw [if_pos c] at h; exact h)
  · exact k2 c (by rw [if_neg c] at h; exact h)
theorem g_tabIn {dflt lo hi : Int} {offs : Array Int} {len : Nat} {x v : Int32} {off : Int} (F : Fx X l0 D ad g cc own d N) (hd : Dq cc pc (.tableswitch dflt lo hi offs) len q) (hx : x = v) (h1 : ¬ v.toInt < lo) (h2 : ¬ hi < v.toInt) (ho : offs[(v.toInt - lo).toNat]? = some off) (ht : (pc : Int) + off = (tgt : Int)) (k : G X D ad g t u lv tgt st) : G X D ad g t u lv pc (.int x :: st) := by
  obtain ⟨p, l, e, R, s, m, args, below, meth, c, Q, A, nL, cells, slots⟩ := X
  subst hx
  exact fun H locs ls hv hP hS => lv_tableIn F.1 F.2.1 hd.1 h1 h2 ho ht (k H locs ls hv hP hS)
theorem g_tabOut {dflt lo hi : Int} {offs : Array Int} {len : Nat} {x : Int32} (F : Fx X l0 D ad g cc own d N) (hd : Dq cc pc (.tableswitch dflt lo hi offs) len q) (h : x.toInt < lo ∨ hi < x.toInt) (ht : (pc : Int) + dflt = (tgt : Int)) (k : G X D ad g t u lv tgt st) : G X D ad g t u lv pc (.int x :: st) := by
  obtain ⟨p, l, e, R, s, m, args, below, meth, c, Q, A, nL, cells, slots⟩ := X
  exact fun H locs ls hv hP hS => lv_tableOut F.1 F.2.1 hd.1 h ht (k H locs ls hv hP hS)
theorem g_look {dflt : Int} {ps : Array (Int × Int)} {len : Nat} {x : Int32} {off : Int} (F : Fx X l0 D ad g cc own d N) (hd : Dq cc pc (.lookupswitch dflt ps) len q) (hp : (ps.toList.zip (ps.toList.drop 1)).all (fun (a, next) => a.1 < next.1) = true) (ho : Op.lookupswitch.offset ps.toList dflt x.toInt = off) (ht : (pc : Int) + off = (tgt : Int)) (k : G X D ad g t u lv tgt st) : G X D ad g t u lv pc (.int x :: st) := by
  obtain ⟨p, l, e, R, s, m, args, below, meth, c, Q, A, nL, cells, slots⟩ := X
  exact fun H locs ls hv hP hS => lv_lookup F.1 F.2.1 hd.1 hp ho ht (k H locs ls hv hP hS)
end GR
