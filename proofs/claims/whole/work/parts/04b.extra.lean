/-! names for values, shelves that may be none, texts, static rows -/
def lti {Rt : Type} (v : Int32) (K : Int32 → Option Rt) : Option Rt := K v
def ltl {Rt : Type} (v : Int64) (K : Int64 → Option Rt) : Option Rt := K v
def lt {Rt : Type} (m : Mem) (K : Mem → Option Rt) : Option Rt := K m
def nn {Rt : Type} (o : Option (Fin 8)) (K : Fin 8 → Option Rt) : Option Rt := match o with | none => none | some x => K x
def nul {Rt : Type} (o : Option (Fin 8)) (U : Option Rt) (K : Fin 8 → Option Rt) : Option Rt := match o with | none => U | some x => K x
def isB (v : Int32) : Bool := decide (v = 0 ∨ v = 1)
def isY (v : Int32) : Bool := decide (v.toInt8.toInt32 = v)
def isC (v : Int32) : Bool := decide (v.toUInt32.toUInt16.toUInt32.toInt32 = v)
theorem nB {v : Int32} (h : isB v = true) : narrow .boolean (.int v) = .int v := by
  rcases (of_decide_eq_true h : v = 0 ∨ v = 1) with rfl | rfl <;> rfl
theorem nY {v : Int32} (h : isY v = true) : narrow .byte (.int v) = .int v := congrArg Value.int (of_decide_eq_true h : v.toInt8.toInt32 = v)
theorem nC {v : Int32} (h : isC v = true) : narrow .char (.int v) = .int v := congrArg Value.int (of_decide_eq_true h : v.toUInt32.toUInt16.toUInt32.toInt32 = v)
theorem am_kp {ad : Nat → Nat} {g : Gv} (B : Fin 2) : AIm ad g (oKp B) 84 := by
  obtain rfl | rfl := fin2 B
  · exact am_old
  · exact am_ahead
section GE
variable {X : Cx} {l0 : Launch} {D : va_G} {ad : Nat → Nat} {g : Gv} {cc : ByteArray} {own : String} {d N : Nat} {t u : Mem} {lv lv' : List (Nat × Value)} {pc q tgt : Nat} {st rest : List Value} {Rt : Type} {Rv : Rt}
theorem g_lti {v : Int32} {K : Int32 → Option Rt} (h : lti v K = some Rv) (k : ∀ y, K y = some Rv → G X D ad g t u lv pc (.int y :: st)) : G X D ad g t u lv pc (.int v :: st) := k v h
theorem g_ltiL {v : Int64} {K : Int64 → Option Rt} (h : ltl v K = some Rv) (k : ∀ y, K y = some Rv → G X D ad g t u lv pc (.long y :: st)) : G X D ad g t u lv pc (.long v :: st) := k v h
theorem g_ltt {m : Mem} {K : Mem → Option Rt} (h : lt m K = some Rv) (k : ∀ y, K y = some Rv → G X D ad g y u lv pc st) : G X D ad g m u lv pc st := k m h
theorem g_ltu {m : Mem} {K : Mem → Option Rt} (h : lt m K = some Rv) (k : ∀ y, K y = some Rv → G X D ad g t y lv pc st) : G X D ad g t m lv pc st := k m h
theorem g_nn {o : Option (Fin 8)} {K : Fin 8 → Option Rt} (h : nn o K = some Rv) (k : ∀ x, o = some x → K x = some Rv → G X D ad g t u lv pc st) : G X D ad g t u lv pc st := by
  cases o with
  | none => cases h
  | some x => exact k x rfl h
theorem g_ifnull {o : Option (Fin 8)} {U : Option Rt} {K : Fin 8 → Option Rt} {off : Int} (F : Fx X l0 D ad g cc own d N) (hd : Dq cc pc (.ifnull off) 3 q) (ht : (pc : Int) + off = (tgt : Int)) (h : nul o U K = some Rv) (k1 : o = none → U = some Rv → G X D ad g t u lv tgt st) (k2 : ∀ x, o = some x → K x = some Rv → G X D ad g t u lv q st) : G X D ad g t u lv pc (shv ad o :: st) := by
  obtain ⟨p, l, e, R, s, m, args, below, meth, c, Q, A, nL, cells, slots⟩ := X
  obtain ⟨hd, rfl⟩ := hd
  cases o with
  | none => exact fun H locs ls hv hP hS => lv_ifnullN F.1 F.2.1 hd ht (k1 rfl h H locs ls hv hP hS)
  | some x => exact fun H locs ls hv hP hS => lv_ifnull F.1 F.2.1 hd (k2 x rfl h H locs ls hv hP hS)
theorem g_ifnonnull {o : Option (Fin 8)} {U : Option Rt} {K : Fin 8 → Option Rt} {off : Int} (F : Fx X l0 D ad g cc own d N) (hd : Dq cc pc (.ifnonnull off) 3 q) (ht : (pc : Int) + off = (tgt : Int)) (h : nul o U K = some Rv) (k1 : o = none → U = some Rv → G X D ad g t u lv q st) (k2 : ∀ x, o = some x → K x = some Rv → G X D ad g t u lv tgt st) : G X D ad g t u lv pc (shv ad o :: st) := by
  obtain ⟨p, l, e, R, s, m, args, below, meth, c, Q, A, nL, cells, slots⟩ := X
  obtain ⟨hd, rfl⟩ := hd
  cases o with
  | none => exact fun H locs ls hv hP hS => lv_ifnonnullN F.1 F.2.1 hd (k1 rfl h H locs ls hv hP hS)
  | some x => exact fun H locs ls hv hP hS => lv_ifnonnull F.1 F.2.1 hd ht (k2 x rfl h H locs ls hv hP hS)
theorem g_aloadS_n {kk : Fin 4} {o : Option (Fin 8)} (F : Fx X l0 D ad g cc own d N) (hd : Dq cc pc (.aload_n kk) 1 q) (j : Nat) (hl : lv[j]? = some ((kk : Nat), shv ad o)) (k : G X D ad g t u lv q (shv ad o :: st)) : G X D ad g t u lv pc st := by
  obtain ⟨p, l, e, R, s, m, args, below, meth, c, Q, A, nL, cells, slots⟩ := X
  obtain ⟨hd, rfl⟩ := hd
  cases o with
  | none => exact fun H locs ls hv hP hS => lv_aload_nN F.1 F.2.1 hd rfl (lv_at hv j hl) (k H locs ls hv hP hS)
  | some x => exact fun H locs ls hv hP hS => lv_aload_n F.1 F.2.1 hd rfl (lv_at hv j hl) (k H locs ls hv hP hS)
theorem g_astoreS_n {kk : Fin 4} {o : Option (Fin 8)} (F : Fx X l0 D ad g cc own d N) (hd : Dq cc pc (.astore_n kk) 1 q) (hn : (kk : Nat) < N) (hl : ((kk : Nat), shv ad o) :: lv.filter (fun q => !(q.1 == (kk : Nat)) && !(q.1 + 1 == (kk : Nat) && q.2.category == 2)) = lv') (k : G X D ad g t u lv' q st) : G X D ad g t u lv pc (shv ad o :: st) := by
  obtain ⟨p, l, e, R, s, m, args, below, meth, c, Q, A, nL, cells, slots⟩ := X
  obtain ⟨hd, rfl⟩ := hd
  obtain rfl : nL = N := F.2.2.2.2.2.2.2.2.2.2.2.1
  cases o with
  | none => exact fun H locs ls hv hP hS => lv_astore_nN F.1 F.2.1 hd rfl hv hn hl (fun ls hv => k H locs ls hv hP hS)
  | some x => exact fun H locs ls hv hP hS => lv_astore_n F.1 F.2.1 hd rfl hv hn hl (fun ls hv => k H locs ls hv hP hS)
theorem g_aloadS {i : Nat} {o : Option (Fin 8)} (F : Fx X l0 D ad g cc own d N) (hd : Dq cc pc (.aload i) 2 q) (j : Nat) (hl : lv[j]? = some (i, shv ad o)) (k : G X D ad g t u lv q (shv ad o :: st)) : G X D ad g t u lv pc st := by
  obtain ⟨p, l, e, R, s, m, args, below, meth, c, Q, A, nL, cells, slots⟩ := X
  obtain ⟨hd, rfl⟩ := hd
  cases o with
  | none => exact fun H locs ls hv hP hS => lv_aloadN F.1 F.2.1 hd (lv_at hv j hl) (k H locs ls hv hP hS)
  | some x => exact fun H locs ls hv hP hS => lv_aload F.1 F.2.1 hd (lv_at hv j hl) (k H locs ls hv hP hS)
theorem g_astoreS {i : Nat} {o : Option (Fin 8)} (F : Fx X l0 D ad g cc own d N) (hd : Dq cc pc (.astore i) 2 q) (hn : i < N) (hl : (i, shv ad o) :: lv.filter (fun q => !(q.1 == i) && !(q.1 + 1 == i && q.2.category == 2)) = lv') (k : G X D ad g t u lv' q st) : G X D ad g t u lv pc (shv ad o :: st) := by
  obtain ⟨p, l, e, R, s, m, args, below, meth, c, Q, A, nL, cells, slots⟩ := X
  obtain ⟨hd, rfl⟩ := hd
  obtain rfl : nL = N := F.2.2.2.2.2.2.2.2.2.2.2.1
  cases o with
  | none => exact fun H locs ls hv hP hS => lv_astoreN F.1 F.2.1 hd hv hn hl (fun ls hv => k H locs ls hv hP hS)
  | some x => exact fun H locs ls hv hP hS => lv_astore F.1 F.2.1 hd hv hn hl (fun ls hv => k H locs ls hv hP hS)
theorem g_aald {i : Int32} (F : Fx X l0 D ad g cc own d N) (hd : Dq cc pc .aaload 1 q) (hi : inb i 8 = true) (K : G X D ad g t u lv q (.ref (ad (oSh (Fin.ofNat 8 i.toNatClampNeg))) :: st)) : G X D ad g t u lv pc (.int i :: .ref (ad 17) :: st) := by
  obtain ⟨p, l, e, R, s, m, args, below, meth, c, Q, A, nL, cells, slots⟩ := X
  obtain ⟨hd, rfl⟩ := hd
  obtain ⟨hx, hb, hml, hown, hts, hK, hJ, hSt, hA, hAw, hRm, hNn, hl0⟩ := F
  have h8 : i.toNatClampNeg < 8 := by
    have := vp_of_inb hi
    unfold vp_in at this
    omega
  have he : oSh (Fin.ofNat 8 i.toNatClampNeg) = 18 + i.toNatClampNeg := by
    show 18 + i.toNatClampNeg % 8 = 18 + i.toNatClampNeg
    rw [Nat.mod_eq_of_lt h8]
  rw [he] at K
  exact fun H locs ls hv hP hS => va_aldq hx hb hK hP 17 2 (C := "MillOfDistances$Shelf") rfl rfl (vp_of_inb hi) hd (K H locs ls hv hP hS)
theorem g_getsK0 {idx : Nat} (F : Fx X l0 D ad g cc own d N) (hl : Cond.fieldLink own idx "MillOfDistances" "KIND_ABOVE" "[I" ∈ gw) (hd : Dq cc pc (.getstatic idx) 3 q) (K : G X D ad g t u lv q (.ref (g.2.1 0) :: st)) : G X D ad g t u lv pc st := by
  obtain ⟨p, l, e, R, s, m, args, below, meth, c, Q, A, nL, cells, slots⟩ := X
  obtain ⟨hd, rfl⟩ := hd
  obtain ⟨hx, hb, hml, hown, hts, hK, hJ, hSt, hA, hAw, hRm, hNn, hl0⟩ := F
  exact fun H locs ls hv hP hS => va_gets hx hb hSt.1.1.1 hS hown (hts _ hl) (fun _ h => h) hd (K H locs ls hv hP hS)
theorem g_getsK0N {idx : Nat} (F : Fx X l0 D ad g cc own d N) (hl : NwX X (.fieldLinkNest own idx "MillOfDistances" "KIND_ABOVE" "[I" "MillOfDistances")) (hd : Dq cc pc (.getstatic idx) 3 q) (K : G X D ad g t u lv q (.ref (g.2.1 0) :: st)) : G X D ad g t u lv pc st := by
  obtain ⟨p, l, e, R, s, m, args, below, meth, c, Q, A, nL, cells, slots⟩ := X
  obtain ⟨hd, rfl⟩ := hd
  obtain ⟨hx, hb, hml, hown, hts, hK, hJ, hSt, hA, hAw, hRm, hNn, hl0⟩ := F
  exact fun H locs ls hv hP hS => va_getsN hx hb hSt.1.1.1 hS hown (va_Nw.use rfl hl) (fun _ h => h) hd (K H locs ls hv hP hS)
theorem g_ialdK0 {i : Int32} (F : Fx X l0 D ad g cc own d N) (hd : Dq cc pc .iaload 1 q) (hi : inb i 7 = true) (K : G X D ad g t u lv q (.int (kaF i.toNatClampNeg) :: st)) : G X D ad g t u lv pc (.int i :: .ref (g.2.1 0) :: st) := by
  obtain ⟨p, l, e, R, s, m, args, below, meth, c, Q, A, nL, cells, slots⟩ := X
  obtain ⟨hd, rfl⟩ := hd
  obtain ⟨hx, hb, hml, hown, hts, hK, hJ, hSt, hA, hAw, hRm, hNn, hl0⟩ := F
  exact fun H locs ls hv hP hS => va_ti hx hb hSt.1.1.2 hS (vp_of_inb hi) rfl hd (K H locs ls hv hP hS)
theorem g_getsK1 {idx : Nat} (F : Fx X l0 D ad g cc own d N) (hl : Cond.fieldLink own idx "MillOfDistances$MapReader" "NUMBERS" "[I" ∈ gw) (hd : Dq cc pc (.getstatic idx) 3 q) (K : G X D ad g t u lv q (.ref (g.2.1 1) :: st)) : G X D ad g t u lv pc st := by
  obtain ⟨p, l, e, R, s, m, args, below, meth, c, Q, A, nL, cells, slots⟩ := X
  obtain ⟨hd, rfl⟩ := hd
  obtain ⟨hx, hb, hml, hown, hts, hK, hJ, hSt, hA, hAw, hRm, hNn, hl0⟩ := F
  exact fun H locs ls hv hP hS => va_gets hx hb hSt.1.2.1.1 hS hown (hts _ hl) (fun _ h => h) hd (K H locs ls hv hP hS)
theorem g_ialdK1 {i : Int32} (F : Fx X l0 D ad g cc own d N) (hd : Dq cc pc .iaload 1 q) (hi : inb i 7 = true) (K : G X D ad g t u lv q (.int (nuF i.toNatClampNeg) :: st)) : G X D ad g t u lv pc (.int i :: .ref (g.2.1 1) :: st) := by
  obtain ⟨p, l, e, R, s, m, args, below, meth, c, Q, A, nL, cells, slots⟩ := X
  obtain ⟨hd, rfl⟩ := hd
  obtain ⟨hx, hb, hml, hown, hts, hK, hJ, hSt, hA, hAw, hRm, hNn, hl0⟩ := F
  exact fun H locs ls hv hP hS => va_ti hx hb hSt.1.2.1.2 hS (vp_of_inb hi) rfl hd (K H locs ls hv hP hS)
theorem g_getsK2 {idx : Nat} (F : Fx X l0 D ad g cc own d N) (hl : Cond.fieldLink own idx "MillOfDistances$Doer" "BODIES" "[I" ∈ gw) (hd : Dq cc pc (.getstatic idx) 3 q) (K : G X D ad g t u lv q (.ref (g.2.1 2) :: st)) : G X D ad g t u lv pc st := by
  obtain ⟨p, l, e, R, s, m, args, below, meth, c, Q, A, nL, cells, slots⟩ := X
  obtain ⟨hd, rfl⟩ := hd
  obtain ⟨hx, hb, hml, hown, hts, hK, hJ, hSt, hA, hAw, hRm, hNn, hl0⟩ := F
  exact fun H locs ls hv hP hS => va_gets hx hb hSt.1.2.2.1.1 hS hown (hts _ hl) (fun _ h => h) hd (K H locs ls hv hP hS)
theorem g_ialdK2 {i : Int32} (F : Fx X l0 D ad g cc own d N) (hd : Dq cc pc .iaload 1 q) (hi : inb i 21 = true) (K : G X D ad g t u lv q (.int (boF i.toNatClampNeg) :: st)) : G X D ad g t u lv pc (.int i :: .ref (g.2.1 2) :: st) := by
  obtain ⟨p, l, e, R, s, m, args, below, meth, c, Q, A, nL, cells, slots⟩ := X
  obtain ⟨hd, rfl⟩ := hd
  obtain ⟨hx, hb, hml, hown, hts, hK, hJ, hSt, hA, hAw, hRm, hNn, hl0⟩ := F
  exact fun H locs ls hv hP hS => va_ti hx hb hSt.1.2.2.1.2 hS (vp_of_inb hi) rfl hd (K H locs ls hv hP hS)
theorem g_alenK0 (F : Fx X l0 D ad g cc own d N) (hd : Dq cc pc .arraylength 1 q) (K : G X D ad g t u lv q (.int 7 :: st)) : G X D ad g t u lv pc (.ref (g.2.1 0) :: st) := by
  obtain ⟨p, l, e, R, s, m, args, below, meth, c, Q, A, nL, cells, slots⟩ := X
  obtain ⟨hd, rfl⟩ := hd
  obtain ⟨hx, hb, hml, hown, hts, hK, hJ, hSt, hA, hAw, hRm, hNn, hl0⟩ := F
  exact fun H locs ls hv hP hS => va_tlen hx hb hSt.1.1.2 hS (by decide) hd (K H locs ls hv hP hS)
theorem g_alenK1 (F : Fx X l0 D ad g cc own d N) (hd : Dq cc pc .arraylength 1 q) (K : G X D ad g t u lv q (.int 7 :: st)) : G X D ad g t u lv pc (.ref (g.2.1 1) :: st) := by
  obtain ⟨p, l, e, R, s, m, args, below, meth, c, Q, A, nL, cells, slots⟩ := X
  obtain ⟨hd, rfl⟩ := hd
  obtain ⟨hx, hb, hml, hown, hts, hK, hJ, hSt, hA, hAw, hRm, hNn, hl0⟩ := F
  exact fun H locs ls hv hP hS => va_tlen hx hb hSt.1.2.1.2 hS (by decide) hd (K H locs ls hv hP hS)
theorem g_alenK2 (F : Fx X l0 D ad g cc own d N) (hd : Dq cc pc .arraylength 1 q) (K : G X D ad g t u lv q (.int 21 :: st)) : G X D ad g t u lv pc (.ref (g.2.1 2) :: st) := by
  obtain ⟨p, l, e, R, s, m, args, below, meth, c, Q, A, nL, cells, slots⟩ := X
  obtain ⟨hd, rfl⟩ := hd
  obtain ⟨hx, hb, hml, hown, hts, hK, hJ, hSt, hA, hAw, hRm, hNn, hl0⟩ := F
  exact fun H locs ls hv hP hS => va_tlen hx hb hSt.1.2.2.1.2 hS (by decide) hd (K H locs ls hv hP hS)
theorem g_alenI {o n : Nat} {v : Int32} {f : Mem → Mem → Nat → Int32} {up : Mem → Mem → (Nat → Int32) → Mem × Mem} (F : Fx X l0 D ad g cc own d N) (ha : AI ad g o n f up) (hv : Int32.ofNat n = v) (hd : Dq cc pc .arraylength 1 q) (K : G X D ad g t u lv q (.int v :: st)) : G X D ad g t u lv pc (.ref (ad o) :: st) := by
  obtain ⟨p, l, e, R, s, m, args, below, meth, c, Q, A, nL, cells, slots⟩ := X
  obtain ⟨hd, rfl⟩ := hd
  obtain ⟨hx, hb, hml, hown, hts, hK, hJ, hSt, hA, hAw, hRm, hNn, hl0⟩ := F
  exact fun H locs ls hv' hP hS => va_alen hx hb hK hP o 0 (ha t u).1 rfl hv hd (K H locs ls hv' hP hS)
theorem g_getsC {idx : Nat} (F : Fx X l0 D ad g cc own d N) (hl : Cond.fieldLink own idx "java/lang/String" "COMPACT_STRINGS" "Z" ∈ gw) (hd : Dq cc pc (.getstatic idx) 3 q) (K : G X D ad g t u lv q (.int 1 :: st)) : G X D ad g t u lv pc st := by
  obtain ⟨p, l, e, R, s, m, args, below, meth, c, Q, A, nL, cells, slots⟩ := X
  obtain ⟨hd, rfl⟩ := hd
  obtain ⟨hx, hb, hml, hown, hts, hK, hJ, hSt, hA, hAw, hRm, hNn, hl0⟩ := F
  exact fun H locs ls hv hP hS => va_gets hx hb hSt.1.2.2.2.2.1 hS hown (hts _ hl) (fun _ h => h) hd (K H locs ls hv hP hS)
theorem g_getsF {idx : Nat} (F : Fx X l0 D ad g cc own d N) (hl : Cond.fieldLink own idx "jdk/internal/util/Preconditions" "SIOOBE_FORMATTER" "Ljava/util/function/BiFunction;" ∈ gw) (hd : Dq cc pc (.getstatic idx) 3 q) (K : ∀ r, G X D ad g t u lv q (va_rf r :: st)) : G X D ad g t u lv pc st := by
  obtain ⟨p, l, e, R, s, m, args, below, meth, c, Q, A, nL, cells, slots⟩ := X
  obtain ⟨hd, rfl⟩ := hd
  obtain ⟨hx, hb, hml, hown, hts, hK, hJ, hSt, hA, hAw, hRm, hNn, hl0⟩ := F
  rcases hSt.1.2.2.2.2.2 with hz | ⟨a, hz⟩
  · exact fun H locs ls hv hP hS => va_gets hx hb hz hS hown (hts _ hl) (fun _ h => h) hd (K none H locs ls hv hP hS)
  · exact fun H locs ls hv hP hS => va_gets hx hb hz hS hown (hts _ hl) (fun _ h => h) hd (K (some a) H locs ls hv hP hS)
theorem g_strv {idx : Nat} {i : Fin 9} (F : Fx X l0 D ad g cc own d N) (hl : Cond.fieldLink own idx "java/lang/String" "value" "[B" ∈ gw) (hd : Dq cc pc (.getfield idx) 3 q) (K : G X D ad g t u lv q (.ref (g.2.2.2 i.val) :: st)) : G X D ad g t u lv pc (.ref (g.2.2.1 i.val) :: st) := by
  obtain ⟨p, l, e, R, s, m, args, below, meth, c, Q, A, nL, cells, slots⟩ := X
  obtain ⟨hd, rfl⟩ := hd
  obtain ⟨hx, hb, hml, hown, hts, hK, hJ, hSt, hA, hAw, hRm, hNn, hl0⟩ := F
  exact fun H locs ls hv hP hS => vk_getf hx hb (hSt.1.2.2.2.1.1 i.val i.isLt).2.2.1 hS hown (hts _ hl) (fun _ h => h) hd (K H locs ls hv hP hS)
theorem g_strc {idx : Nat} {i : Fin 9} (F : Fx X l0 D ad g cc own d N) (hl : Cond.fieldLink own idx "java/lang/String" "coder" "B" ∈ gw) (hd : Dq cc pc (.getfield idx) 3 q) (K : G X D ad g t u lv q (.int 0 :: st)) : G X D ad g t u lv pc (.ref (g.2.2.1 i.val) :: st) := by
  obtain ⟨p, l, e, R, s, m, args, below, meth, c, Q, A, nL, cells, slots⟩ := X
  obtain ⟨hd, rfl⟩ := hd
  obtain ⟨hx, hb, hml, hown, hts, hK, hJ, hSt, hA, hAw, hRm, hNn, hl0⟩ := F
  exact fun H locs ls hv hP hS => vk_getf hx hb (hSt.1.2.2.2.1.1 i.val i.isLt).2.1 hS hown (hts _ hl) (fun _ h => h) hd (K H locs ls hv hP hS)
theorem g_alenB {i : Fin 9} (F : Fx X l0 D ad g cc own d N) (hd : Dq cc pc .arraylength 1 q) (K : G X D ad g t u lv q (.int (Int32.ofNat (txL.getD i.val 0)) :: st)) : G X D ad g t u lv pc (.ref (g.2.2.2 i.val) :: st) := by
  obtain ⟨p, l, e, R, s, m, args, below, meth, c, Q, A, nL, cells, slots⟩ := X
  obtain ⟨hd, rfl⟩ := hd
  obtain ⟨hx, hb, hml, hown, hts, hK, hJ, hSt, hA, hAw, hRm, hNn, hl0⟩ := F
  exact fun H locs ls hv hP hS => va_tlen hx hb (hSt.1.2.2.2.1.1 i.val i.isLt).2.2.2 hS rfl hd (K H locs ls hv hP hS)
theorem g_baldB {i : Fin 9} {j : Int32} (F : Fx X l0 D ad g cc own d N) (hd : Dq cc pc .baload 1 q) (hi : inb j (txL.getD i.val 0) = true) (K : G X D ad g t u lv q (.int (txC i.val j.toNatClampNeg) :: st)) : G X D ad g t u lv pc (.int j :: .ref (g.2.2.2 i.val) :: st) := by
  obtain ⟨p, l, e, R, s, m, args, below, meth, c, Q, A, nL, cells, slots⟩ := X
  obtain ⟨hd, rfl⟩ := hd
  obtain ⟨hx, hb, hml, hown, hts, hK, hJ, hSt, hA, hAw, hRm, hNn, hl0⟩ := F
  exact fun H locs ls hv hP hS => va_tb hx hb (hSt.1.2.2.2.1.1 i.val i.isLt).2.2.2 hS (vp_of_inb hi) rfl hd (K H locs ls hv hP hS)
theorem g_ldcT0 (F : Fx X l0 D ad g cc "MillOfDistances$MapReader" d N) (hd : Dq cc pc (.ldc 87) 2 q) (K : G X D ad g t u lv q (.ref (g.2.2.1 ((0 : Fin 9)).val) :: st)) : G X D ad g t u lv pc st := by
  obtain ⟨p, l, e, R, s, m, args, below, meth, c, Q, A, nL, cells, slots⟩ := X
  obtain ⟨hd, rfl⟩ := hd
  obtain ⟨hx, hb, hml, hown, hts, hK, hJ, hSt, hA, hAw, hRm, hNn, hl0⟩ := F
  exact fun H locs ls hv hP hS => va_ldcS hx hb hown (hSt.2.1) hd (K H locs ls hv hP hS)
theorem g_ldcT1 (F : Fx X l0 D ad g cc "MillOfDistances$MapReader" d N) (hd : Dq cc pc (.ldc 89) 2 q) (K : G X D ad g t u lv q (.ref (g.2.2.1 ((1 : Fin 9)).val) :: st)) : G X D ad g t u lv pc st := by
  obtain ⟨p, l, e, R, s, m, args, below, meth, c, Q, A, nL, cells, slots⟩ := X
  obtain ⟨hd, rfl⟩ := hd
  obtain ⟨hx, hb, hml, hown, hts, hK, hJ, hSt, hA, hAw, hRm, hNn, hl0⟩ := F
  exact fun H locs ls hv hP hS => va_ldcS hx hb hown (hSt.2.2.1) hd (K H locs ls hv hP hS)
theorem g_ldcT2 (F : Fx X l0 D ad g cc "MillOfDistances$MapReader" d N) (hd : Dq cc pc (.ldc 91) 2 q) (K : G X D ad g t u lv q (.ref (g.2.2.1 ((2 : Fin 9)).val) :: st)) : G X D ad g t u lv pc st := by
  obtain ⟨p, l, e, R, s, m, args, below, meth, c, Q, A, nL, cells, slots⟩ := X
  obtain ⟨hd, rfl⟩ := hd
  obtain ⟨hx, hb, hml, hown, hts, hK, hJ, hSt, hA, hAw, hRm, hNn, hl0⟩ := F
  exact fun H locs ls hv hP hS => va_ldcS hx hb hown (hSt.2.2.2.1) hd (K H locs ls hv hP hS)
theorem g_ldcT3 (F : Fx X l0 D ad g cc "MillOfDistances$MapReader" d N) (hd : Dq cc pc (.ldc 93) 2 q) (K : G X D ad g t u lv q (.ref (g.2.2.1 ((3 : Fin 9)).val) :: st)) : G X D ad g t u lv pc st := by
  obtain ⟨p, l, e, R, s, m, args, below, meth, c, Q, A, nL, cells, slots⟩ := X
  obtain ⟨hd, rfl⟩ := hd
  obtain ⟨hx, hb, hml, hown, hts, hK, hJ, hSt, hA, hAw, hRm, hNn, hl0⟩ := F
  exact fun H locs ls hv hP hS => va_ldcS hx hb hown (hSt.2.2.2.2.1) hd (K H locs ls hv hP hS)
theorem g_ldcT4 (F : Fx X l0 D ad g cc "MillOfDistances$MapReader" d N) (hd : Dq cc pc (.ldc 95) 2 q) (K : G X D ad g t u lv q (.ref (g.2.2.1 ((4 : Fin 9)).val) :: st)) : G X D ad g t u lv pc st := by
  obtain ⟨p, l, e, R, s, m, args, below, meth, c, Q, A, nL, cells, slots⟩ := X
  obtain ⟨hd, rfl⟩ := hd
  obtain ⟨hx, hb, hml, hown, hts, hK, hJ, hSt, hA, hAw, hRm, hNn, hl0⟩ := F
  exact fun H locs ls hv hP hS => va_ldcS hx hb hown (hSt.2.2.2.2.2.1) hd (K H locs ls hv hP hS)
theorem g_ldcT5 (F : Fx X l0 D ad g cc "MillOfDistances$MapReader" d N) (hd : Dq cc pc (.ldc 97) 2 q) (K : G X D ad g t u lv q (.ref (g.2.2.1 ((5 : Fin 9)).val) :: st)) : G X D ad g t u lv pc st := by
  obtain ⟨p, l, e, R, s, m, args, below, meth, c, Q, A, nL, cells, slots⟩ := X
  obtain ⟨hd, rfl⟩ := hd
  obtain ⟨hx, hb, hml, hown, hts, hK, hJ, hSt, hA, hAw, hRm, hNn, hl0⟩ := F
  exact fun H locs ls hv hP hS => va_ldcS hx hb hown (hSt.2.2.2.2.2.2.1) hd (K H locs ls hv hP hS)
theorem g_ldcT6 (F : Fx X l0 D ad g cc "MillOfDistances$MapReader" d N) (hd : Dq cc pc (.ldc 99) 2 q) (K : G X D ad g t u lv q (.ref (g.2.2.1 ((6 : Fin 9)).val) :: st)) : G X D ad g t u lv pc st := by
  obtain ⟨p, l, e, R, s, m, args, below, meth, c, Q, A, nL, cells, slots⟩ := X
  obtain ⟨hd, rfl⟩ := hd
  obtain ⟨hx, hb, hml, hown, hts, hK, hJ, hSt, hA, hAw, hRm, hNn, hl0⟩ := F
  exact fun H locs ls hv hP hS => va_ldcS hx hb hown (hSt.2.2.2.2.2.2.2.1) hd (K H locs ls hv hP hS)
theorem g_ldcT7 (F : Fx X l0 D ad g cc "MillOfDistancesModel" d N) (hd : Dq cc pc (.ldc 144) 2 q) (K : G X D ad g t u lv q (.ref (g.2.2.1 ((0 : Fin 9)).val) :: st)) : G X D ad g t u lv pc st := by
  obtain ⟨p, l, e, R, s, m, args, below, meth, c, Q, A, nL, cells, slots⟩ := X
  obtain ⟨hd, rfl⟩ := hd
  obtain ⟨hx, hb, hml, hown, hts, hK, hJ, hSt, hA, hAw, hRm, hNn, hl0⟩ := F
  exact fun H locs ls hv hP hS => va_ldcS hx hb hown (hSt.2.2.2.2.2.2.2.2.1) hd (K H locs ls hv hP hS)
theorem g_ldcT8 (F : Fx X l0 D ad g cc "MillOfDistancesModel" d N) (hd : Dq cc pc (.ldc 149) 2 q) (K : G X D ad g t u lv q (.ref (g.2.2.1 ((1 : Fin 9)).val) :: st)) : G X D ad g t u lv pc st := by
  obtain ⟨p, l, e, R, s, m, args, below, meth, c, Q, A, nL, cells, slots⟩ := X
  obtain ⟨hd, rfl⟩ := hd
  obtain ⟨hx, hb, hml, hown, hts, hK, hJ, hSt, hA, hAw, hRm, hNn, hl0⟩ := F
  exact fun H locs ls hv hP hS => va_ldcS hx hb hown (hSt.2.2.2.2.2.2.2.2.2.1) hd (K H locs ls hv hP hS)
theorem g_ldcT9 (F : Fx X l0 D ad g cc "MillOfDistancesModel" d N) (hd : Dq cc pc (.ldc 155) 2 q) (K : G X D ad g t u lv q (.ref (g.2.2.1 ((2 : Fin 9)).val) :: st)) : G X D ad g t u lv pc st := by
  obtain ⟨p, l, e, R, s, m, args, below, meth, c, Q, A, nL, cells, slots⟩ := X
  obtain ⟨hd, rfl⟩ := hd
  obtain ⟨hx, hb, hml, hown, hts, hK, hJ, hSt, hA, hAw, hRm, hNn, hl0⟩ := F
  exact fun H locs ls hv hP hS => va_ldcS hx hb hown (hSt.2.2.2.2.2.2.2.2.2.2.1) hd (K H locs ls hv hP hS)
theorem g_ldcT10 (F : Fx X l0 D ad g cc "MillOfDistancesModel" d N) (hd : Dq cc pc (.ldc 161) 2 q) (K : G X D ad g t u lv q (.ref (g.2.2.1 ((7 : Fin 9)).val) :: st)) : G X D ad g t u lv pc st := by
  obtain ⟨p, l, e, R, s, m, args, below, meth, c, Q, A, nL, cells, slots⟩ := X
  obtain ⟨hd, rfl⟩ := hd
  obtain ⟨hx, hb, hml, hown, hts, hK, hJ, hSt, hA, hAw, hRm, hNn, hl0⟩ := F
  exact fun H locs ls hv hP hS => va_ldcS hx hb hown (hSt.2.2.2.2.2.2.2.2.2.2.2.1) hd (K H locs ls hv hP hS)
theorem g_ldcT11 (F : Fx X l0 D ad g cc "MillOfDistancesModel" d N) (hd : Dq cc pc (.ldc 163) 2 q) (K : G X D ad g t u lv q (.ref (g.2.2.1 ((5 : Fin 9)).val) :: st)) : G X D ad g t u lv pc st := by
  obtain ⟨p, l, e, R, s, m, args, below, meth, c, Q, A, nL, cells, slots⟩ := X
  obtain ⟨hd, rfl⟩ := hd
  obtain ⟨hx, hb, hml, hown, hts, hK, hJ, hSt, hA, hAw, hRm, hNn, hl0⟩ := F
  exact fun H locs ls hv hP hS => va_ldcS hx hb hown (hSt.2.2.2.2.2.2.2.2.2.2.2.2.1) hd (K H locs ls hv hP hS)
theorem g_ldcT12 (F : Fx X l0 D ad g cc "MillOfDistancesModel" d N) (hd : Dq cc pc (.ldc 165) 2 q) (K : G X D ad g t u lv q (.ref (g.2.2.1 ((8 : Fin 9)).val) :: st)) : G X D ad g t u lv pc st := by
  obtain ⟨p, l, e, R, s, m, args, below, meth, c, Q, A, nL, cells, slots⟩ := X
  obtain ⟨hd, rfl⟩ := hd
  obtain ⟨hx, hb, hml, hown, hts, hK, hJ, hSt, hA, hAw, hRm, hNn, hl0⟩ := F
  exact fun H locs ls hv hP hS => va_ldcS hx hb hown (hSt.2.2.2.2.2.2.2.2.2.2.2.2.2.1) hd (K H locs ls hv hP hS)
theorem g_ldcT13 (F : Fx X l0 D ad g cc "MillOfDistancesModel" d N) (hd : Dq cc pc (.ldc 174) 2 q) (K : G X D ad g t u lv q (.ref (g.2.2.1 ((4 : Fin 9)).val) :: st)) : G X D ad g t u lv pc st := by
  obtain ⟨p, l, e, R, s, m, args, below, meth, c, Q, A, nL, cells, slots⟩ := X
  obtain ⟨hd, rfl⟩ := hd
  obtain ⟨hx, hb, hml, hown, hts, hK, hJ, hSt, hA, hAw, hRm, hNn, hl0⟩ := F
  exact fun H locs ls hv hP hS => va_ldcS hx hb hown (hSt.2.2.2.2.2.2.2.2.2.2.2.2.2.2.1) hd (K H locs ls hv hP hS)
theorem nw_335 (F : Fx X l0 D ad g cc own d N) : NwX X (Cond.fieldLinkNest "MillOfDistances$Land" 44 "MillOfDistances" "KIND_ABOVE" "[I" "MillOfDistances") := by
  obtain ⟨p, l, e, R, s, m, args, below, meth, c, Q, A, nL, cells, slots⟩ := X
  obtain ⟨hx, hb, hml, hown, hts, hK, hJ, hSt, -⟩ := F
  exact hSt.2.2.2.2.2.2.2.2.2.2.2.2.2.2.2.1
theorem nw_736 (F : Fx X l0 D ad g cc own d N) : NwX X (Cond.methodLinkNest "MillOfDistances$Lengths" 30 yX5_pairOf "MillOfDistances") := by
  obtain ⟨p, l, e, R, s, m, args, below, meth, c, Q, A, nL, cells, slots⟩ := X
  obtain ⟨hx, hb, hml, hown, hts, hK, hJ, hSt, -⟩ := F
  exact hSt.2.2.2.2.2.2.2.2.2.2.2.2.2.2.2.2.1
theorem nw_816 (F : Fx X l0 D ad g cc own d N) : NwX X (Cond.methodLinkNest "MillOfDistances$Doer" 32 yX5_isKind "MillOfDistances") := by
  obtain ⟨p, l, e, R, s, m, args, below, meth, c, Q, A, nL, cells, slots⟩ := X
  obtain ⟨hx, hb, hml, hown, hts, hK, hJ, hSt, -⟩ := F
  exact hSt.2.2.2.2.2.2.2.2.2.2.2.2.2.2.2.2.2.1
theorem nw_819 (F : Fx X l0 D ad g cc own d N) : NwX X (Cond.methodLinkNest "MillOfDistances$Doer" 39 yX5_kindAbove "MillOfDistances") := by
  obtain ⟨p, l, e, R, s, m, args, below, meth, c, Q, A, nL, cells, slots⟩ := X
  obtain ⟨hx, hb, hml, hown, hts, hK, hJ, hSt, -⟩ := F
  exact hSt.2.2.2.2.2.2.2.2.2.2.2.2.2.2.2.2.2.2
end GE
