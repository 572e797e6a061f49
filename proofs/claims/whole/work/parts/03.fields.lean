theorem fin2 : ∀ L : Fin 2, L = 0 ∨ L = 1 := by decide
theorem fin3 : ∀ L : Fin 3, L = 0 ∨ L = 1 ∨ L = 2 := by decide
theorem fin8 : ∀ L : Fin 8, L = 0 ∨ L = 1 ∨ L = 2 ∨ L = 3 ∨ L = 4 ∨ L = 5 ∨ L = 6 ∨ L = 7 := by decide
/-! steps that may fail -/
def inb (i : Int32) (n : Nat) : Bool := decide (¬ (i < 0 ∨ n ≤ i.toNatClampNeg))
def ck {Rt : Type} (b : Bool) (U : Option Rt) : Option Rt := match b with | true => U | false => none
def bnd {S Rt : Type} (o : Option (S × Mem)) (K : S → Mem → Option Rt) : Option Rt := match o with | none => none | some (a, m) => K a m
def bnp {S Rt : Type} (o : Option S) (K : S → Option Rt) : Option Rt := match o with | none => none | some a => K a
def iter {S Rt : Type} (body : (S → Option Rt) → S → Option Rt) : Nat → S → Option Rt
  | 0, _ => none
  | k + 1, s => body (iter body k) s
def jv (ad : Nat → Nat) (o : Option (Fin 8)) : Option Nat := o.map (fun k => ad (oSh k))
def shv (ad : Nat → Nat) (o : Option (Fin 8)) : Value := va_rf (jv ad o)
theorem ck_some {Rt : Type} {b : Bool} {U : Option Rt} {r : Rt} (h : ck b U = some r) : b = true ∧ U = some r := by
  cases b with
  | true => exact ⟨rfl, h⟩
  | false => cases h
theorem bnd_some {S Rt : Type} {o : Option (S × Mem)} {K : S → Mem → Option Rt} {r : Rt} (h : bnd o K = some r) : ∃ a m, o = some (a, m) ∧ K a m = some r := by
  cases o with
  | none => cases h
  | some q => exact ⟨q.1, q.2, rfl, h⟩
theorem bnp_some {S Rt : Type} {o : Option S} {K : S → Option Rt} {r : Rt} (h : bnp o K = some r) : ∃ a, o = some a ∧ K a = some r := by
  cases o with
  | none => cases h
  | some q => exact ⟨q, rfl, h⟩
theorem iter_walk {S Rt : Type} {body : (S → Option Rt) → S → Option Rt} {Rv : Rt} {P : S → Prop} (hb : ∀ self : S → Option Rt, (∀ s, self s = some Rv → P s) → ∀ s, body self s = some Rv → P s) : ∀ (k : Nat) (s : S), iter body k s = some Rv → P s := by
  intro k
  induction k with
  | zero => intro s h; cases h
  | succ k ih => exact fun s h => hb _ ih s h
theorem vp_of_inb {i : Int32} {n : Nat} (h : inb i n = true) : vp_in i n := of_decide_eq_true (p := ¬ (i < 0 ∨ n ≤ i.toNatClampNeg)) h
section GM
variable {X : Cx} {l0 : Launch} {D : va_G} {ad : Nat → Nat} {g : Gv} {cc : ByteArray} {own : String} {d N : Nat} {t u t' u' : Mem} {lv lv' : List (Nat × Value)} {pc q tgt : Nat} {st : List Value} {Rt : Type} {Rv : Rt} {U : Option Rt}
theorem g_ck {b : Bool} (h : ck b U = some Rv) (k : b = true → U = some Rv → G X D ad g t u lv pc st) : G X D ad g t u lv pc st := k (ck_some h).1 (ck_some h).2
theorem g_get {ci Nf o k idx : Nat} {C : String} {T : u_T} {fs : List Value} {v : Value} (F : Fx X l0 D ad g cc own d N) (hin : ∀ w ∈ u_ws C T Nf, w ∈ gw) (hc : vwCl[ci]? = some (C, T, Nf)) (he : (wsA ad g t u)[o]? = some (ad o, .inr (ci, fs))) (hk : k < Nf) (hv : fs[k]? = some v) (hT : (T k).1 = C) (hl : Cond.fieldLink own idx C (T k).2.1 (T k).2.2.1 ∈ gw) (hd : Dq cc pc (.getfield idx) 3 q) (K : G X D ad g t u lv q (v :: st)) : G X D ad g t u lv pc (.ref (ad o) :: st) := by
  obtain ⟨p, l, e, R, s, m, args, below, meth, c, Q, A, nL, cells, slots⟩ := X
  obtain ⟨hd, rfl⟩ := hd
  obtain ⟨hx, hb, hml, hown, hts, hK, -⟩ := F
  exact fun H locs ls hv' hP hS => va_get (D := D) (ci := ci) (v := v) (C := C) (T := T) (N := Nf) hx hb hts hin hown hK hP o he hc k hk (hts _ hl) (fun x h => by rw [hT] at h; exact h) hv hd (K H locs ls hv' hP hS)
theorem g_put {ci Nf o k idx : Nat} {C : String} {T : u_T} {fs : List Value} {v : Value} {ty : FieldType} (F : Fx X l0 D ad g cc own d N) (hin : ∀ w ∈ u_ws C T Nf, w ∈ gw) (ty0 : Nat → FieldType) (hty : ∀ k, k < Nf → parseFieldDescriptor (T k).2.2.1 = some (ty0 k)) (hnm : ∀ a, a < Nf → ∀ b, b < Nf → a ≠ b → (T a).2.1 ≠ (T b).2.1) (hc : vwCl[ci]? = some (C, T, Nf)) (he : (wsA ad g t u)[o]? = some (ad o, .inr (ci, fs))) (hk : k < Nf) (hkf : k < fs.length) (hT : (T k).1 = C) (hfin : (T k).2.2.2 = false) (hpd : parseFieldDescriptor (T k).2.2.1 = some ty) (hn : narrow ty v = v) (hfit : fits ty v = true) (hset : (wsA ad g t u).set o (ad o, .inr (ci, fs.set k v)) = wsA ad g t' u') (hl : Cond.fieldLink own idx C (T k).2.1 (T k).2.2.1 ∈ gw) (hd : Dq cc pc (.putfield idx) 3 q) (K : G X D ad g t' u' lv q st) : G X D ad g t u lv pc (v :: .ref (ad o) :: st) := by
  obtain ⟨p, l, e, R, s, m, args, below, meth, c, Q, A, nL, cells, slots⟩ := X
  obtain ⟨hd, rfl⟩ := hd
  obtain ⟨hx, hb, hml, hown, hts, hK, hJ, -, -, hAw, -⟩ := F
  exact fun H locs ls hv' hP hS => va_put (D := D) (ci := ci) (v := v) (ty := ty) (C := C) (T := T) (N := Nf) hx hb hts hin ty0 hty hnm hown hK hP (wsA_D hJ hAw t u) hS o he hc k hk (hts _ hl) (fun x h => by rw [hT] at h; exact h) hfin hpd hn hfit hkf hd (fun H1 locs1 hP1 _ hS1 => K H1 locs1 ls hv' (hset ▸ hP1) hS1)
def AI (ad : Nat → Nat) (g : Gv) (o n : Nat) (f : Mem → Mem → Nat → Int32) (up : Mem → Mem → (Nat → Int32) → Mem × Mem) : Prop := ∀ t u, (wsA ad g t u)[o]? = some (ad o, .inl (g.1.1, n, .inl (f t u))) ∧ ∀ z, (wsA ad g t u).set o (ad o, .inl (g.1.1, n, .inl z)) = wsA ad g (up t u z).1 (up t u z).2
def AL (ad : Nat → Nat) (g : Gv) (o n : Nat) (f : Mem → Mem → Nat → Int64) (up : Mem → Mem → (Nat → Int64) → Mem × Mem) : Prop := ∀ t u, (wsA ad g t u)[o]? = some (ad o, .inl (g.1.2.1, n, .inr (.inl (f t u)))) ∧ ∀ z, (wsA ad g t u).set o (ad o, .inl (g.1.2.1, n, .inr (.inl z))) = wsA ad g (up t u z).1 (up t u z).2
abbrev AIc (ad : Nat → Nat) (g : Gv) (o n : Nat) : Prop := AI ad g o n (fun t _ => t.1 o) (fun t u z => (uA t o z, u))
abbrev AIm (ad : Nat → Nat) (g : Gv) (o n : Nat) : Prop := AI ad g o n (fun _ u => u.1 o) (fun t u z => (t, uA u o z))
abbrev ALc (ad : Nat → Nat) (g : Gv) (o n : Nat) : Prop := AL ad g o n (fun t _ => t.2 o) (fun t u z => (uB t o z, u))
abbrev ALm (ad : Nat → Nat) (g : Gv) (o n : Nat) : Prop := AL ad g o n (fun _ u => u.2 o) (fun t u z => (t, uB u o z))
theorem g_ialoadc {o n : Nat} {i : Int32} (F : Fx X l0 D ad g cc own d N) (ha : AIc ad g o n) (hd : Dq cc pc .iaload 1 q) (hi : inb i n = true) (K : G X D ad g t u lv q (.int (t.1 o i.toNatClampNeg) :: st)) : G X D ad g t u lv pc (.int i :: .ref (ad o) :: st) := by
  obtain ⟨p, l, e, R, s, m, args, below, meth, c, Q, A, nL, cells, slots⟩ := X
  obtain ⟨hd, rfl⟩ := hd
  obtain ⟨hx, hb, hml, hown, hts, hK, -⟩ := F
  exact fun H locs ls hv' hP hS => va_iald hx hb hK hP o 0 (ha t u).1 rfl (vp_of_inb hi) hd (K H locs ls hv' hP hS)
theorem g_iastorec {o n : Nat} {i : Int32} {x : Int32} (F : Fx X l0 D ad g cc own d N) (ha : AIc ad g o n) (hd : Dq cc pc .iastore 1 q) (hi : inb i n = true) (K : G X D ad g (uI t o i.toNatClampNeg x) u lv q st) : G X D ad g t u lv pc (.int x :: .int i :: .ref (ad o) :: st) := by
  obtain ⟨p, l, e, R, s, m, args, below, meth, c, Q, A, nL, cells, slots⟩ := X
  obtain ⟨hd, rfl⟩ := hd
  obtain ⟨hx, hb, hml, hown, hts, hK, hJ, -, -, hAw, -⟩ := F
  exact fun H locs ls hv' hP hS => va_iast hx hb hK hP (wsA_D hJ hAw t u) hS o 0 (ha t u).1 rfl (vp_of_inb hi) hd (fun H1 locs1 hP1 _ hS1 => K H1 locs1 ls hv' ((ha t u).2 _ ▸ hP1) hS1)
theorem g_ialoadm {o n : Nat} {i : Int32} (F : Fx X l0 D ad g cc own d N) (ha : AIm ad g o n) (hd : Dq cc pc .iaload 1 q) (hi : inb i n = true) (K : G X D ad g t u lv q (.int (u.1 o i.toNatClampNeg) :: st)) : G X D ad g t u lv pc (.int i :: .ref (ad o) :: st) := by
  obtain ⟨p, l, e, R, s, m, args, below, meth, c, Q, A, nL, cells, slots⟩ := X
  obtain ⟨hd, rfl⟩ := hd
  obtain ⟨hx, hb, hml, hown, hts, hK, -⟩ := F
  exact fun H locs ls hv' hP hS => va_iald hx hb hK hP o 0 (ha t u).1 rfl (vp_of_inb hi) hd (K H locs ls hv' hP hS)
theorem g_iastorem {o n : Nat} {i : Int32} {x : Int32} (F : Fx X l0 D ad g cc own d N) (ha : AIm ad g o n) (hd : Dq cc pc .iastore 1 q) (hi : inb i n = true) (K : G X D ad g t (uI u o i.toNatClampNeg x) lv q st) : G X D ad g t u lv pc (.int x :: .int i :: .ref (ad o) :: st) := by
  obtain ⟨p, l, e, R, s, m, args, below, meth, c, Q, A, nL, cells, slots⟩ := X
  obtain ⟨hd, rfl⟩ := hd
  obtain ⟨hx, hb, hml, hown, hts, hK, hJ, -, -, hAw, -⟩ := F
  exact fun H locs ls hv' hP hS => va_iast hx hb hK hP (wsA_D hJ hAw t u) hS o 0 (ha t u).1 rfl (vp_of_inb hi) hd (fun H1 locs1 hP1 _ hS1 => K H1 locs1 ls hv' ((ha t u).2 _ ▸ hP1) hS1)
theorem g_laloadc {o n : Nat} {i : Int32} (F : Fx X l0 D ad g cc own d N) (ha : ALc ad g o n) (hd : Dq cc pc .laload 1 q) (hi : inb i n = true) (K : G X D ad g t u lv q (.long (t.2 o i.toNatClampNeg) :: st)) : G X D ad g t u lv pc (.int i :: .ref (ad o) :: st) := by
  obtain ⟨p, l, e, R, s, m, args, below, meth, c, Q, A, nL, cells, slots⟩ := X
  obtain ⟨hd, rfl⟩ := hd
  obtain ⟨hx, hb, hml, hown, hts, hK, -⟩ := F
  exact fun H locs ls hv' hP hS => va_lald hx hb hK hP o 1 (ha t u).1 rfl (vp_of_inb hi) hd (K H locs ls hv' hP hS)
theorem g_lastorec {o n : Nat} {i : Int32} {x : Int64} (F : Fx X l0 D ad g cc own d N) (ha : ALc ad g o n) (hd : Dq cc pc .lastore 1 q) (hi : inb i n = true) (K : G X D ad g (uL t o i.toNatClampNeg x) u lv q st) : G X D ad g t u lv pc (.long x :: .int i :: .ref (ad o) :: st) := by
  obtain ⟨p, l, e, R, s, m, args, below, meth, c, Q, A, nL, cells, slots⟩ := X
  obtain ⟨hd, rfl⟩ := hd
  obtain ⟨hx, hb, hml, hown, hts, hK, hJ, -, -, hAw, -⟩ := F
  exact fun H locs ls hv' hP hS => va_last hx hb hK hP (wsA_D hJ hAw t u) hS o 1 (ha t u).1 rfl (vp_of_inb hi) hd (fun H1 locs1 hP1 _ hS1 => K H1 locs1 ls hv' ((ha t u).2 _ ▸ hP1) hS1)
theorem g_laloadm {o n : Nat} {i : Int32} (F : Fx X l0 D ad g cc own d N) (ha : ALm ad g o n) (hd : Dq cc pc .laload 1 q) (hi : inb i n = true) (K : G X D ad g t u lv q (.long (u.2 o i.toNatClampNeg) :: st)) : G X D ad g t u lv pc (.int i :: .ref (ad o) :: st) := by
  obtain ⟨p, l, e, R, s, m, args, below, meth, c, Q, A, nL, cells, slots⟩ := X
  obtain ⟨hd, rfl⟩ := hd
  obtain ⟨hx, hb, hml, hown, hts, hK, -⟩ := F
  exact fun H locs ls hv' hP hS => va_lald hx hb hK hP o 1 (ha t u).1 rfl (vp_of_inb hi) hd (K H locs ls hv' hP hS)
theorem g_lastorem {o n : Nat} {i : Int32} {x : Int64} (F : Fx X l0 D ad g cc own d N) (ha : ALm ad g o n) (hd : Dq cc pc .lastore 1 q) (hi : inb i n = true) (K : G X D ad g t (uL u o i.toNatClampNeg x) lv q st) : G X D ad g t u lv pc (.long x :: .int i :: .ref (ad o) :: st) := by
  obtain ⟨p, l, e, R, s, m, args, below, meth, c, Q, A, nL, cells, slots⟩ := X
  obtain ⟨hd, rfl⟩ := hd
  obtain ⟨hx, hb, hml, hown, hts, hK, hJ, -, -, hAw, -⟩ := F
  exact fun H locs ls hv' hP hS => va_last hx hb hK hP (wsA_D hJ hAw t u) hS o 1 (ha t u).1 rfl (vp_of_inb hi) hd (fun H1 locs1 hP1 _ hS1 => K H1 locs1 ls hv' ((ha t u).2 _ ▸ hP1) hS1)
theorem g_alenL {o n : Nat} {v : Int32} {f : Mem → Mem → Nat → Int64} {up : Mem → Mem → (Nat → Int64) → Mem × Mem} (F : Fx X l0 D ad g cc own d N) (ha : AL ad g o n f up) (hv : Int32.ofNat n = v) (hd : Dq cc pc .arraylength 1 q) (K : G X D ad g t u lv q (.int v :: st)) : G X D ad g t u lv pc (.ref (ad o) :: st) := by
  obtain ⟨p, l, e, R, s, m, args, below, meth, c, Q, A, nL, cells, slots⟩ := X
  obtain ⟨hd, rfl⟩ := hd
  obtain ⟨hx, hb, hml, hown, hts, hK, -⟩ := F
  exact fun H locs ls hv' hP hS => va_alen hx hb hK hP o 1 (ha t u).1 rfl hv hd (K H locs ls hv' hP hS)
theorem cp_room {d Rl : Nat} {st : List Value} (hr : 1 ≤ d) (hst : (st.map fun v => v.category).sum ≤ 8) (h : 64 * d ≤ Rl) : (st.map fun v => v.category).sum + (nativeFrameWords "java/lang/System" "arraycopy" 5 + 11) ≤ Rl := by
  have h1 : nativeFrameWords "java/lang/System" "arraycopy" 5 ≤ 40 := by decide
  omega
/-- a row of ints copied into another -/
theorem g_copyi {o0 o1 n0 n1 idx : Nat} {f0 f1 : Mem → Mem → Nat → Int32} {up0 up1 : Mem → Mem → (Nat → Int32) → Mem × Mem} {sp dp n : Int32} (F : Fx X l0 D ad g cc own d N) (ha0 : AI ad g o0 n0 f0 up0) (ha1 : AI ad g o1 n1 f1 up1) (hl : Cond.methodLink own idx arraycopyName ∈ gw) (hn : Cond.native arraycopyName ∈ gw) (hs : Cond.static arraycopyName ∈ gw) (hi : Cond.initialized "java/lang/System" ∈ gw) (hd : Dq cc pc (.invokestatic idx) 3 q) (h1 : ¬ sp < 0) (h2 : ¬ dp < 0) (h3 : ¬ n < 0) (h4 : sp.toNatClampNeg + n.toNatClampNeg ≤ n0) (h5 : dp.toNatClampNeg + n.toNatClampNeg ≤ n1) (hr : 1 ≤ d) (hst : (st.map fun v => v.category).sum ≤ 8) (K : G X D ad g (up1 t u (va_cpy (f0 t u) (f1 t u) sp.toNatClampNeg dp.toNatClampNeg n.toNatClampNeg)).1 (up1 t u (va_cpy (f0 t u) (f1 t u) sp.toNatClampNeg dp.toNatClampNeg n.toNatClampNeg)).2 lv q st) : G X D ad g t u lv pc (.int n :: .int dp :: .ref (ad o1) :: .int sp :: .ref (ad o0) :: st) := by
  obtain ⟨p, l, e, R, s, m, args, below, meth, c, Q, A, nL, cells, slots⟩ := X
  obtain ⟨hd, rfl⟩ := hd
  obtain ⟨hx, hb, hml, hown, hts, hK, hJ, -, -, hAw, hRm, -⟩ := F
  exact fun H locs ls hv' hP hS => va_copyi hx hb (hml.trans hv'.1.symm) hown (hts _ hl) (hts _ hn) (hts _ hs) (hts _ hi) hK hP (wsA_D hJ hAw t u) hS o0 o1 0 0 (ha0 t u).1 (ha1 t u).1 rfl rfl rfl h1 h2 h3 h4 h5 (fun _ _ => rfl) (Nat.le_trans hr hRm.1) (cp_room hr hst hRm.2.1) hd (fun H1 locs1 hP1 _ hS1 => K H1 locs1 ls hv' ((ha1 t u).2 _ ▸ hP1) hS1)
theorem g_copyl {o0 o1 n0 n1 idx : Nat} {f0 f1 : Mem → Mem → Nat → Int64} {up0 up1 : Mem → Mem → (Nat → Int64) → Mem × Mem} {sp dp n : Int32} (F : Fx X l0 D ad g cc own d N) (ha0 : AL ad g o0 n0 f0 up0) (ha1 : AL ad g o1 n1 f1 up1) (hl : Cond.methodLink own idx arraycopyName ∈ gw) (hn : Cond.native arraycopyName ∈ gw) (hs : Cond.static arraycopyName ∈ gw) (hi : Cond.initialized "java/lang/System" ∈ gw) (hd : Dq cc pc (.invokestatic idx) 3 q) (h1 : ¬ sp < 0) (h2 : ¬ dp < 0) (h3 : ¬ n < 0) (h4 : sp.toNatClampNeg + n.toNatClampNeg ≤ n0) (h5 : dp.toNatClampNeg + n.toNatClampNeg ≤ n1) (hr : 1 ≤ d) (hst : (st.map fun v => v.category).sum ≤ 8) (K : G X D ad g (up1 t u (va_cpy (f0 t u) (f1 t u) sp.toNatClampNeg dp.toNatClampNeg n.toNatClampNeg)).1 (up1 t u (va_cpy (f0 t u) (f1 t u) sp.toNatClampNeg dp.toNatClampNeg n.toNatClampNeg)).2 lv q st) : G X D ad g t u lv pc (.int n :: .int dp :: .ref (ad o1) :: .int sp :: .ref (ad o0) :: st) := by
  obtain ⟨p, l, e, R, s, m, args, below, meth, c, Q, A, nL, cells, slots⟩ := X
  obtain ⟨hd, rfl⟩ := hd
  obtain ⟨hx, hb, hml, hown, hts, hK, hJ, -, -, hAw, hRm, -⟩ := F
  exact fun H locs ls hv' hP hS => va_copyl hx hb (hml.trans hv'.1.symm) hown (hts _ hl) (hts _ hn) (hts _ hs) (hts _ hi) hK hP (wsA_D hJ hAw t u) hS o0 o1 1 1 (ha0 t u).1 (ha1 t u).1 rfl rfl rfl h1 h2 h3 h4 h5 (fun _ _ => rfl) (Nat.le_trans hr hRm.1) (cp_room hr hst hRm.2.1) hd (fun H1 locs1 hP1 _ hS1 => K H1 locs1 ls hv' ((ha1 t u).2 _ ▸ hP1) hS1)
theorem hin_Doer : ∀ w ∈ u_ws RX0 TX0 5, w ∈ gw := fun w h => gm ((show ∀ w ∈ u_ws RX0 TX0 5, w ∈ lw_tbl by decide +kernel) w h) ((show ∀ w ∈ u_ws RX0 TX0 5, goodWord w = true by decide +kernel) w h)
theorem gg_Doer_trace {idx : Nat} (F : Fx X l0 D ad g cc own d N) (hl : Cond.fieldLink own idx "MillOfDistances$Doer" "trace" "[I" ∈ gw) (hd : Dq cc pc (.getfield idx) 3 q) (kk : G X D ad g t u lv q (.ref (ad 38) :: st)) : G X D ad g t u lv pc (.ref (ad 37) :: st) := by
  exact g_get (o := 37) (k := 0) (ci := 0) (C := RX0) (T := TX0) (Nf := 5) F hin_Doer rfl rfl (by decide) rfl rfl hl hd kk
theorem gg_Doer_ran {idx : Nat} (F : Fx X l0 D ad g cc own d N) (hl : Cond.fieldLink own idx "MillOfDistances$Doer" "ran" "I" ∈ gw) (hd : Dq cc pc (.getfield idx) 3 q) (kk : G X D ad g t u lv q (.int (t.1 37 1) :: st)) : G X D ad g t u lv pc (.ref (ad 37) :: st) := by
  exact g_get (o := 37) (k := 1) (ci := 0) (C := RX0) (T := TX0) (Nf := 5) F hin_Doer rfl rfl (by decide) rfl rfl hl hd kk
theorem gp_Doer_ran {idx : Nat} {v : Int32} (F : Fx X l0 D ad g cc own d N) (hl : Cond.fieldLink own idx "MillOfDistances$Doer" "ran" "I" ∈ gw) (hd : Dq cc pc (.putfield idx) 3 q) (kk : G X D ad g (uI t 37 1 v) u lv q st) : G X D ad g t u lv pc (.int v :: .ref (ad 37) :: st) := by
  exact g_put (o := 37) (k := 1) (ci := 0) (C := RX0) (T := TX0) (Nf := 5) (ty := .int) F hin_Doer tyX0 tyX0_ok nmX0 rfl rfl (by decide) (Nat.le_of_ble_eq_true rfl) rfl rfl (by decide +kernel) rfl rfl rfl hl hd kk
theorem gg_Doer_kind {idx : Nat} (F : Fx X l0 D ad g cc own d N) (hl : Cond.fieldLink own idx "MillOfDistances$Doer" "kind" "I" ∈ gw) (hd : Dq cc pc (.getfield idx) 3 q) (kk : G X D ad g t u lv q (.int (t.1 37 2) :: st)) : G X D ad g t u lv pc (.ref (ad 37) :: st) := by
  exact g_get (o := 37) (k := 2) (ci := 0) (C := RX0) (T := TX0) (Nf := 5) F hin_Doer rfl rfl (by decide) rfl rfl hl hd kk
theorem gp_Doer_kind {idx : Nat} {v : Int32} (F : Fx X l0 D ad g cc own d N) (hl : Cond.fieldLink own idx "MillOfDistances$Doer" "kind" "I" ∈ gw) (hd : Dq cc pc (.putfield idx) 3 q) (kk : G X D ad g (uI t 37 2 v) u lv q st) : G X D ad g t u lv pc (.int v :: .ref (ad 37) :: st) := by
  exact g_put (o := 37) (k := 2) (ci := 0) (C := RX0) (T := TX0) (Nf := 5) (ty := .int) F hin_Doer tyX0 tyX0_ok nmX0 rfl rfl (by decide) (Nat.le_of_ble_eq_true rfl) rfl rfl (by decide +kernel) rfl rfl rfl hl hd kk
theorem gg_Doer_m {idx : Nat} (F : Fx X l0 D ad g cc own d N) (hl : Cond.fieldLink own idx "MillOfDistances$Doer" "m" "I" ∈ gw) (hd : Dq cc pc (.getfield idx) 3 q) (kk : G X D ad g t u lv q (.int (t.1 37 3) :: st)) : G X D ad g t u lv pc (.ref (ad 37) :: st) := by
  exact g_get (o := 37) (k := 3) (ci := 0) (C := RX0) (T := TX0) (Nf := 5) F hin_Doer rfl rfl (by decide) rfl rfl hl hd kk
theorem gp_Doer_m {idx : Nat} {v : Int32} (F : Fx X l0 D ad g cc own d N) (hl : Cond.fieldLink own idx "MillOfDistances$Doer" "m" "I" ∈ gw) (hd : Dq cc pc (.putfield idx) 3 q) (kk : G X D ad g (uI t 37 3 v) u lv q st) : G X D ad g t u lv pc (.int v :: .ref (ad 37) :: st) := by
  exact g_put (o := 37) (k := 3) (ci := 0) (C := RX0) (T := TX0) (Nf := 5) (ty := .int) F hin_Doer tyX0 tyX0_ok nmX0 rfl rfl (by decide) (Nat.le_of_ble_eq_true rfl) rfl rfl (by decide +kernel) rfl rfl rfl hl hd kk
theorem gg_Doer_k {idx : Nat} (F : Fx X l0 D ad g cc own d N) (hl : Cond.fieldLink own idx "MillOfDistances$Doer" "k" "I" ∈ gw) (hd : Dq cc pc (.getfield idx) 3 q) (kk : G X D ad g t u lv q (.int (t.1 37 4) :: st)) : G X D ad g t u lv pc (.ref (ad 37) :: st) := by
  exact g_get (o := 37) (k := 4) (ci := 0) (C := RX0) (T := TX0) (Nf := 5) F hin_Doer rfl rfl (by decide) rfl rfl hl hd kk
theorem gp_Doer_k {idx : Nat} {v : Int32} (F : Fx X l0 D ad g cc own d N) (hl : Cond.fieldLink own idx "MillOfDistances$Doer" "k" "I" ∈ gw) (hd : Dq cc pc (.putfield idx) 3 q) (kk : G X D ad g (uI t 37 4 v) u lv q st) : G X D ad g t u lv pc (.int v :: .ref (ad 37) :: st) := by
  exact g_put (o := 37) (k := 4) (ci := 0) (C := RX0) (T := TX0) (Nf := 5) (ty := .int) F hin_Doer tyX0 tyX0_ok nmX0 rfl rfl (by decide) (Nat.le_of_ble_eq_true rfl) rfl rfl (by decide +kernel) rfl rfl rfl hl hd kk
theorem hin_Land : ∀ w ∈ u_ws RX1 TX1 7, w ∈ gw := fun w h => gm ((show ∀ w ∈ u_ws RX1 TX1 7, w ∈ lw_tbl by decide +kernel) w h) ((show ∀ w ∈ u_ws RX1 TX1 7, goodWord w = true by decide +kernel) w h)
theorem gg_Land_kinds (L : Fin 3) {idx : Nat} (F : Fx X l0 D ad g cc own d N) (hl : Cond.fieldLink own idx "MillOfDistances$Land" "kinds" "[I" ∈ gw) (hd : Dq cc pc (.getfield idx) 3 q) (kk : G X D ad g t u lv q (.ref (ad (oKn L)) :: st)) : G X D ad g t u lv pc (.ref (ad (oLd L)) :: st) := by
  obtain rfl | rfl | rfl := fin3 L
  · exact g_get (o := 1) (k := 0) (ci := 1) (C := RX1) (T := TX1) (Nf := 7) F hin_Land rfl rfl (by decide) rfl rfl hl hd kk
  · exact g_get (o := 2) (k := 0) (ci := 1) (C := RX1) (T := TX1) (Nf := 7) F hin_Land rfl rfl (by decide) rfl rfl hl hd kk
  · exact g_get (o := 3) (k := 0) (ci := 1) (C := RX1) (T := TX1) (Nf := 7) F hin_Land rfl rfl (by decide) rfl rfl hl hd kk
theorem gg_Land_marks (L : Fin 3) {idx : Nat} (F : Fx X l0 D ad g cc own d N) (hl : Cond.fieldLink own idx "MillOfDistances$Land" "marks" "[I" ∈ gw) (hd : Dq cc pc (.getfield idx) 3 q) (kk : G X D ad g t u lv q (.ref (ad (oMk L)) :: st)) : G X D ad g t u lv pc (.ref (ad (oLd L)) :: st) := by
  obtain rfl | rfl | rfl := fin3 L
  · exact g_get (o := 1) (k := 1) (ci := 1) (C := RX1) (T := TX1) (Nf := 7) F hin_Land rfl rfl (by decide) rfl rfl hl hd kk
  · exact g_get (o := 2) (k := 1) (ci := 1) (C := RX1) (T := TX1) (Nf := 7) F hin_Land rfl rfl (by decide) rfl rfl hl hd kk
  · exact g_get (o := 3) (k := 1) (ci := 1) (C := RX1) (T := TX1) (Nf := 7) F hin_Land rfl rfl (by decide) rfl rfl hl hd kk
theorem gg_Land_roads (L : Fin 3) {idx : Nat} (F : Fx X l0 D ad g cc own d N) (hl : Cond.fieldLink own idx "MillOfDistances$Land" "roads" "[I" ∈ gw) (hd : Dq cc pc (.getfield idx) 3 q) (kk : G X D ad g t u lv q (.ref (ad (oRd L)) :: st)) : G X D ad g t u lv pc (.ref (ad (oLd L)) :: st) := by
  obtain rfl | rfl | rfl := fin3 L
  · exact g_get (o := 1) (k := 2) (ci := 1) (C := RX1) (T := TX1) (Nf := 7) F hin_Land rfl rfl (by decide) rfl rfl hl hd kk
  · exact g_get (o := 2) (k := 2) (ci := 1) (C := RX1) (T := TX1) (Nf := 7) F hin_Land rfl rfl (by decide) rfl rfl hl hd kk
  · exact g_get (o := 3) (k := 2) (ci := 1) (C := RX1) (T := TX1) (Nf := 7) F hin_Land rfl rfl (by decide) rfl rfl hl hd kk
theorem gg_Land_count (L : Fin 3) {idx : Nat} (F : Fx X l0 D ad g cc own d N) (hl : Cond.fieldLink own idx "MillOfDistances$Land" "count" "I" ∈ gw) (hd : Dq cc pc (.getfield idx) 3 q) (kk : G X D ad g t u lv q (.int (t.1 (oLd L) 3) :: st)) : G X D ad g t u lv pc (.ref (ad (oLd L)) :: st) := by
  obtain rfl | rfl | rfl := fin3 L
  · exact g_get (o := 1) (k := 3) (ci := 1) (C := RX1) (T := TX1) (Nf := 7) F hin_Land rfl rfl (by decide) rfl rfl hl hd kk
  · exact g_get (o := 2) (k := 3) (ci := 1) (C := RX1) (T := TX1) (Nf := 7) F hin_Land rfl rfl (by decide) rfl rfl hl hd kk
  · exact g_get (o := 3) (k := 3) (ci := 1) (C := RX1) (T := TX1) (Nf := 7) F hin_Land rfl rfl (by decide) rfl rfl hl hd kk
theorem gp_Land_count (L : Fin 3) {idx : Nat} {v : Int32} (F : Fx X l0 D ad g cc own d N) (hl : Cond.fieldLink own idx "MillOfDistances$Land" "count" "I" ∈ gw) (hd : Dq cc pc (.putfield idx) 3 q) (kk : G X D ad g (uI t (oLd L) 3 v) u lv q st) : G X D ad g t u lv pc (.int v :: .ref (ad (oLd L)) :: st) := by
  obtain rfl | rfl | rfl := fin3 L
  · exact g_put (o := 1) (k := 3) (ci := 1) (C := RX1) (T := TX1) (Nf := 7) (ty := .int) F hin_Land tyX1 tyX1_ok nmX1 rfl rfl (by decide) (Nat.le_of_ble_eq_true rfl) rfl rfl (by decide +kernel) rfl rfl rfl hl hd kk
  · exact g_put (o := 2) (k := 3) (ci := 1) (C := RX1) (T := TX1) (Nf := 7) (ty := .int) F hin_Land tyX1 tyX1_ok nmX1 rfl rfl (by decide) (Nat.le_of_ble_eq_true rfl) rfl rfl (by decide +kernel) rfl rfl rfl hl hd kk
  · exact g_put (o := 3) (k := 3) (ci := 1) (C := RX1) (T := TX1) (Nf := 7) (ty := .int) F hin_Land tyX1 tyX1_ok nmX1 rfl rfl (by decide) (Nat.le_of_ble_eq_true rfl) rfl rfl (by decide +kernel) rfl rfl rfl hl hd kk
theorem gg_Land_flour (L : Fin 3) {idx : Nat} (F : Fx X l0 D ad g cc own d N) (hl : Cond.fieldLink own idx "MillOfDistances$Land" "flour" "I" ∈ gw) (hd : Dq cc pc (.getfield idx) 3 q) (kk : G X D ad g t u lv q (.int (t.1 (oLd L) 4) :: st)) : G X D ad g t u lv pc (.ref (ad (oLd L)) :: st) := by
  obtain rfl | rfl | rfl := fin3 L
  · exact g_get (o := 1) (k := 4) (ci := 1) (C := RX1) (T := TX1) (Nf := 7) F hin_Land rfl rfl (by decide) rfl rfl hl hd kk
  · exact g_get (o := 2) (k := 4) (ci := 1) (C := RX1) (T := TX1) (Nf := 7) F hin_Land rfl rfl (by decide) rfl rfl hl hd kk
  · exact g_get (o := 3) (k := 4) (ci := 1) (C := RX1) (T := TX1) (Nf := 7) F hin_Land rfl rfl (by decide) rfl rfl hl hd kk
theorem gp_Land_flour (L : Fin 3) {idx : Nat} {v : Int32} (F : Fx X l0 D ad g cc own d N) (hl : Cond.fieldLink own idx "MillOfDistances$Land" "flour" "I" ∈ gw) (hd : Dq cc pc (.putfield idx) 3 q) (kk : G X D ad g (uI t (oLd L) 4 v) u lv q st) : G X D ad g t u lv pc (.int v :: .ref (ad (oLd L)) :: st) := by
  obtain rfl | rfl | rfl := fin3 L
  · exact g_put (o := 1) (k := 4) (ci := 1) (C := RX1) (T := TX1) (Nf := 7) (ty := .int) F hin_Land tyX1 tyX1_ok nmX1 rfl rfl (by decide) (Nat.le_of_ble_eq_true rfl) rfl rfl (by decide +kernel) rfl rfl rfl hl hd kk
  · exact g_put (o := 2) (k := 4) (ci := 1) (C := RX1) (T := TX1) (Nf := 7) (ty := .int) F hin_Land tyX1 tyX1_ok nmX1 rfl rfl (by decide) (Nat.le_of_ble_eq_true rfl) rfl rfl (by decide +kernel) rfl rfl rfl hl hd kk
  · exact g_put (o := 3) (k := 4) (ci := 1) (C := RX1) (T := TX1) (Nf := 7) (ty := .int) F hin_Land tyX1 tyX1_ok nmX1 rfl rfl (by decide) (Nat.le_of_ble_eq_true rfl) rfl rfl (by decide +kernel) rfl rfl rfl hl hd kk
theorem gg_Land_wind (L : Fin 3) {idx : Nat} (F : Fx X l0 D ad g cc own d N) (hl : Cond.fieldLink own idx "MillOfDistances$Land" "wind" "I" ∈ gw) (hd : Dq cc pc (.getfield idx) 3 q) (kk : G X D ad g t u lv q (.int (t.1 (oLd L) 5) :: st)) : G X D ad g t u lv pc (.ref (ad (oLd L)) :: st) := by
  obtain rfl | rfl | rfl := fin3 L
  · exact g_get (o := 1) (k := 5) (ci := 1) (C := RX1) (T := TX1) (Nf := 7) F hin_Land rfl rfl (by decide) rfl rfl hl hd kk
  · exact g_get (o := 2) (k := 5) (ci := 1) (C := RX1) (T := TX1) (Nf := 7) F hin_Land rfl rfl (by decide) rfl rfl hl hd kk
  · exact g_get (o := 3) (k := 5) (ci := 1) (C := RX1) (T := TX1) (Nf := 7) F hin_Land rfl rfl (by decide) rfl rfl hl hd kk
theorem gp_Land_wind (L : Fin 3) {idx : Nat} {v : Int32} (F : Fx X l0 D ad g cc own d N) (hl : Cond.fieldLink own idx "MillOfDistances$Land" "wind" "I" ∈ gw) (hd : Dq cc pc (.putfield idx) 3 q) (kk : G X D ad g (uI t (oLd L) 5 v) u lv q st) : G X D ad g t u lv pc (.int v :: .ref (ad (oLd L)) :: st) := by
  obtain rfl | rfl | rfl := fin3 L
  · exact g_put (o := 1) (k := 5) (ci := 1) (C := RX1) (T := TX1) (Nf := 7) (ty := .int) F hin_Land tyX1 tyX1_ok nmX1 rfl rfl (by decide) (Nat.le_of_ble_eq_true rfl) rfl rfl (by decide +kernel) rfl rfl rfl hl hd kk
  · exact g_put (o := 2) (k := 5) (ci := 1) (C := RX1) (T := TX1) (Nf := 7) (ty := .int) F hin_Land tyX1 tyX1_ok nmX1 rfl rfl (by decide) (Nat.le_of_ble_eq_true rfl) rfl rfl (by decide +kernel) rfl rfl rfl hl hd kk
  · exact g_put (o := 3) (k := 5) (ci := 1) (C := RX1) (T := TX1) (Nf := 7) (ty := .int) F hin_Land tyX1 tyX1_ok nmX1 rfl rfl (by decide) (Nat.le_of_ble_eq_true rfl) rfl rfl (by decide +kernel) rfl rfl rfl hl hd kk
theorem gg_Land_seed (L : Fin 3) {idx : Nat} (F : Fx X l0 D ad g cc own d N) (hl : Cond.fieldLink own idx "MillOfDistances$Land" "seed" "I" ∈ gw) (hd : Dq cc pc (.getfield idx) 3 q) (kk : G X D ad g t u lv q (.int (t.1 (oLd L) 6) :: st)) : G X D ad g t u lv pc (.ref (ad (oLd L)) :: st) := by
  obtain rfl | rfl | rfl := fin3 L
  · exact g_get (o := 1) (k := 6) (ci := 1) (C := RX1) (T := TX1) (Nf := 7) F hin_Land rfl rfl (by decide) rfl rfl hl hd kk
  · exact g_get (o := 2) (k := 6) (ci := 1) (C := RX1) (T := TX1) (Nf := 7) F hin_Land rfl rfl (by decide) rfl rfl hl hd kk
  · exact g_get (o := 3) (k := 6) (ci := 1) (C := RX1) (T := TX1) (Nf := 7) F hin_Land rfl rfl (by decide) rfl rfl hl hd kk
theorem gp_Land_seed (L : Fin 3) {idx : Nat} {v : Int32} (F : Fx X l0 D ad g cc own d N) (hl : Cond.fieldLink own idx "MillOfDistances$Land" "seed" "I" ∈ gw) (hd : Dq cc pc (.putfield idx) 3 q) (kk : G X D ad g (uI t (oLd L) 6 v) u lv q st) : G X D ad g t u lv pc (.int v :: .ref (ad (oLd L)) :: st) := by
  obtain rfl | rfl | rfl := fin3 L
  · exact g_put (o := 1) (k := 6) (ci := 1) (C := RX1) (T := TX1) (Nf := 7) (ty := .int) F hin_Land tyX1 tyX1_ok nmX1 rfl rfl (by decide) (Nat.le_of_ble_eq_true rfl) rfl rfl (by decide +kernel) rfl rfl rfl hl hd kk
  · exact g_put (o := 2) (k := 6) (ci := 1) (C := RX1) (T := TX1) (Nf := 7) (ty := .int) F hin_Land tyX1 tyX1_ok nmX1 rfl rfl (by decide) (Nat.le_of_ble_eq_true rfl) rfl rfl (by decide +kernel) rfl rfl rfl hl hd kk
  · exact g_put (o := 3) (k := 6) (ci := 1) (C := RX1) (T := TX1) (Nf := 7) (ty := .int) F hin_Land tyX1 tyX1_ok nmX1 rfl rfl (by decide) (Nat.le_of_ble_eq_true rfl) rfl rfl (by decide +kernel) rfl rfl rfl hl hd kk
theorem hin_Len : ∀ w ∈ u_ws RX2 TX2 2, w ∈ gw := fun w h => gm ((show ∀ w ∈ u_ws RX2 TX2 2, w ∈ lw_tbl by decide +kernel) w h) ((show ∀ w ∈ u_ws RX2 TX2 2, goodWord w = true by decide +kernel) w h)
theorem gg_Len_cells (J : Fin 2) {idx : Nat} (F : Fx X l0 D ad g cc own d N) (hl : Cond.fieldLink own idx "MillOfDistances$Lengths" "cells" "[I" ∈ gw) (hd : Dq cc pc (.getfield idx) 3 q) (kk : G X D ad g t u lv q (.ref (ad (oCe J)) :: st)) : G X D ad g t u lv pc (.ref (ad (oLn J)) :: st) := by
  obtain rfl | rfl := fin2 J
  · exact g_get (o := 13) (k := 0) (ci := 2) (C := RX2) (T := TX2) (Nf := 2) F hin_Len rfl rfl (by decide) rfl rfl hl hd kk
  · exact g_get (o := 14) (k := 0) (ci := 2) (C := RX2) (T := TX2) (Nf := 2) F hin_Len rfl rfl (by decide) rfl rfl hl hd kk
theorem gg_Len_count (J : Fin 2) {idx : Nat} (F : Fx X l0 D ad g cc own d N) (hl : Cond.fieldLink own idx "MillOfDistances$Lengths" "count" "I" ∈ gw) (hd : Dq cc pc (.getfield idx) 3 q) (kk : G X D ad g t u lv q (.int (t.1 (oLn J) 1) :: st)) : G X D ad g t u lv pc (.ref (ad (oLn J)) :: st) := by
  obtain rfl | rfl := fin2 J
  · exact g_get (o := 13) (k := 1) (ci := 2) (C := RX2) (T := TX2) (Nf := 2) F hin_Len rfl rfl (by decide) rfl rfl hl hd kk
  · exact g_get (o := 14) (k := 1) (ci := 2) (C := RX2) (T := TX2) (Nf := 2) F hin_Len rfl rfl (by decide) rfl rfl hl hd kk
theorem gp_Len_count (J : Fin 2) {idx : Nat} {v : Int32} (F : Fx X l0 D ad g cc own d N) (hl : Cond.fieldLink own idx "MillOfDistances$Lengths" "count" "I" ∈ gw) (hd : Dq cc pc (.putfield idx) 3 q) (kk : G X D ad g (uI t (oLn J) 1 v) u lv q st) : G X D ad g t u lv pc (.int v :: .ref (ad (oLn J)) :: st) := by
  obtain rfl | rfl := fin2 J
  · exact g_put (o := 13) (k := 1) (ci := 2) (C := RX2) (T := TX2) (Nf := 2) (ty := .int) F hin_Len tyX2 tyX2_ok nmX2 rfl rfl (by decide) (Nat.le_of_ble_eq_true rfl) rfl rfl (by decide +kernel) rfl rfl rfl hl hd kk
  · exact g_put (o := 14) (k := 1) (ci := 2) (C := RX2) (T := TX2) (Nf := 2) (ty := .int) F hin_Len tyX2 tyX2_ok nmX2 rfl rfl (by decide) (Nat.le_of_ble_eq_true rfl) rfl rfl (by decide +kernel) rfl rfl rfl hl hd kk
theorem hin_Reader : ∀ w ∈ u_ws RX3 TX3 4, w ∈ gw := fun w h => gm ((show ∀ w ∈ u_ws RX3 TX3 4, w ∈ lw_tbl by decide +kernel) w h) ((show ∀ w ∈ u_ws RX3 TX3 4, goodWord w = true by decide +kernel) w h)
theorem gg_Reader_fault {idx : Nat} (F : Fx X l0 D ad g cc own d N) (hl : Cond.fieldLink own idx "MillOfDistances$MapReader" "fault" "I" ∈ gw) (hd : Dq cc pc (.getfield idx) 3 q) (kk : G X D ad g t u lv q (.int (t.1 35 0) :: st)) : G X D ad g t u lv pc (.ref (ad 35) :: st) := by
  exact g_get (o := 35) (k := 0) (ci := 3) (C := RX3) (T := TX3) (Nf := 4) F hin_Reader rfl rfl (by decide) rfl rfl hl hd kk
theorem gp_Reader_fault {idx : Nat} {v : Int32} (F : Fx X l0 D ad g cc own d N) (hl : Cond.fieldLink own idx "MillOfDistances$MapReader" "fault" "I" ∈ gw) (hd : Dq cc pc (.putfield idx) 3 q) (kk : G X D ad g (uI t 35 0 v) u lv q st) : G X D ad g t u lv pc (.int v :: .ref (ad 35) :: st) := by
  exact g_put (o := 35) (k := 0) (ci := 3) (C := RX3) (T := TX3) (Nf := 4) (ty := .int) F hin_Reader tyX3 tyX3_ok nmX3 rfl rfl (by decide) (Nat.le_of_ble_eq_true rfl) rfl rfl (by decide +kernel) rfl rfl rfl hl hd kk
theorem gg_Reader_numbers {idx : Nat} (F : Fx X l0 D ad g cc own d N) (hl : Cond.fieldLink own idx "MillOfDistances$MapReader" "numbers" "[I" ∈ gw) (hd : Dq cc pc (.getfield idx) 3 q) (kk : G X D ad g t u lv q (.ref (ad 36) :: st)) : G X D ad g t u lv pc (.ref (ad 35) :: st) := by
  exact g_get (o := 35) (k := 1) (ci := 3) (C := RX3) (T := TX3) (Nf := 4) F hin_Reader rfl rfl (by decide) rfl rfl hl hd kk
theorem gg_Reader_next {idx : Nat} (F : Fx X l0 D ad g cc own d N) (hl : Cond.fieldLink own idx "MillOfDistances$MapReader" "next" "I" ∈ gw) (hd : Dq cc pc (.getfield idx) 3 q) (kk : G X D ad g t u lv q (.int (t.1 35 2) :: st)) : G X D ad g t u lv pc (.ref (ad 35) :: st) := by
  exact g_get (o := 35) (k := 2) (ci := 3) (C := RX3) (T := TX3) (Nf := 4) F hin_Reader rfl rfl (by decide) rfl rfl hl hd kk
theorem gp_Reader_next {idx : Nat} {v : Int32} (F : Fx X l0 D ad g cc own d N) (hl : Cond.fieldLink own idx "MillOfDistances$MapReader" "next" "I" ∈ gw) (hd : Dq cc pc (.putfield idx) 3 q) (kk : G X D ad g (uI t 35 2 v) u lv q st) : G X D ad g t u lv pc (.int v :: .ref (ad 35) :: st) := by
  exact g_put (o := 35) (k := 2) (ci := 3) (C := RX3) (T := TX3) (Nf := 4) (ty := .int) F hin_Reader tyX3 tyX3_ok nmX3 rfl rfl (by decide) (Nat.le_of_ble_eq_true rfl) rfl rfl (by decide +kernel) rfl rfl rfl hl hd kk
theorem gg_Reader_numberStart {idx : Nat} (F : Fx X l0 D ad g cc own d N) (hl : Cond.fieldLink own idx "MillOfDistances$MapReader" "numberStart" "I" ∈ gw) (hd : Dq cc pc (.getfield idx) 3 q) (kk : G X D ad g t u lv q (.int (t.1 35 3) :: st)) : G X D ad g t u lv pc (.ref (ad 35) :: st) := by
  exact g_get (o := 35) (k := 3) (ci := 3) (C := RX3) (T := TX3) (Nf := 4) F hin_Reader rfl rfl (by decide) rfl rfl hl hd kk
theorem gp_Reader_numberStart {idx : Nat} {v : Int32} (F : Fx X l0 D ad g cc own d N) (hl : Cond.fieldLink own idx "MillOfDistances$MapReader" "numberStart" "I" ∈ gw) (hd : Dq cc pc (.putfield idx) 3 q) (kk : G X D ad g (uI t 35 3 v) u lv q st) : G X D ad g t u lv pc (.int v :: .ref (ad 35) :: st) := by
  exact g_put (o := 35) (k := 3) (ci := 3) (C := RX3) (T := TX3) (Nf := 4) (ty := .int) F hin_Reader tyX3 tyX3_ok nmX3 rfl rfl (by decide) (Nat.le_of_ble_eq_true rfl) rfl rfl (by decide +kernel) rfl rfl rfl hl hd kk
theorem hin_Shelf : ∀ w ∈ u_ws RX4 TX4 4, w ∈ gw := fun w h => gm ((show ∀ w ∈ u_ws RX4 TX4 4, w ∈ lw_tbl by decide +kernel) w h) ((show ∀ w ∈ u_ws RX4 TX4 4, goodWord w = true by decide +kernel) w h)
theorem gg_Shelf_elements (K : Fin 8) {idx : Nat} (F : Fx X l0 D ad g cc own d N) (hl : Cond.fieldLink own idx "MillOfDistances$Shelf" "elements" "[J" ∈ gw) (hd : Dq cc pc (.getfield idx) 3 q) (kk : G X D ad g t u lv q (.ref (ad (oEl K)) :: st)) : G X D ad g t u lv pc (.ref (ad (oSh K)) :: st) := by
  obtain rfl | rfl | rfl | rfl | rfl | rfl | rfl | rfl := fin8 K
  · exact g_get (o := 18) (k := 0) (ci := 4) (C := RX4) (T := TX4) (Nf := 4) F hin_Shelf rfl rfl (by decide) rfl rfl hl hd kk
  · exact g_get (o := 19) (k := 0) (ci := 4) (C := RX4) (T := TX4) (Nf := 4) F hin_Shelf rfl rfl (by decide) rfl rfl hl hd kk
  · exact g_get (o := 20) (k := 0) (ci := 4) (C := RX4) (T := TX4) (Nf := 4) F hin_Shelf rfl rfl (by decide) rfl rfl hl hd kk
  · exact g_get (o := 21) (k := 0) (ci := 4) (C := RX4) (T := TX4) (Nf := 4) F hin_Shelf rfl rfl (by decide) rfl rfl hl hd kk
  · exact g_get (o := 22) (k := 0) (ci := 4) (C := RX4) (T := TX4) (Nf := 4) F hin_Shelf rfl rfl (by decide) rfl rfl hl hd kk
  · exact g_get (o := 23) (k := 0) (ci := 4) (C := RX4) (T := TX4) (Nf := 4) F hin_Shelf rfl rfl (by decide) rfl rfl hl hd kk
  · exact g_get (o := 24) (k := 0) (ci := 4) (C := RX4) (T := TX4) (Nf := 4) F hin_Shelf rfl rfl (by decide) rfl rfl hl hd kk
  · exact g_get (o := 25) (k := 0) (ci := 4) (C := RX4) (T := TX4) (Nf := 4) F hin_Shelf rfl rfl (by decide) rfl rfl hl hd kk
theorem gg_Shelf_size (K : Fin 8) {idx : Nat} (F : Fx X l0 D ad g cc own d N) (hl : Cond.fieldLink own idx "MillOfDistances$Shelf" "size" "I" ∈ gw) (hd : Dq cc pc (.getfield idx) 3 q) (kk : G X D ad g t u lv q (.int (t.1 (oSh K) 1) :: st)) : G X D ad g t u lv pc (.ref (ad (oSh K)) :: st) := by
  obtain rfl | rfl | rfl | rfl | rfl | rfl | rfl | rfl := fin8 K
  · exact g_get (o := 18) (k := 1) (ci := 4) (C := RX4) (T := TX4) (Nf := 4) F hin_Shelf rfl rfl (by decide) rfl rfl hl hd kk
  · exact g_get (o := 19) (k := 1) (ci := 4) (C := RX4) (T := TX4) (Nf := 4) F hin_Shelf rfl rfl (by decide) rfl rfl hl hd kk
  · exact g_get (o := 20) (k := 1) (ci := 4) (C := RX4) (T := TX4) (Nf := 4) F hin_Shelf rfl rfl (by decide) rfl rfl hl hd kk
  · exact g_get (o := 21) (k := 1) (ci := 4) (C := RX4) (T := TX4) (Nf := 4) F hin_Shelf rfl rfl (by decide) rfl rfl hl hd kk
  · exact g_get (o := 22) (k := 1) (ci := 4) (C := RX4) (T := TX4) (Nf := 4) F hin_Shelf rfl rfl (by decide) rfl rfl hl hd kk
  · exact g_get (o := 23) (k := 1) (ci := 4) (C := RX4) (T := TX4) (Nf := 4) F hin_Shelf rfl rfl (by decide) rfl rfl hl hd kk
  · exact g_get (o := 24) (k := 1) (ci := 4) (C := RX4) (T := TX4) (Nf := 4) F hin_Shelf rfl rfl (by decide) rfl rfl hl hd kk
  · exact g_get (o := 25) (k := 1) (ci := 4) (C := RX4) (T := TX4) (Nf := 4) F hin_Shelf rfl rfl (by decide) rfl rfl hl hd kk
theorem gp_Shelf_size (K : Fin 8) {idx : Nat} {v : Int32} (F : Fx X l0 D ad g cc own d N) (hl : Cond.fieldLink own idx "MillOfDistances$Shelf" "size" "I" ∈ gw) (hd : Dq cc pc (.putfield idx) 3 q) (kk : G X D ad g (uI t (oSh K) 1 v) u lv q st) : G X D ad g t u lv pc (.int v :: .ref (ad (oSh K)) :: st) := by
  obtain rfl | rfl | rfl | rfl | rfl | rfl | rfl | rfl := fin8 K
  · exact g_put (o := 18) (k := 1) (ci := 4) (C := RX4) (T := TX4) (Nf := 4) (ty := .int) F hin_Shelf tyX4 tyX4_ok nmX4 rfl rfl (by decide) (Nat.le_of_ble_eq_true rfl) rfl rfl (by decide +kernel) rfl rfl rfl hl hd kk
  · exact g_put (o := 19) (k := 1) (ci := 4) (C := RX4) (T := TX4) (Nf := 4) (ty := .int) F hin_Shelf tyX4 tyX4_ok nmX4 rfl rfl (by decide) (Nat.le_of_ble_eq_true rfl) rfl rfl (by decide +kernel) rfl rfl rfl hl hd kk
  · exact g_put (o := 20) (k := 1) (ci := 4) (C := RX4) (T := TX4) (Nf := 4) (ty := .int) F hin_Shelf tyX4 tyX4_ok nmX4 rfl rfl (by decide) (Nat.le_of_ble_eq_true rfl) rfl rfl (by decide +kernel) rfl rfl rfl hl hd kk
  · exact g_put (o := 21) (k := 1) (ci := 4) (C := RX4) (T := TX4) (Nf := 4) (ty := .int) F hin_Shelf tyX4 tyX4_ok nmX4 rfl rfl (by decide) (Nat.le_of_ble_eq_true rfl) rfl rfl (by decide +kernel) rfl rfl rfl hl hd kk
  · exact g_put (o := 22) (k := 1) (ci := 4) (C := RX4) (T := TX4) (Nf := 4) (ty := .int) F hin_Shelf tyX4 tyX4_ok nmX4 rfl rfl (by decide) (Nat.le_of_ble_eq_true rfl) rfl rfl (by decide +kernel) rfl rfl rfl hl hd kk
  · exact g_put (o := 23) (k := 1) (ci := 4) (C := RX4) (T := TX4) (Nf := 4) (ty := .int) F hin_Shelf tyX4 tyX4_ok nmX4 rfl rfl (by decide) (Nat.le_of_ble_eq_true rfl) rfl rfl (by decide +kernel) rfl rfl rfl hl hd kk
  · exact g_put (o := 24) (k := 1) (ci := 4) (C := RX4) (T := TX4) (Nf := 4) (ty := .int) F hin_Shelf tyX4 tyX4_ok nmX4 rfl rfl (by decide) (Nat.le_of_ble_eq_true rfl) rfl rfl (by decide +kernel) rfl rfl rfl hl hd kk
  · exact g_put (o := 25) (k := 1) (ci := 4) (C := RX4) (T := TX4) (Nf := 4) (ty := .int) F hin_Shelf tyX4 tyX4_ok nmX4 rfl rfl (by decide) (Nat.le_of_ble_eq_true rfl) rfl rfl (by decide +kernel) rfl rfl rfl hl hd kk
theorem gg_Shelf_sort (K : Fin 8) {idx : Nat} (F : Fx X l0 D ad g cc own d N) (hl : Cond.fieldLink own idx "MillOfDistances$Shelf" "sort" "I" ∈ gw) (hd : Dq cc pc (.getfield idx) 3 q) (kk : G X D ad g t u lv q (.int (t.1 (oSh K) 2) :: st)) : G X D ad g t u lv pc (.ref (ad (oSh K)) :: st) := by
  obtain rfl | rfl | rfl | rfl | rfl | rfl | rfl | rfl := fin8 K
  · exact g_get (o := 18) (k := 2) (ci := 4) (C := RX4) (T := TX4) (Nf := 4) F hin_Shelf rfl rfl (by decide) rfl rfl hl hd kk
  · exact g_get (o := 19) (k := 2) (ci := 4) (C := RX4) (T := TX4) (Nf := 4) F hin_Shelf rfl rfl (by decide) rfl rfl hl hd kk
  · exact g_get (o := 20) (k := 2) (ci := 4) (C := RX4) (T := TX4) (Nf := 4) F hin_Shelf rfl rfl (by decide) rfl rfl hl hd kk
  · exact g_get (o := 21) (k := 2) (ci := 4) (C := RX4) (T := TX4) (Nf := 4) F hin_Shelf rfl rfl (by decide) rfl rfl hl hd kk
  · exact g_get (o := 22) (k := 2) (ci := 4) (C := RX4) (T := TX4) (Nf := 4) F hin_Shelf rfl rfl (by decide) rfl rfl hl hd kk
  · exact g_get (o := 23) (k := 2) (ci := 4) (C := RX4) (T := TX4) (Nf := 4) F hin_Shelf rfl rfl (by decide) rfl rfl hl hd kk
  · exact g_get (o := 24) (k := 2) (ci := 4) (C := RX4) (T := TX4) (Nf := 4) F hin_Shelf rfl rfl (by decide) rfl rfl hl hd kk
  · exact g_get (o := 25) (k := 2) (ci := 4) (C := RX4) (T := TX4) (Nf := 4) F hin_Shelf rfl rfl (by decide) rfl rfl hl hd kk
theorem gp_Shelf_sort (K : Fin 8) {idx : Nat} {v : Int32} (F : Fx X l0 D ad g cc own d N) (hl : Cond.fieldLink own idx "MillOfDistances$Shelf" "sort" "I" ∈ gw) (hd : Dq cc pc (.putfield idx) 3 q) (kk : G X D ad g (uI t (oSh K) 2 v) u lv q st) : G X D ad g t u lv pc (.int v :: .ref (ad (oSh K)) :: st) := by
  obtain rfl | rfl | rfl | rfl | rfl | rfl | rfl | rfl := fin8 K
  · exact g_put (o := 18) (k := 2) (ci := 4) (C := RX4) (T := TX4) (Nf := 4) (ty := .int) F hin_Shelf tyX4 tyX4_ok nmX4 rfl rfl (by decide) (Nat.le_of_ble_eq_true rfl) rfl rfl (by decide +kernel) rfl rfl rfl hl hd kk
  · exact g_put (o := 19) (k := 2) (ci := 4) (C := RX4) (T := TX4) (Nf := 4) (ty := .int) F hin_Shelf tyX4 tyX4_ok nmX4 rfl rfl (by decide) (Nat.le_of_ble_eq_true rfl) rfl rfl (by decide +kernel) rfl rfl rfl hl hd kk
  · exact g_put (o := 20) (k := 2) (ci := 4) (C := RX4) (T := TX4) (Nf := 4) (ty := .int) F hin_Shelf tyX4 tyX4_ok nmX4 rfl rfl (by decide) (Nat.le_of_ble_eq_true rfl) rfl rfl (by decide +kernel) rfl rfl rfl hl hd kk
  · exact g_put (o := 21) (k := 2) (ci := 4) (C := RX4) (T := TX4) (Nf := 4) (ty := .int) F hin_Shelf tyX4 tyX4_ok nmX4 rfl rfl (by decide) (Nat.le_of_ble_eq_true rfl) rfl rfl (by decide +kernel) rfl rfl rfl hl hd kk
  · exact g_put (o := 22) (k := 2) (ci := 4) (C := RX4) (T := TX4) (Nf := 4) (ty := .int) F hin_Shelf tyX4 tyX4_ok nmX4 rfl rfl (by decide) (Nat.le_of_ble_eq_true rfl) rfl rfl (by decide +kernel) rfl rfl rfl hl hd kk
  · exact g_put (o := 23) (k := 2) (ci := 4) (C := RX4) (T := TX4) (Nf := 4) (ty := .int) F hin_Shelf tyX4 tyX4_ok nmX4 rfl rfl (by decide) (Nat.le_of_ble_eq_true rfl) rfl rfl (by decide +kernel) rfl rfl rfl hl hd kk
  · exact g_put (o := 24) (k := 2) (ci := 4) (C := RX4) (T := TX4) (Nf := 4) (ty := .int) F hin_Shelf tyX4 tyX4_ok nmX4 rfl rfl (by decide) (Nat.le_of_ble_eq_true rfl) rfl rfl (by decide +kernel) rfl rfl rfl hl hd kk
  · exact g_put (o := 25) (k := 2) (ci := 4) (C := RX4) (T := TX4) (Nf := 4) (ty := .int) F hin_Shelf tyX4 tyX4_ok nmX4 rfl rfl (by decide) (Nat.le_of_ble_eq_true rfl) rfl rfl (by decide +kernel) rfl rfl rfl hl hd kk
theorem gg_Shelf_place (K : Fin 8) {idx : Nat} (F : Fx X l0 D ad g cc own d N) (hl : Cond.fieldLink own idx "MillOfDistances$Shelf" "place" "I" ∈ gw) (hd : Dq cc pc (.getfield idx) 3 q) (kk : G X D ad g t u lv q (.int (t.1 (oSh K) 3) :: st)) : G X D ad g t u lv pc (.ref (ad (oSh K)) :: st) := by
  obtain rfl | rfl | rfl | rfl | rfl | rfl | rfl | rfl := fin8 K
  · exact g_get (o := 18) (k := 3) (ci := 4) (C := RX4) (T := TX4) (Nf := 4) F hin_Shelf rfl rfl (by decide) rfl rfl hl hd kk
  · exact g_get (o := 19) (k := 3) (ci := 4) (C := RX4) (T := TX4) (Nf := 4) F hin_Shelf rfl rfl (by decide) rfl rfl hl hd kk
  · exact g_get (o := 20) (k := 3) (ci := 4) (C := RX4) (T := TX4) (Nf := 4) F hin_Shelf rfl rfl (by decide) rfl rfl hl hd kk
  · exact g_get (o := 21) (k := 3) (ci := 4) (C := RX4) (T := TX4) (Nf := 4) F hin_Shelf rfl rfl (by decide) rfl rfl hl hd kk
  · exact g_get (o := 22) (k := 3) (ci := 4) (C := RX4) (T := TX4) (Nf := 4) F hin_Shelf rfl rfl (by decide) rfl rfl hl hd kk
  · exact g_get (o := 23) (k := 3) (ci := 4) (C := RX4) (T := TX4) (Nf := 4) F hin_Shelf rfl rfl (by decide) rfl rfl hl hd kk
  · exact g_get (o := 24) (k := 3) (ci := 4) (C := RX4) (T := TX4) (Nf := 4) F hin_Shelf rfl rfl (by decide) rfl rfl hl hd kk
  · exact g_get (o := 25) (k := 3) (ci := 4) (C := RX4) (T := TX4) (Nf := 4) F hin_Shelf rfl rfl (by decide) rfl rfl hl hd kk
theorem gp_Shelf_place (K : Fin 8) {idx : Nat} {v : Int32} (F : Fx X l0 D ad g cc own d N) (hl : Cond.fieldLink own idx "MillOfDistances$Shelf" "place" "I" ∈ gw) (hd : Dq cc pc (.putfield idx) 3 q) (kk : G X D ad g (uI t (oSh K) 3 v) u lv q st) : G X D ad g t u lv pc (.int v :: .ref (ad (oSh K)) :: st) := by
  obtain rfl | rfl | rfl | rfl | rfl | rfl | rfl | rfl := fin8 K
  · exact g_put (o := 18) (k := 3) (ci := 4) (C := RX4) (T := TX4) (Nf := 4) (ty := .int) F hin_Shelf tyX4 tyX4_ok nmX4 rfl rfl (by decide) (Nat.le_of_ble_eq_true rfl) rfl rfl (by decide +kernel) rfl rfl rfl hl hd kk
  · exact g_put (o := 19) (k := 3) (ci := 4) (C := RX4) (T := TX4) (Nf := 4) (ty := .int) F hin_Shelf tyX4 tyX4_ok nmX4 rfl rfl (by decide) (Nat.le_of_ble_eq_true rfl) rfl rfl (by decide +kernel) rfl rfl rfl hl hd kk
  · exact g_put (o := 20) (k := 3) (ci := 4) (C := RX4) (T := TX4) (Nf := 4) (ty := .int) F hin_Shelf tyX4 tyX4_ok nmX4 rfl rfl (by decide) (Nat.le_of_ble_eq_true rfl) rfl rfl (by decide +kernel) rfl rfl rfl hl hd kk
  · exact g_put (o := 21) (k := 3) (ci := 4) (C := RX4) (T := TX4) (Nf := 4) (ty := .int) F hin_Shelf tyX4 tyX4_ok nmX4 rfl rfl (by decide) (Nat.le_of_ble_eq_true rfl) rfl rfl (by decide +kernel) rfl rfl rfl hl hd kk
  · exact g_put (o := 22) (k := 3) (ci := 4) (C := RX4) (T := TX4) (Nf := 4) (ty := .int) F hin_Shelf tyX4 tyX4_ok nmX4 rfl rfl (by decide) (Nat.le_of_ble_eq_true rfl) rfl rfl (by decide +kernel) rfl rfl rfl hl hd kk
  · exact g_put (o := 23) (k := 3) (ci := 4) (C := RX4) (T := TX4) (Nf := 4) (ty := .int) F hin_Shelf tyX4 tyX4_ok nmX4 rfl rfl (by decide) (Nat.le_of_ble_eq_true rfl) rfl rfl (by decide +kernel) rfl rfl rfl hl hd kk
  · exact g_put (o := 24) (k := 3) (ci := 4) (C := RX4) (T := TX4) (Nf := 4) (ty := .int) F hin_Shelf tyX4 tyX4_ok nmX4 rfl rfl (by decide) (Nat.le_of_ble_eq_true rfl) rfl rfl (by decide +kernel) rfl rfl rfl hl hd kk
  · exact g_put (o := 25) (k := 3) (ci := 4) (C := RX4) (T := TX4) (Nf := 4) (ty := .int) F hin_Shelf tyX4 tyX4_ok nmX4 rfl rfl (by decide) (Nat.le_of_ble_eq_true rfl) rfl rfl (by decide +kernel) rfl rfl rfl hl hd kk
theorem hin_Main : ∀ w ∈ u_ws RX5 TX5 10, w ∈ gw := fun w h => gm ((show ∀ w ∈ u_ws RX5 TX5 10, w ∈ lw_tbl by decide +kernel) w h) ((show ∀ w ∈ u_ws RX5 TX5 10, goodWord w = true by decide +kernel) w h)
theorem gg_Main_land {idx : Nat} (F : Fx X l0 D ad g cc own d N) (hl : Cond.fieldLink own idx "MillOfDistances" "land" "LMillOfDistances$Land;" ∈ gw) (hd : Dq cc pc (.getfield idx) 3 q) (kk : G X D ad g t u lv q (.ref (ad (oLd 0)) :: st)) : G X D ad g t u lv pc (.ref (ad 0) :: st) := by
  exact g_get (o := 0) (k := 0) (ci := 5) (C := RX5) (T := TX5) (Nf := 10) F hin_Main rfl rfl (by decide) rfl rfl hl hd kk
theorem gg_Main_trial {idx : Nat} (F : Fx X l0 D ad g cc own d N) (hl : Cond.fieldLink own idx "MillOfDistances" "trial" "LMillOfDistances$Land;" ∈ gw) (hd : Dq cc pc (.getfield idx) 3 q) (kk : G X D ad g t u lv q (.ref (ad (oLd 1)) :: st)) : G X D ad g t u lv pc (.ref (ad 0) :: st) := by
  exact g_get (o := 0) (k := 1) (ci := 5) (C := RX5) (T := TX5) (Nf := 10) F hin_Main rfl rfl (by decide) rfl rfl hl hd kk
theorem gg_Main_imaged {idx : Nat} (F : Fx X l0 D ad g cc own d N) (hl : Cond.fieldLink own idx "MillOfDistances" "imaged" "LMillOfDistances$Land;" ∈ gw) (hd : Dq cc pc (.getfield idx) 3 q) (kk : G X D ad g t u lv q (.ref (ad (oLd 2)) :: st)) : G X D ad g t u lv pc (.ref (ad 0) :: st) := by
  exact g_get (o := 0) (k := 2) (ci := 5) (C := RX5) (T := TX5) (Nf := 10) F hin_Main rfl rfl (by decide) rfl rfl hl hd kk
theorem gg_Main_now {idx : Nat} (F : Fx X l0 D ad g cc own d N) (hl : Cond.fieldLink own idx "MillOfDistances" "now" "LMillOfDistances$Lengths;" ∈ gw) (hd : Dq cc pc (.getfield idx) 3 q) (kk : G X D ad g t u lv q (.ref (ad (oLn 0)) :: st)) : G X D ad g t u lv pc (.ref (ad 0) :: st) := by
  exact g_get (o := 0) (k := 3) (ci := 5) (C := RX5) (T := TX5) (Nf := 10) F hin_Main rfl rfl (by decide) rfl rfl hl hd kk
theorem gg_Main_then {idx : Nat} (F : Fx X l0 D ad g cc own d N) (hl : Cond.fieldLink own idx "MillOfDistances" "then" "LMillOfDistances$Lengths;" ∈ gw) (hd : Dq cc pc (.getfield idx) 3 q) (kk : G X D ad g t u lv q (.ref (ad (oLn 1)) :: st)) : G X D ad g t u lv pc (.ref (ad 0) :: st) := by
  exact g_get (o := 0) (k := 4) (ci := 5) (C := RX5) (T := TX5) (Nf := 10) F hin_Main rfl rfl (by decide) rfl rfl hl hd kk
theorem gg_Main_shelves {idx : Nat} (F : Fx X l0 D ad g cc own d N) (hl : Cond.fieldLink own idx "MillOfDistances" "shelves" "[LMillOfDistances$Shelf;" ∈ gw) (hd : Dq cc pc (.getfield idx) 3 q) (kk : G X D ad g t u lv q (.ref (ad 17) :: st)) : G X D ad g t u lv pc (.ref (ad 0) :: st) := by
  exact g_get (o := 0) (k := 5) (ci := 5) (C := RX5) (T := TX5) (Nf := 10) F hin_Main rfl rfl (by decide) rfl rfl hl hd kk
theorem gg_Main_refusals {idx : Nat} (F : Fx X l0 D ad g cc own d N) (hl : Cond.fieldLink own idx "MillOfDistances" "refusals" "[I" ∈ gw) (hd : Dq cc pc (.getfield idx) 3 q) (kk : G X D ad g t u lv q (.ref (ad 34) :: st)) : G X D ad g t u lv pc (.ref (ad 0) :: st) := by
  exact g_get (o := 0) (k := 6) (ci := 5) (C := RX5) (T := TX5) (Nf := 10) F hin_Main rfl rfl (by decide) rfl rfl hl hd kk
theorem gg_Main_reader {idx : Nat} (F : Fx X l0 D ad g cc own d N) (hl : Cond.fieldLink own idx "MillOfDistances" "reader" "LMillOfDistances$MapReader;" ∈ gw) (hd : Dq cc pc (.getfield idx) 3 q) (kk : G X D ad g t u lv q (.ref (ad 35) :: st)) : G X D ad g t u lv pc (.ref (ad 0) :: st) := by
  exact g_get (o := 0) (k := 7) (ci := 5) (C := RX5) (T := TX5) (Nf := 10) F hin_Main rfl rfl (by decide) rfl rfl hl hd kk
theorem gg_Main_doer {idx : Nat} (F : Fx X l0 D ad g cc own d N) (hl : Cond.fieldLink own idx "MillOfDistances" "doer" "LMillOfDistances$Doer;" ∈ gw) (hd : Dq cc pc (.getfield idx) 3 q) (kk : G X D ad g t u lv q (.ref (ad 37) :: st)) : G X D ad g t u lv pc (.ref (ad 0) :: st) := by
  exact g_get (o := 0) (k := 8) (ci := 5) (C := RX5) (T := TX5) (Nf := 10) F hin_Main rfl rfl (by decide) rfl rfl hl hd kk
theorem gg_Main_hasImage {idx : Nat} (F : Fx X l0 D ad g cc own d N) (hl : Cond.fieldLink own idx "MillOfDistances" "hasImage" "Z" ∈ gw) (hd : Dq cc pc (.getfield idx) 3 q) (kk : G X D ad g t u lv q (.int (t.1 0 9) :: st)) : G X D ad g t u lv pc (.ref (ad 0) :: st) := by
  exact g_get (o := 0) (k := 9) (ci := 5) (C := RX5) (T := TX5) (Nf := 10) F hin_Main rfl rfl (by decide) rfl rfl hl hd kk
theorem gp_Main_hasImage {idx : Nat} {v : Int32} (F : Fx X l0 D ad g cc own d N) (hz : narrow .boolean (.int v) = .int v) (hfz : fits .boolean (.int v) = true) (hl : Cond.fieldLink own idx "MillOfDistances" "hasImage" "Z" ∈ gw) (hd : Dq cc pc (.putfield idx) 3 q) (kk : G X D ad g (uI t 0 9 v) u lv q st) : G X D ad g t u lv pc (.int v :: .ref (ad 0) :: st) := by
  exact g_put (o := 0) (k := 9) (ci := 5) (C := RX5) (T := TX5) (Nf := 10) (ty := .boolean) F hin_Main tyX5 tyX5_ok nmX5 rfl rfl (by decide) (Nat.le_of_ble_eq_true rfl) rfl rfl (by decide +kernel) hz hfz rfl hl hd kk
theorem hin_Model : ∀ w ∈ u_ws RX6 TX6 22, w ∈ gw := fun w h => gm ((show ∀ w ∈ u_ws RX6 TX6 22, w ∈ lw_tbl by decide +kernel) w h) ((show ∀ w ∈ u_ws RX6 TX6 22, goodWord w = true by decide +kernel) w h)
theorem gg_Model_holding {idx : Nat} (F : Fx X l0 D ad g cc own d N) (hl : Cond.fieldLink own idx "MillOfDistancesModel" "holding" "[I" ∈ gw) (hd : Dq cc pc (.getfield idx) 3 q) (kk : G X D ad g t u lv q (.ref (ad 40) :: st)) : G X D ad g t u lv pc (.ref (ad 39) :: st) := by
  exact g_get (o := 39) (k := 0) (ci := 6) (C := RX6) (T := TX6) (Nf := 22) F hin_Model rfl rfl (by decide) rfl rfl hl hd kk
theorem gg_Model_rowLength {idx : Nat} (F : Fx X l0 D ad g cc own d N) (hl : Cond.fieldLink own idx "MillOfDistancesModel" "rowLength" "[I" ∈ gw) (hd : Dq cc pc (.getfield idx) 3 q) (kk : G X D ad g t u lv q (.ref (ad 41) :: st)) : G X D ad g t u lv pc (.ref (ad 39) :: st) := by
  exact g_get (o := 39) (k := 1) (ci := 6) (C := RX6) (T := TX6) (Nf := 22) F hin_Model rfl rfl (by decide) rfl rfl hl hd kk
theorem gg_Model_rowOf {idx : Nat} (F : Fx X l0 D ad g cc own d N) (hl : Cond.fieldLink own idx "MillOfDistancesModel" "rowOf" "[J" ∈ gw) (hd : Dq cc pc (.getfield idx) 3 q) (kk : G X D ad g t u lv q (.ref (ad 42) :: st)) : G X D ad g t u lv pc (.ref (ad 39) :: st) := by
  exact g_get (o := 39) (k := 2) (ci := 6) (C := RX6) (T := TX6) (Nf := 22) F hin_Model rfl rfl (by decide) rfl rfl hl hd kk
theorem gg_Model_places {idx : Nat} (F : Fx X l0 D ad g cc own d N) (hl : Cond.fieldLink own idx "MillOfDistancesModel" "places" "I" ∈ gw) (hd : Dq cc pc (.getfield idx) 3 q) (kk : G X D ad g t u lv q (.int (u.1 39 3) :: st)) : G X D ad g t u lv pc (.ref (ad 39) :: st) := by
  exact g_get (o := 39) (k := 3) (ci := 6) (C := RX6) (T := TX6) (Nf := 22) F hin_Model rfl rfl (by decide) rfl rfl hl hd kk
theorem gp_Model_places {idx : Nat} {v : Int32} (F : Fx X l0 D ad g cc own d N) (hl : Cond.fieldLink own idx "MillOfDistancesModel" "places" "I" ∈ gw) (hd : Dq cc pc (.putfield idx) 3 q) (kk : G X D ad g t (uI u 39 3 v) lv q st) : G X D ad g t u lv pc (.int v :: .ref (ad 39) :: st) := by
  exact g_put (o := 39) (k := 3) (ci := 6) (C := RX6) (T := TX6) (Nf := 22) (ty := .int) F hin_Model tyX6 tyX6_ok nmX6 rfl rfl (by decide) (Nat.le_of_ble_eq_true rfl) rfl rfl (by decide +kernel) rfl rfl rfl hl hd kk
theorem gg_Model_kind {idx : Nat} (F : Fx X l0 D ad g cc own d N) (hl : Cond.fieldLink own idx "MillOfDistancesModel" "kind" "[I" ∈ gw) (hd : Dq cc pc (.getfield idx) 3 q) (kk : G X D ad g t u lv q (.ref (ad 43) :: st)) : G X D ad g t u lv pc (.ref (ad 39) :: st) := by
  exact g_get (o := 39) (k := 4) (ci := 6) (C := RX6) (T := TX6) (Nf := 22) F hin_Model rfl rfl (by decide) rfl rfl hl hd kk
theorem gg_Model_own {idx : Nat} (F : Fx X l0 D ad g cc own d N) (hl : Cond.fieldLink own idx "MillOfDistancesModel" "own" "[I" ∈ gw) (hd : Dq cc pc (.getfield idx) 3 q) (kk : G X D ad g t u lv q (.ref (ad 44) :: st)) : G X D ad g t u lv pc (.ref (ad 39) :: st) := by
  exact g_get (o := 39) (k := 5) (ci := 6) (C := RX6) (T := TX6) (Nf := 22) F hin_Model rfl rfl (by decide) rfl rfl hl hd kk
theorem gg_Model_miles {idx : Nat} (F : Fx X l0 D ad g cc own d N) (hl : Cond.fieldLink own idx "MillOfDistancesModel" "miles" "[I" ∈ gw) (hd : Dq cc pc (.getfield idx) 3 q) (kk : G X D ad g t u lv q (.ref (ad 45) :: st)) : G X D ad g t u lv pc (.ref (ad 39) :: st) := by
  exact g_get (o := 39) (k := 6) (ci := 6) (C := RX6) (T := TX6) (Nf := 22) F hin_Model rfl rfl (by decide) rfl rfl hl hd kk
theorem gg_Model_flour {idx : Nat} (F : Fx X l0 D ad g cc own d N) (hl : Cond.fieldLink own idx "MillOfDistancesModel" "flour" "I" ∈ gw) (hd : Dq cc pc (.getfield idx) 3 q) (kk : G X D ad g t u lv q (.int (u.1 39 7) :: st)) : G X D ad g t u lv pc (.ref (ad 39) :: st) := by
  exact g_get (o := 39) (k := 7) (ci := 6) (C := RX6) (T := TX6) (Nf := 22) F hin_Model rfl rfl (by decide) rfl rfl hl hd kk
theorem gp_Model_flour {idx : Nat} {v : Int32} (F : Fx X l0 D ad g cc own d N) (hl : Cond.fieldLink own idx "MillOfDistancesModel" "flour" "I" ∈ gw) (hd : Dq cc pc (.putfield idx) 3 q) (kk : G X D ad g t (uI u 39 7 v) lv q st) : G X D ad g t u lv pc (.int v :: .ref (ad 39) :: st) := by
  exact g_put (o := 39) (k := 7) (ci := 6) (C := RX6) (T := TX6) (Nf := 22) (ty := .int) F hin_Model tyX6 tyX6_ok nmX6 rfl rfl (by decide) (Nat.le_of_ble_eq_true rfl) rfl rfl (by decide +kernel) rfl rfl rfl hl hd kk
theorem gg_Model_wind {idx : Nat} (F : Fx X l0 D ad g cc own d N) (hl : Cond.fieldLink own idx "MillOfDistancesModel" "wind" "I" ∈ gw) (hd : Dq cc pc (.getfield idx) 3 q) (kk : G X D ad g t u lv q (.int (u.1 39 8) :: st)) : G X D ad g t u lv pc (.ref (ad 39) :: st) := by
  exact g_get (o := 39) (k := 8) (ci := 6) (C := RX6) (T := TX6) (Nf := 22) F hin_Model rfl rfl (by decide) rfl rfl hl hd kk
theorem gp_Model_wind {idx : Nat} {v : Int32} (F : Fx X l0 D ad g cc own d N) (hl : Cond.fieldLink own idx "MillOfDistancesModel" "wind" "I" ∈ gw) (hd : Dq cc pc (.putfield idx) 3 q) (kk : G X D ad g t (uI u 39 8 v) lv q st) : G X D ad g t u lv pc (.int v :: .ref (ad 39) :: st) := by
  exact g_put (o := 39) (k := 8) (ci := 6) (C := RX6) (T := TX6) (Nf := 22) (ty := .int) F hin_Model tyX6 tyX6_ok nmX6 rfl rfl (by decide) (Nat.le_of_ble_eq_true rfl) rfl rfl (by decide +kernel) rfl rfl rfl hl hd kk
theorem gg_Model_seed {idx : Nat} (F : Fx X l0 D ad g cc own d N) (hl : Cond.fieldLink own idx "MillOfDistancesModel" "seed" "I" ∈ gw) (hd : Dq cc pc (.getfield idx) 3 q) (kk : G X D ad g t u lv q (.int (u.1 39 9) :: st)) : G X D ad g t u lv pc (.ref (ad 39) :: st) := by
  exact g_get (o := 39) (k := 9) (ci := 6) (C := RX6) (T := TX6) (Nf := 22) F hin_Model rfl rfl (by decide) rfl rfl hl hd kk
theorem gp_Model_seed {idx : Nat} {v : Int32} (F : Fx X l0 D ad g cc own d N) (hl : Cond.fieldLink own idx "MillOfDistancesModel" "seed" "I" ∈ gw) (hd : Dq cc pc (.putfield idx) 3 q) (kk : G X D ad g t (uI u 39 9 v) lv q st) : G X D ad g t u lv pc (.int v :: .ref (ad 39) :: st) := by
  exact g_put (o := 39) (k := 9) (ci := 6) (C := RX6) (T := TX6) (Nf := 22) (ty := .int) F hin_Model tyX6 tyX6_ok nmX6 rfl rfl (by decide) (Nat.le_of_ble_eq_true rfl) rfl rfl (by decide +kernel) rfl rfl rfl hl hd kk
theorem gg_Model_fault {idx : Nat} (F : Fx X l0 D ad g cc own d N) (hl : Cond.fieldLink own idx "MillOfDistancesModel" "fault" "I" ∈ gw) (hd : Dq cc pc (.getfield idx) 3 q) (kk : G X D ad g t u lv q (.int (u.1 39 10) :: st)) : G X D ad g t u lv pc (.ref (ad 39) :: st) := by
  exact g_get (o := 39) (k := 10) (ci := 6) (C := RX6) (T := TX6) (Nf := 22) F hin_Model rfl rfl (by decide) rfl rfl hl hd kk
theorem gp_Model_fault {idx : Nat} {v : Int32} (F : Fx X l0 D ad g cc own d N) (hl : Cond.fieldLink own idx "MillOfDistancesModel" "fault" "I" ∈ gw) (hd : Dq cc pc (.putfield idx) 3 q) (kk : G X D ad g t (uI u 39 10 v) lv q st) : G X D ad g t u lv pc (.int v :: .ref (ad 39) :: st) := by
  exact g_put (o := 39) (k := 10) (ci := 6) (C := RX6) (T := TX6) (Nf := 22) (ty := .int) F hin_Model tyX6 tyX6_ok nmX6 rfl rfl (by decide) (Nat.le_of_ble_eq_true rfl) rfl rfl (by decide +kernel) rfl rfl rfl hl hd kk
theorem gg_Model_refusals {idx : Nat} (F : Fx X l0 D ad g cc own d N) (hl : Cond.fieldLink own idx "MillOfDistancesModel" "refusals" "[I" ∈ gw) (hd : Dq cc pc (.getfield idx) 3 q) (kk : G X D ad g t u lv q (.ref (ad 46) :: st)) : G X D ad g t u lv pc (.ref (ad 39) :: st) := by
  exact g_get (o := 39) (k := 11) (ci := 6) (C := RX6) (T := TX6) (Nf := 22) F hin_Model rfl rfl (by decide) rfl rfl hl hd kk
theorem gg_Model_traced {idx : Nat} (F : Fx X l0 D ad g cc own d N) (hl : Cond.fieldLink own idx "MillOfDistancesModel" "traced" "I" ∈ gw) (hd : Dq cc pc (.getfield idx) 3 q) (kk : G X D ad g t u lv q (.int (u.1 39 12) :: st)) : G X D ad g t u lv pc (.ref (ad 39) :: st) := by
  exact g_get (o := 39) (k := 12) (ci := 6) (C := RX6) (T := TX6) (Nf := 22) F hin_Model rfl rfl (by decide) rfl rfl hl hd kk
theorem gp_Model_traced {idx : Nat} {v : Int32} (F : Fx X l0 D ad g cc own d N) (hl : Cond.fieldLink own idx "MillOfDistancesModel" "traced" "I" ∈ gw) (hd : Dq cc pc (.putfield idx) 3 q) (kk : G X D ad g t (uI u 39 12 v) lv q st) : G X D ad g t u lv pc (.int v :: .ref (ad 39) :: st) := by
  exact g_put (o := 39) (k := 12) (ci := 6) (C := RX6) (T := TX6) (Nf := 22) (ty := .int) F hin_Model tyX6 tyX6_ok nmX6 rfl rfl (by decide) (Nat.le_of_ble_eq_true rfl) rfl rfl (by decide +kernel) rfl rfl rfl hl hd kk
theorem gg_Model_traces {idx : Nat} (F : Fx X l0 D ad g cc own d N) (hl : Cond.fieldLink own idx "MillOfDistancesModel" "traces" "[I" ∈ gw) (hd : Dq cc pc (.getfield idx) 3 q) (kk : G X D ad g t u lv q (.ref (ad 47) :: st)) : G X D ad g t u lv pc (.ref (ad 39) :: st) := by
  exact g_get (o := 39) (k := 13) (ci := 6) (C := RX6) (T := TX6) (Nf := 22) F hin_Model rfl rfl (by decide) rfl rfl hl hd kk
theorem gg_Model_imaged {idx : Nat} (F : Fx X l0 D ad g cc own d N) (hl : Cond.fieldLink own idx "MillOfDistancesModel" "imaged" "Z" ∈ gw) (hd : Dq cc pc (.getfield idx) 3 q) (kk : G X D ad g t u lv q (.int (u.1 39 14) :: st)) : G X D ad g t u lv pc (.ref (ad 39) :: st) := by
  exact g_get (o := 39) (k := 14) (ci := 6) (C := RX6) (T := TX6) (Nf := 22) F hin_Model rfl rfl (by decide) rfl rfl hl hd kk
theorem gp_Model_imaged {idx : Nat} {v : Int32} (F : Fx X l0 D ad g cc own d N) (hz : narrow .boolean (.int v) = .int v) (hfz : fits .boolean (.int v) = true) (hl : Cond.fieldLink own idx "MillOfDistancesModel" "imaged" "Z" ∈ gw) (hd : Dq cc pc (.putfield idx) 3 q) (kk : G X D ad g t (uI u 39 14 v) lv q st) : G X D ad g t u lv pc (.int v :: .ref (ad 39) :: st) := by
  exact g_put (o := 39) (k := 14) (ci := 6) (C := RX6) (T := TX6) (Nf := 22) (ty := .boolean) F hin_Model tyX6 tyX6_ok nmX6 rfl rfl (by decide) (Nat.le_of_ble_eq_true rfl) rfl rfl (by decide +kernel) hz hfz rfl hl hd kk
theorem gg_Model_old {idx : Nat} (F : Fx X l0 D ad g cc own d N) (hl : Cond.fieldLink own idx "MillOfDistancesModel" "old" "[I" ∈ gw) (hd : Dq cc pc (.getfield idx) 3 q) (kk : G X D ad g t u lv q (.ref (ad 48) :: st)) : G X D ad g t u lv pc (.ref (ad 39) :: st) := by
  exact g_get (o := 39) (k := 15) (ci := 6) (C := RX6) (T := TX6) (Nf := 22) F hin_Model rfl rfl (by decide) rfl rfl hl hd kk
theorem gg_Model_ahead {idx : Nat} (F : Fx X l0 D ad g cc own d N) (hl : Cond.fieldLink own idx "MillOfDistancesModel" "ahead" "[I" ∈ gw) (hd : Dq cc pc (.getfield idx) 3 q) (kk : G X D ad g t u lv q (.ref (ad 49) :: st)) : G X D ad g t u lv pc (.ref (ad 39) :: st) := by
  exact g_get (o := 39) (k := 16) (ci := 6) (C := RX6) (T := TX6) (Nf := 22) F hin_Model rfl rfl (by decide) rfl rfl hl hd kk
theorem gg_Model_reading {idx : Nat} (F : Fx X l0 D ad g cc own d N) (hl : Cond.fieldLink own idx "MillOfDistancesModel" "reading" "I" ∈ gw) (hd : Dq cc pc (.getfield idx) 3 q) (kk : G X D ad g t u lv q (.int (u.1 39 17) :: st)) : G X D ad g t u lv pc (.ref (ad 39) :: st) := by
  exact g_get (o := 39) (k := 17) (ci := 6) (C := RX6) (T := TX6) (Nf := 22) F hin_Model rfl rfl (by decide) rfl rfl hl hd kk
theorem gp_Model_reading {idx : Nat} {v : Int32} (F : Fx X l0 D ad g cc own d N) (hl : Cond.fieldLink own idx "MillOfDistancesModel" "reading" "I" ∈ gw) (hd : Dq cc pc (.putfield idx) 3 q) (kk : G X D ad g t (uI u 39 17 v) lv q st) : G X D ad g t u lv pc (.int v :: .ref (ad 39) :: st) := by
  exact g_put (o := 39) (k := 17) (ci := 6) (C := RX6) (T := TX6) (Nf := 22) (ty := .int) F hin_Model tyX6 tyX6_ok nmX6 rfl rfl (by decide) (Nat.le_of_ble_eq_true rfl) rfl rfl (by decide +kernel) rfl rfl rfl hl hd kk
theorem gg_Model_at {idx : Nat} (F : Fx X l0 D ad g cc own d N) (hl : Cond.fieldLink own idx "MillOfDistancesModel" "at" "I" ∈ gw) (hd : Dq cc pc (.getfield idx) 3 q) (kk : G X D ad g t u lv q (.int (u.1 39 18) :: st)) : G X D ad g t u lv pc (.ref (ad 39) :: st) := by
  exact g_get (o := 39) (k := 18) (ci := 6) (C := RX6) (T := TX6) (Nf := 22) F hin_Model rfl rfl (by decide) rfl rfl hl hd kk
theorem gp_Model_at {idx : Nat} {v : Int32} (F : Fx X l0 D ad g cc own d N) (hl : Cond.fieldLink own idx "MillOfDistancesModel" "at" "I" ∈ gw) (hd : Dq cc pc (.putfield idx) 3 q) (kk : G X D ad g t (uI u 39 18 v) lv q st) : G X D ad g t u lv pc (.int v :: .ref (ad 39) :: st) := by
  exact g_put (o := 39) (k := 18) (ci := 6) (C := RX6) (T := TX6) (Nf := 22) (ty := .int) F hin_Model tyX6 tyX6_ok nmX6 rfl rfl (by decide) (Nat.le_of_ble_eq_true rfl) rfl rfl (by decide +kernel) rfl rfl rfl hl hd kk
theorem gg_Model_numbers {idx : Nat} (F : Fx X l0 D ad g cc own d N) (hl : Cond.fieldLink own idx "MillOfDistancesModel" "numbers" "[I" ∈ gw) (hd : Dq cc pc (.getfield idx) 3 q) (kk : G X D ad g t u lv q (.ref (ad 50) :: st)) : G X D ad g t u lv pc (.ref (ad 39) :: st) := by
  exact g_get (o := 39) (k := 19) (ci := 6) (C := RX6) (T := TX6) (Nf := 22) F hin_Model rfl rfl (by decide) rfl rfl hl hd kk
theorem gg_Model_far {idx : Nat} (F : Fx X l0 D ad g cc own d N) (hl : Cond.fieldLink own idx "MillOfDistancesModel" "far" "[I" ∈ gw) (hd : Dq cc pc (.getfield idx) 3 q) (kk : G X D ad g t u lv q (.ref (ad 51) :: st)) : G X D ad g t u lv pc (.ref (ad 39) :: st) := by
  exact g_get (o := 39) (k := 20) (ci := 6) (C := RX6) (T := TX6) (Nf := 22) F hin_Model rfl rfl (by decide) rfl rfl hl hd kk
theorem gg_Model_was {idx : Nat} (F : Fx X l0 D ad g cc own d N) (hl : Cond.fieldLink own idx "MillOfDistancesModel" "was" "[I" ∈ gw) (hd : Dq cc pc (.getfield idx) 3 q) (kk : G X D ad g t u lv q (.ref (ad 52) :: st)) : G X D ad g t u lv pc (.ref (ad 39) :: st) := by
  exact g_get (o := 39) (k := 21) (ci := 6) (C := RX6) (T := TX6) (Nf := 22) F hin_Model rfl rfl (by decide) rfl rfl hl hd kk
theorem ai_kinds (L : Fin 3) : AIc ad g (oKn L) 8 := by
  obtain rfl | rfl | rfl := fin3 L <;> exact fun t u => ⟨rfl, fun z => rfl⟩
theorem ai_marks (L : Fin 3) : AIc ad g (oMk L) 8 := by
  obtain rfl | rfl | rfl := fin3 L <;> exact fun t u => ⟨rfl, fun z => rfl⟩
theorem ai_roads (L : Fin 3) : AIc ad g (oRd L) 64 := by
  obtain rfl | rfl | rfl := fin3 L <;> exact fun t u => ⟨rfl, fun z => rfl⟩
theorem ai_cells (J : Fin 2) : AIc ad g (oCe J) 64 := by
  obtain rfl | rfl := fin2 J <;> exact fun t u => ⟨rfl, fun z => rfl⟩
theorem ai_elements (K : Fin 8) : ALc ad g (oEl K) 160 := by
  obtain rfl | rfl | rfl | rfl | rfl | rfl | rfl | rfl := fin8 K <;> exact fun t u => ⟨rfl, fun z => rfl⟩
theorem ai_refusals : AIc ad g 34 8 := by
  exact fun t u => ⟨rfl, fun z => rfl⟩
theorem ai_numbers : AIc ad g 36 3 := by
  exact fun t u => ⟨rfl, fun z => rfl⟩
theorem ai_trace : AIc ad g 38 20 := by
  exact fun t u => ⟨rfl, fun z => rfl⟩
theorem am_holding : AIm ad g 40 8 := by
  exact fun t u => ⟨rfl, fun z => rfl⟩
theorem am_rowLength : AIm ad g 41 8 := by
  exact fun t u => ⟨rfl, fun z => rfl⟩
theorem am_rowOf : ALm ad g 42 1280 := by
  exact fun t u => ⟨rfl, fun z => rfl⟩
theorem am_kind : AIm ad g 43 8 := by
  exact fun t u => ⟨rfl, fun z => rfl⟩
theorem am_own : AIm ad g 44 8 := by
  exact fun t u => ⟨rfl, fun z => rfl⟩
theorem am_miles : AIm ad g 45 64 := by
  exact fun t u => ⟨rfl, fun z => rfl⟩
theorem am_refusals : AIm ad g 46 8 := by
  exact fun t u => ⟨rfl, fun z => rfl⟩
theorem am_traces : AIm ad g 47 20 := by
  exact fun t u => ⟨rfl, fun z => rfl⟩
theorem am_old : AIm ad g 48 84 := by
  exact fun t u => ⟨rfl, fun z => rfl⟩
theorem am_ahead : AIm ad g 49 84 := by
  exact fun t u => ⟨rfl, fun z => rfl⟩
theorem am_numbers : AIm ad g 50 3 := by
  exact fun t u => ⟨rfl, fun z => rfl⟩
theorem am_far : AIm ad g 51 64 := by
  exact fun t u => ⟨rfl, fun z => rfl⟩
theorem am_was : AIm ad g 52 64 := by
  exact fun t u => ⟨rfl, fun z => rfl⟩
def Rc (ad : Nat → Nat) (g : Gv) (o : Nat) (C : String) : Prop := ∃ (ci : Nat) (q : vw_C), vwCl[ci]? = some q ∧ q.1 = C ∧ ∀ t u, ∃ fs, (wsA ad g t u)[o]? = some (ad o, .inr (ci, fs))
theorem rc_Doer : Rc ad g 37 RX0 := by
  exact ⟨0, _, rfl, rfl, fun t u => ⟨_, rfl⟩⟩
theorem rc_Land (L : Fin 3) : Rc ad g (oLd L) RX1 := by
  obtain rfl | rfl | rfl := fin3 L <;> exact ⟨1, _, rfl, rfl, fun t u => ⟨_, rfl⟩⟩
theorem rc_Len (J : Fin 2) : Rc ad g (oLn J) RX2 := by
  obtain rfl | rfl := fin2 J <;> exact ⟨2, _, rfl, rfl, fun t u => ⟨_, rfl⟩⟩
theorem rc_Reader : Rc ad g 35 RX3 := by
  exact ⟨3, _, rfl, rfl, fun t u => ⟨_, rfl⟩⟩
theorem rc_Shelf (K : Fin 8) : Rc ad g (oSh K) RX4 := by
  obtain rfl | rfl | rfl | rfl | rfl | rfl | rfl | rfl := fin8 K <;> exact ⟨4, _, rfl, rfl, fun t u => ⟨_, rfl⟩⟩
theorem rc_Main : Rc ad g 0 RX5 := by
  exact ⟨5, _, rfl, rfl, fun t u => ⟨_, rfl⟩⟩
theorem rc_Model : Rc ad g 39 RX6 := by
  exact ⟨6, _, rfl, rfl, fun t u => ⟨_, rfl⟩⟩
end GM
