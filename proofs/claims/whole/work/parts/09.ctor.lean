/-! constructors: the world grows -/
def Nws (s : State) : Prop :=
  va_Nw (Cond.methodLinkNest "MillOfDistances" 9 yX1_init "MillOfDistances") s ∧ va_Nw (Cond.methodLinkNest "MillOfDistances" 24 yX2_init "MillOfDistances") s ∧ va_Nw (Cond.methodLinkNest "MillOfDistances" 44 yX3_init "MillOfDistances") s ∧ va_Nw (Cond.methodLinkNest "MillOfDistances" 51 yX0_init "MillOfDistances") s ∧ va_Nw (Cond.methodLinkNest "MillOfDistances" 56 yX4_init "MillOfDistances") s ∧ va_AO "MillOfDistances$Shelf" s
theorem Nws.moved {u U : State} (hv : U.vm = u.vm) (ha : u.vm.Alike U.vm) (h : Nws u) : Nws U := by
  obtain ⟨n94, n132, n147, n167, n189, z⟩ := h
  exact ⟨va_Nw.same rfl hv.symm n94, va_Nw.same rfl hv.symm n132, va_Nw.same rfl hv.symm n147, va_Nw.same rfl hv.symm n167, va_Nw.same rfl hv.symm n189, z.moved ha⟩
theorem Nws.warm {s U : State} (hW : s.WarmedH U.vm) (h : Nws s) : Nws U := by
  obtain ⟨n94, n132, n147, n167, n189, z⟩ := h
  exact ⟨va_Nw.warmM hW n94, va_Nw.warmM hW n132, va_Nw.warmM hW n147, va_Nw.warmM hW n167, va_Nw.warmM hW n189, z.moved hW.alike⟩
def rmN (d mc ms : Nat) : Room := { frames := d, cells := mc, slots := ms, locals := 64 * d }
def PreN (D : va_G) (g : Gv) (sz : Nat) (w0 : va_W) (U : State) : Prop := U.heap.size = sz ∧ va_P D vwCl w0 U.heap ∧ va_K D vwCl (tysG g) U ∧ va_D (fun _ => True) w0 ∧ Nws U
def ConN (l : Launch) (y : MethodName) (cc : ByteArray) (nL d mc ms h0 : Nat) (w0 : va_W) (W1 : (Nat → Nat) → va_W) (D : va_G) (g : Gv) : Prop :=
  ∀ sz : Nat, Met l y (.code y cc nL none :: gw) (rmN d mc ms) (va_Pc [.ref h0] (PreN D g sz w0)) (va_Qv (fun (_ : Nat → Nat) => True) (fun a T => va_P D vwCl (W1 a) T.heap ∧ va_D (va_A w0 sz) (W1 a)) (va_A w0 sz)) mc ms (va_A w0 sz)
def GN (X : Cx) (D : va_G) (ws : va_W) (lv : List (Nat × Value)) (pc : Nat) (st : List Value) (k n : Nat) : Prop :=
  match X with
  | (p, l, e, R, s, m, args, below, meth, c, Q, A, nL, _, _) => ∀ (H : Heap) (locs : List Loc) (ls : Array Slot), lv_has ls nL lv → va_P D vwCl ws H → va_D A ws → va_S A s.heap H locs → W p l e R s m args below meth c H locs k n Q (F0 m pc ls st)
def FN (X : Cx) (l0 : Launch) (D : va_G) (g : Gv) (cc : ByteArray) (own : String) (mc ms d N : Nat) : Prop :=
  match X with
  | (p, l, _, R, s, m, args, _, meth, c, _, A, nL, _, _) => p.tables.exec = Jvm.exec ∧ c.code = cc ∧ c.maxLocals = nL ∧ s.vm.findClass own = some m.cls ∧ (∀ w ∈ gw, w.before args s = true) ∧ va_K D vwCl (tysG g) s ∧ (∀ q, s.heap.size ≤ q → A q) ∧ (mc ≤ R.cells ∧ ms ≤ R.slots ∧ d ≤ R.frames ∧ 64 * d ≤ R.locals) ∧ nL = N ∧ l = l0 ∧ Nws s ∧ meth.name = "<init>"
theorem con_n {l : Launch} {y : MethodName} {cc : ByteArray} {nL d mc ms h0 : Nat} {w0 : va_W} {W1 : (Nat → Nat) → va_W} {D : va_G} {g : Gv} (hy : plainName y.cls = true) (hyn : y.name = "<init>") (hln : 1 ≤ nL)
    (body : ∀ X : Cx, FN X l D g cc y.cls mc ms d nL → (∀ {pc q : Nat} {lv : List (Nat × Value)} (a : Nat → Nat), Dq cc pc .return_ 1 q → GN X D (W1 a) lv pc [] mc ms) → GN X D w0 [(0, .ref h0)] 0 [] 0 0) : ConN l y cc nL d mc ms h0 w0 W1 D g := by
  intro sz
  refine Met.ofW (cc := cc) (maxL := nL) (ret := none) hy rfl ?_
  intro p e s m args below meth c s₁ B hml hv
  obtain ⟨rfl, hsz, hP, hK, hD0, hN⟩ := hv
  have hts := atoms_spec (ws := .code y cc nL none :: gw) B.pre
  subst hsz
  have hD := hD0.self (sz := s.heap.size)
  have hA : ∀ q : Nat, s.heap.size ≤ q → va_A w0 s.heap.size q := fun q h => Or.inr h
  have hlk := B.notSynchronized
  have hr := B.returns
  have key := body (p, l, e, rmN d mc ms, s, m, [Value.ref h0].toArray, below, meth, c, MQ below (va_Qv (fun (_ : Nat → Nat) => True) (fun a T => va_P D vwCl (W1 a) T.heap ∧ va_D (va_A w0 s.heap.size) (W1 a)) (va_A w0 s.heap.size)) [Value.ref h0].toArray s mc ms (va_A w0 s.heap.size), va_A w0 s.heap.size, nL, 0, 0) ⟨B.exec, B.bytes, hml, findClass_of_methodNamed B.named, fun w h => hts w (List.mem_cons_of_mem _ h), hK, hA, ⟨Nat.le_refl _, Nat.le_refl _, Nat.le_refl _, Nat.le_refl _⟩, rfl, rfl, hN, by rw [(name_of_methodNamed B.named B.method).1, hyn]⟩
    (fun {pc q lv} a hd H locs ls hl hP hD hS => W.vret (hlocks := hlk) B.exec B.bytes hr (fun t ht hW => ⟨⟨a, rfl, trivial, by rw [ht]; exact hP, hD⟩, hS.F ht⟩) hS.2.2 hd.1)
  rw [lg_entry_eq]
  exact key s.heap [] _ (lv_entry [Value.ref h0] (by exact hln)) hP hD va_S.rf
section NW
variable {X : Cx} {l0 : Launch} {D : va_G} {g : Gv} {cc : ByteArray} {own : String} {mc ms d N k n k' n' : Nat} {ws ws' : va_W} {lv lv' : List (Nat × Value)} {pc q tgt : Nat} {st : List Value}
theorem n_ws (he : ws = ws') (h : GN X D ws' lv pc st k n) : GN X D ws lv pc st k n := he ▸ h
theorem n_kn (hk : k ≤ k') (hn : n ≤ n') (h : GN X D ws lv pc st k' n') : GN X D ws lv pc st k n := by
  obtain ⟨p, l, e, R, s, m, args, below, meth, c, Q, A, nL, cells, slots⟩ := X
  exact fun H locs ls hl hP hD hS => W.widen hk hn (h H locs ls hl hP hD hS)
theorem n_perm (ps : List Nat) (hps : ps.filterMap (fun i => ws[i]?) = ws') (hps2 : ps.map (fun i => ws[i]?) = ws'.map some) (hnd : va_nd ps = true) (h : GN X D ws' lv pc st k n) : GN X D ws lv pc st k n := by
  obtain ⟨p, l, e, R, s, m, args, below, meth, c, Q, A, nL, cells, slots⟩ := X
  exact fun H locs ls hl hP hD hS => h H locs ls hl (hP.sub ps hps) (hD.sub ps hnd hps2) hS
theorem n_sub (ks : List Nat) (he : lv_pick lv ks = lv') (h : GN X D ws lv' pc st k n) : GN X D ws lv pc st k n := by
  obtain ⟨p, l, e, R, s, m, args, below, meth, c, Q, A, nL, cells, slots⟩ := X
  exact fun H locs ls hl hP hD hS => h H locs ls (lv_sub hl ks he) hP hD hS
theorem n_iconst {i : Int} {v : Int32} (F : FN X l0 D g cc own mc ms d N) (hd : Dq cc pc (.iconst i) 1 q) (hv : Int32.ofInt i = v) (K : GN X D ws lv q (.int v :: st) k n) : GN X D ws lv pc (st) k n := by
  obtain ⟨p, l, e, R, s, m, args, below, meth, c, Q, A, nL, cells, slots⟩ := X
  obtain ⟨hd, rfl⟩ := hd
  obtain ⟨hx, hb, hml, hown, hts, hK, hA, hR, hnN, hll, hNw, hin⟩ := F
  exact fun H locs ls hl hP hD hS => lv_iconst hx hb hd hv (K H locs ls hl hP hD hS)
theorem n_bipush {i : Int} {v : Int32} (F : FN X l0 D g cc own mc ms d N) (hd : Dq cc pc (.bipush i) 2 q) (hv : (Int8.ofInt i).toInt32 = v) (K : GN X D ws lv q (.int v :: st) k n) : GN X D ws lv pc (st) k n := by
  obtain ⟨p, l, e, R, s, m, args, below, meth, c, Q, A, nL, cells, slots⟩ := X
  obtain ⟨hd, rfl⟩ := hd
  obtain ⟨hx, hb, hml, hown, hts, hK, hA, hR, hnN, hll, hNw, hin⟩ := F
  exact fun H locs ls hl hP hD hS => lv_bipush hx hb hd hv (K H locs ls hl hP hD hS)
theorem n_sipush {i : Int} {v : Int32} (F : FN X l0 D g cc own mc ms d N) (hd : Dq cc pc (.sipush i) 3 q) (hv : (Int16.ofInt i).toInt32 = v) (K : GN X D ws lv q (.int v :: st) k n) : GN X D ws lv pc (st) k n := by
  obtain ⟨p, l, e, R, s, m, args, below, meth, c, Q, A, nL, cells, slots⟩ := X
  obtain ⟨hd, rfl⟩ := hd
  obtain ⟨hx, hb, hml, hown, hts, hK, hA, hR, hnN, hll, hNw, hin⟩ := F
  exact fun H locs ls hl hP hD hS => lv_sipush hx hb hd hv (K H locs ls hl hP hD hS)
theorem n_dup {v : Value} (F : FN X l0 D g cc own mc ms d N) (hd : Dq cc pc (.dup) 1 q) (hv : v.category = 1) (K : GN X D ws lv q (v :: v :: st) k n) : GN X D ws lv pc (v :: st) k n := by
  obtain ⟨p, l, e, R, s, m, args, below, meth, c, Q, A, nL, cells, slots⟩ := X
  obtain ⟨hd, rfl⟩ := hd
  obtain ⟨hx, hb, hml, hown, hts, hK, hA, hR, hnN, hll, hNw, hin⟩ := F
  exact fun H locs ls hl hP hD hS => lv_dup hx hb hd hv (K H locs ls hl hP hD hS)
theorem n_aload_n {kk : Fin 4} {x : Nat} (F : FN X l0 D g cc own mc ms d N) (hd : Dq cc pc (.aload_n kk) 1 q) (j : Nat) (hj : lv[j]? = some ((kk : Nat), .ref x)) (K : GN X D ws lv q (.ref x :: st) k n) : GN X D ws lv pc (st) k n := by
  obtain ⟨p, l, e, R, s, m, args, below, meth, c, Q, A, nL, cells, slots⟩ := X
  obtain ⟨hd, rfl⟩ := hd
  obtain ⟨hx, hb, hml, hown, hts, hK, hA, hR, hnN, hll, hNw, hin⟩ := F
  exact fun H locs ls hl hP hD hS => lv_aload_n hx hb hd rfl (lv_at hl j hj) (K H locs ls hl hP hD hS)
theorem n_iload_n {kk : Fin 4} {x : Int32} (F : FN X l0 D g cc own mc ms d N) (hd : Dq cc pc (.iload_n kk) 1 q) (j : Nat) (hj : lv[j]? = some ((kk : Nat), .int x)) (K : GN X D ws lv q (.int x :: st) k n) : GN X D ws lv pc (st) k n := by
  obtain ⟨p, l, e, R, s, m, args, below, meth, c, Q, A, nL, cells, slots⟩ := X
  obtain ⟨hd, rfl⟩ := hd
  obtain ⟨hx, hb, hml, hown, hts, hK, hA, hR, hnN, hll, hNw, hin⟩ := F
  exact fun H locs ls hl hP hD hS => lv_iload_n hx hb hd rfl (lv_at hl j hj) (K H locs ls hl hP hD hS)
theorem n_istore_n {kk : Fin 4} {x : Int32} (F : FN X l0 D g cc own mc ms d N) (hd : Dq cc pc (.istore_n kk) 1 q) (hn : (kk : Nat) < N) (he : ((kk : Nat), Value.int x) :: lv.filter (fun q => !(q.1 == (kk : Nat)) && !(q.1 + 1 == (kk : Nat) && q.2.category == 2)) = lv') (K : GN X D ws lv' q st k n) : GN X D ws lv pc (.int x :: st) k n := by
  obtain ⟨p, l, e, R, s, m, args, below, meth, c, Q, A, nL, cells, slots⟩ := X
  obtain ⟨hd, rfl⟩ := hd
  obtain ⟨hx, hb, hml, hown, hts, hK, hA, hR, hnN, hll, hNw, hin⟩ := F
  subst hnN
  exact fun H locs ls hl hP hD hS => lv_istore_n hx hb hd rfl hl hn he (fun ls hl => K H locs ls hl hP hD hS)
theorem n_astore_n {kk : Fin 4} {x : Nat} (F : FN X l0 D g cc own mc ms d N) (hd : Dq cc pc (.astore_n kk) 1 q) (hn : (kk : Nat) < N) (he : ((kk : Nat), Value.ref x) :: lv.filter (fun q => !(q.1 == (kk : Nat)) && !(q.1 + 1 == (kk : Nat) && q.2.category == 2)) = lv') (K : GN X D ws lv' q st k n) : GN X D ws lv pc (.ref x :: st) k n := by
  obtain ⟨p, l, e, R, s, m, args, below, meth, c, Q, A, nL, cells, slots⟩ := X
  obtain ⟨hd, rfl⟩ := hd
  obtain ⟨hx, hb, hml, hown, hts, hK, hA, hR, hnN, hll, hNw, hin⟩ := F
  subst hnN
  exact fun H locs ls hl hP hD hS => lv_astore_n hx hb hd rfl hl hn he (fun ls hl => K H locs ls hl hP hD hS)
theorem n_iinc {i : Nat} {z : Int} {x v : Int32} (F : FN X l0 D g cc own mc ms d N) (hd : Dq cc pc (.iinc i z) 3 q) (j : Nat) (hj : lv[j]? = some (i, .int x)) (hv : x + Int32.ofInt z = v) (hn : i < N) (he : (i, Value.int v) :: lv.filter (fun q => !(q.1 == i) && !(q.1 + 1 == i && q.2.category == 2)) = lv') (K : GN X D ws lv' q st k n) : GN X D ws lv pc st k n := by
  obtain ⟨p, l, e, R, s, m, args, below, meth, c, Q, A, nL, cells, slots⟩ := X
  obtain ⟨hd, rfl⟩ := hd
  obtain ⟨hx, hb, hml, hown, hts, hK, hA, hR, hnN, hll, hNw, hin⟩ := F
  subst hnN
  exact fun H locs ls hl hP hD hS => lv_iinc hx hb hd hl hj hv hn he (fun ls hl => K H locs ls hl hP hD hS)
theorem n_goto {off : Int} (F : FN X l0 D g cc own mc ms d N) (hd : Dq cc pc (.goto off) 3 q) (ht : (pc : Int) + off = (tgt : Int)) (K : GN X D ws lv tgt st k n) : GN X D ws lv pc st k n := by
  obtain ⟨p, l, e, R, s, m, args, below, meth, c, Q, A, nL, cells, slots⟩ := X
  obtain ⟨hx, hb, hml, hown, hts, hK, hA, hR, hnN, hll, hNw, hin⟩ := F
  exact fun H locs ls hl hP hD hS => lv_goto hx hb hd.1 ht (K H locs ls hl hP hD hS)
theorem n_geY {x y : Int32} {off : Int} (F : FN X l0 D g cc own mc ms d N) (hd : Dq cc pc (.if_icmp .ge off) 3 q) (ht : (pc : Int) + off = (tgt : Int)) (hc : y ≤ x) (K : GN X D ws lv tgt st k n) : GN X D ws lv pc (.int y :: .int x :: st) k n := by
  obtain ⟨p, l, e, R, s, m, args, below, meth, c, Q, A, nL, cells, slots⟩ := X
  obtain ⟨hd, rfl⟩ := hd
  obtain ⟨hx, hb, hml, hown, hts, hK, hA, hR, hnN, hll, hNw, hin⟩ := F
  exact fun H locs ls hl hP hD hS => lv_icmp_ge hx hb hd ht (fun _ => K H locs ls hl hP hD hS) (fun h => absurd hc h)
theorem n_geN {x y : Int32} {off : Int} (F : FN X l0 D g cc own mc ms d N) (hd : Dq cc pc (.if_icmp .ge off) 3 q) (ht : (pc : Int) + off = (tgt : Int)) (hc : ¬ y ≤ x) (K : GN X D ws lv q st k n) : GN X D ws lv pc (.int y :: .int x :: st) k n := by
  obtain ⟨p, l, e, R, s, m, args, below, meth, c, Q, A, nL, cells, slots⟩ := X
  obtain ⟨hd, rfl⟩ := hd
  obtain ⟨hx, hb, hml, hown, hts, hK, hA, hR, hnN, hll, hNw, hin⟩ := F
  exact fun H locs ls hl hP hD hS => lv_icmp_ge hx hb hd ht (fun h => absurd h hc) (fun _ => K H locs ls hl hP hD hS)
theorem n_obj {idx a : Nat} (F : FN X l0 D g cc own mc ms d N) (hl : Cond.methodLink own idx Lib.objectInit ∈ gw) (hi : Cond.instanceMethod Lib.objectInit ∈ gw) (hcd : Cond.code Lib.objectInit ⟨#[0xb1]⟩ 1 none ∈ gw) (hd : Dq cc pc (.invokespecial idx) 3 q) (h1 : 1 ≤ d) (K : GN X D ws lv q [] k n) : GN X D ws lv pc [.ref a] k n := by
  obtain ⟨p, l, e, R, s, m, args, below, meth, c, Q, A, nL, cells, slots⟩ := X
  obtain ⟨hd, rfl⟩ := hd
  obtain ⟨hx, hb, hml, hown, hts, hK, hA, hR, hnN, hll, hNw, hin⟩ := F
  intro H locs ls hv hP hD hS
  refine W.objInit hx hb hown (hts _ hl) (hts _ hi) (hts _ hcd) rfl (by rw [hml]; exact hv.1) rfl hd (Nat.le_trans h1 hR.2.2.1) (Nat.le_trans (show 2 * 0 + 0 + 12 ≤ 64 * d by omega) hR.2.2.2) ?_
  exact W.eq (g2 := F0 m (pc + 3) ls []) rfl (K H locs ls hv hP hD hS)
theorem n_newaI {z : Int32} {N' : Nat} (F : FN X l0 D g cc own mc ms d N) (hc : Cond.arrayClass .int ∈ gw) (hd : Dq cc pc (.newarray .int) 2 q) (hz : ¬ z < 0) (hN : z.toNatClampNeg = N') (hb9 : N' ≤ 10000) (hk : k + 1 ≤ mc) (hn : n + N' ≤ ms) (K : ∀ a, GN X D (ws ++ [(a, .inl (g.1.1, N', (.inl (fun _ => 0))))]) lv q (.ref a :: st) (k + 1) (n + N')) : GN X D ws lv pc (.int z :: st) k n := by
  obtain ⟨p, l, e, R, s, m, args, below, meth, c, Q, A, nL, cells, slots⟩ := X
  obtain ⟨hd, rfl⟩ := hd
  obtain ⟨hx, hb, hml, hown, hts, hK, hA, hR, hnN, hll, hNw, hin⟩ := F
  intro H locs ls hv hP hD hS
  refine va_newa (atype := .int) (ty := .int) (a0 := (N', (.inl (fun _ => 0)))) hx hb (hts _ hc) rfl hK hP hD hS hA (fun _ => rfl) hz hN (show N' * 4 ≤ _ by omega) (Nat.le_trans hk hR.1) (Nat.le_trans hn hR.2.1) hd (fun a cA H1 hK1 hP1 hD1 hS1 => ?_)
  have e1 := (hK1.2 3 (cA, .int) rfl).2
  have e2 := (hK.2 0 (g.1.1, .int) rfl).2
  obtain rfl : cA = g.1.1 := Option.some.inj (e1.symm.trans e2)
  exact K a H1 locs ls hv hP1 hD1 hS1
theorem n_newaL {z : Int32} {N' : Nat} (F : FN X l0 D g cc own mc ms d N) (hc : Cond.arrayClass .long ∈ gw) (hd : Dq cc pc (.newarray .long) 2 q) (hz : ¬ z < 0) (hN : z.toNatClampNeg = N') (hb9 : N' ≤ 10000) (hk : k + 1 ≤ mc) (hn : n + N' ≤ ms) (K : ∀ a, GN X D (ws ++ [(a, .inl (g.1.2.1, N', (.inr (.inl (fun _ => 0)))))]) lv q (.ref a :: st) (k + 1) (n + N')) : GN X D ws lv pc (.int z :: st) k n := by
  obtain ⟨p, l, e, R, s, m, args, below, meth, c, Q, A, nL, cells, slots⟩ := X
  obtain ⟨hd, rfl⟩ := hd
  obtain ⟨hx, hb, hml, hown, hts, hK, hA, hR, hnN, hll, hNw, hin⟩ := F
  intro H locs ls hv hP hD hS
  refine va_newa (atype := .long) (ty := .long) (a0 := (N', (.inr (.inl (fun _ => 0))))) hx hb (hts _ hc) rfl hK hP hD hS hA (fun _ => rfl) hz hN (show N' * 8 ≤ _ by omega) (Nat.le_trans hk hR.1) (Nat.le_trans hn hR.2.1) hd (fun a cA H1 hK1 hP1 hD1 hS1 => ?_)
  have e1 := (hK1.2 3 (cA, .long) rfl).2
  have e2 := (hK.2 1 (g.1.2.1, .long) rfl).2
  obtain rfl : cA = g.1.2.1 := Option.some.inj (e1.symm.trans e2)
  exact K a H1 locs ls hv hP1 hD1 hS1
theorem n_newq {z : Int32} {N' idx : Nat} (F : FN X l0 D g cc own mc ms d N) (hc : Cond.classLink own idx "MillOfDistances$Shelf" ∈ gw) (hd : Dq cc pc (.anewarray idx) 3 q) (hz : ¬ z < 0) (hN : z.toNatClampNeg = N') (hb9 : N' ≤ 10000) (hk : k + 1 ≤ mc) (hn : n + N' ≤ ms) (K : ∀ a, GN X D (ws ++ [(a, .inl (g.1.2.2, N', .inr (.inr (.inr (.inr (fun _ => none))))))]) lv q (.ref a :: st) (k + 1) (n + N')) : GN X D ws lv pc (.int z :: st) k n := by
  obtain ⟨p, l, e, R, s, m, args, below, meth, c, Q, A, nL, cells, slots⟩ := X
  obtain ⟨hd, rfl⟩ := hd
  obtain ⟨hx, hb, hml, hown, hts, hK, hA, hR, hnN, hll, hNw, hin⟩ := F
  intro H locs ls hv hP hD hS
  refine va_newq (C := "MillOfDistances$Shelf") hx hb hown (hts _ hc) hNw.2.2.2.2.2 hK hP hD hS hA hz hN (show N' * 4 ≤ _ by omega) (Nat.le_trans hk hR.1) (Nat.le_trans hn hR.2.1) hd (fun a cA H1 hK1 hP1 hD1 hS1 => ?_)
  obtain ⟨_, _, _, _, _, e1⟩ := (hK1.2 3 (cA, .object "MillOfDistances$Shelf") rfl).2
  obtain ⟨_, _, _, _, _, e2⟩ := (hK.2 2 (g.1.2.2, .object "MillOfDistances$Shelf") rfl).2
  obtain rfl : cA = g.1.2.2 := Option.some.inj (e1.symm.trans e2)
  exact K a H1 locs ls hv hP1 hD1 hS1
theorem n_new {ci Nf idx : Nat} {C : String} {T : u_T} {fs : List Value} (F : FN X l0 D g cc own mc ms d N) (hcw : Cond.classLink own idx C ∈ gw) (hi : Cond.instantiable C Nf ∈ gw) (hini : Cond.initialized C ∈ gw) (hin9 : ∀ w ∈ u_ws C T Nf, w ∈ gw) (ty : Nat → FieldType) (hty : ∀ k, k < Nf → parseFieldDescriptor (T k).2.2.1 = some (ty k)) (hc : vwCl[ci]? = some (C, T, Nf)) (hfs : ∀ j, j < Nf → defaultValue (ty j) = vp_V fs j) (hd : Dq cc pc (.new idx) 3 q) (hk : k + 1 ≤ mc) (hn : n + Nf ≤ ms) (K : ∀ a, GN X D (ws ++ [(a, .inr (ci, fs))]) lv q (.ref a :: st) (k + 1) (n + Nf)) : GN X D ws lv pc st k n := by
  obtain ⟨p, l, e, R, s, m, args, below, meth, c, Q, A, nL, cells, slots⟩ := X
  obtain ⟨hd, rfl⟩ := hd
  obtain ⟨hx, hb, hml, hown, hts, hK, hA, hR, hnN, hll, hNw, hin⟩ := F
  intro H locs ls hv hP hD hS
  exact va_new (ci := ci) (fs := fs) (C := C) (T := T) (N := Nf) hx hb hts hin9 ty hty hown (hts _ hcw) (hts _ hi) (hts _ hini) hK hP hD hS hA hc hfs (Nat.le_trans hk hR.1) (Nat.le_trans hn hR.2.1) hd (fun a H1 hP1 hD1 hS1 => K a H1 locs ls hv hP1 hD1 hS1)
theorem n_put {ci Nf q0 kf idx a : Nat} {C : String} {T : u_T} {fs : List Value} {v : Value} {ty : FieldType} (F : FN X l0 D g cc own mc ms d N) (hin9 : ∀ w ∈ u_ws C T Nf, w ∈ gw) (ty0 : Nat → FieldType) (hty : ∀ k, k < Nf → parseFieldDescriptor (T k).2.2.1 = some (ty0 k)) (hnm : ∀ a, a < Nf → ∀ b, b < Nf → a ≠ b → (T a).2.1 ≠ (T b).2.1) (hc : vwCl[ci]? = some (C, T, Nf)) (he : ws[q0]? = some (a, .inr (ci, fs))) (hkf : kf < Nf) (hkl : kf < fs.length) (hT : (T kf).1 = C) (hfin : (T kf).2.2.2 = false) (hpd : parseFieldDescriptor (T kf).2.2.1 = some ty) (hnv : narrow ty v = v) (hfit : fits ty v = true) (hset : ws.set q0 (a, .inr (ci, fs.set kf v)) = ws') (hl : Cond.fieldLink own idx C (T kf).2.1 (T kf).2.2.1 ∈ gw) (hd : Dq cc pc (.putfield idx) 3 q) (K : GN X D ws' lv q st k n) : GN X D ws lv pc (v :: .ref a :: st) k n := by
  obtain ⟨p, l, e, R, s, m, args, below, meth, c, Q, A, nL, cells, slots⟩ := X
  obtain ⟨hd, rfl⟩ := hd
  obtain ⟨hx, hb, hml, hown, hts, hK, hA, hR, hnN, hll, hNw, hin⟩ := F
  subst hset
  exact fun H locs ls hv hP hD hS => va_put (D := D) (ci := ci) (v := v) (ty := ty) (C := C) (T := T) (N := Nf) hx hb hts hin9 ty0 hty hnm hown hK hP hD hS q0 he hc kf hkf (hts _ hl) (fun x h => by rw [hT] at h; exact h) hfin hpd hnv hfit hkl hd (fun H1 locs1 hP1 hD1 hS1 => K H1 locs1 ls hv hP1 hD1 hS1)
theorem n_putF {ci Nf q0 kf idx a : Nat} {C : String} {T : u_T} {fs : List Value} {v : Value} {ty : FieldType} (F : FN X l0 D g cc own mc ms d N) (hin9 : ∀ w ∈ u_ws C T Nf, w ∈ gw) (ty0 : Nat → FieldType) (hty : ∀ k, k < Nf → parseFieldDescriptor (T k).2.2.1 = some (ty0 k)) (hnm : ∀ a, a < Nf → ∀ b, b < Nf → a ≠ b → (T a).2.1 ≠ (T b).2.1) (hc : vwCl[ci]? = some (C, T, Nf)) (he : ws[q0]? = some (a, .inr (ci, fs))) (hkf : kf < Nf) (hkl : kf < fs.length) (hT : (T kf).1 = C) (hdecl : (T kf).1 = own) (hfin : (T kf).2.2.2 = true) (hpd : parseFieldDescriptor (T kf).2.2.1 = some ty) (hnv : narrow ty v = v) (hfit : fits ty v = true) (hset : ws.set q0 (a, .inr (ci, fs.set kf v)) = ws') (hl : Cond.fieldLink own idx C (T kf).2.1 (T kf).2.2.1 ∈ gw) (hd : Dq cc pc (.putfield idx) 3 q) (K : GN X D ws' lv q st k n) : GN X D ws lv pc (v :: .ref a :: st) k n := by
  obtain ⟨p, l, e, R, s, m, args, below, meth, c, Q, A, nL, cells, slots⟩ := X
  obtain ⟨hd, rfl⟩ := hd
  obtain ⟨hx, hb, hml, hown, hts, hK, hA, hR, hnN, hll, hNw, hin⟩ := F
  subst hset
  exact fun H locs ls hv hP hD hS => va_putF (D := D) (ci := ci) (v := v) (ty := ty) (C := C) (T := T) (N := Nf) hx hb hts hin9 ty0 hty hnm hown hK hP hD hS q0 he hc kf hkf (hts _ hl) (fun x h => by rw [hT] at h; exact h) hfin hin hdecl hpd hnv hfit hkl hd (fun H1 locs1 hP1 hD1 hS1 => K H1 locs1 ls hv hP1 hD1 hS1)
theorem n_get {ci Nf q0 kf idx a : Nat} {C : String} {T : u_T} {fs : List Value} {v : Value} (F : FN X l0 D g cc own mc ms d N) (hin9 : ∀ w ∈ u_ws C T Nf, w ∈ gw) (hc : vwCl[ci]? = some (C, T, Nf)) (he : ws[q0]? = some (a, .inr (ci, fs))) (hkf : kf < Nf) (hT : (T kf).1 = C) (hv0 : fs[kf]? = some v) (hl : Cond.fieldLink own idx C (T kf).2.1 (T kf).2.2.1 ∈ gw) (hd : Dq cc pc (.getfield idx) 3 q) (K : GN X D ws lv q (v :: st) k n) : GN X D ws lv pc (.ref a :: st) k n := by
  obtain ⟨p, l, e, R, s, m, args, below, meth, c, Q, A, nL, cells, slots⟩ := X
  obtain ⟨hd, rfl⟩ := hd
  obtain ⟨hx, hb, hml, hown, hts, hK, hA, hR, hnN, hll, hNw, hin⟩ := F
  exact fun H locs ls hv hP hD hS => va_get (D := D) (ci := ci) (v := v) (C := C) (T := T) (N := Nf) hx hb hts hin9 hown hK hP q0 he hc kf hkf (hts _ hl) (fun x h => by rw [hT] at h; exact h) hv0 hd (K H locs ls hv hP hD hS)
theorem n_iast {q0 z a : Nat} {i x : Int32} {f : Nat → Int32} (F : FN X l0 D g cc own mc ms d N) (ha : ws[q0]? = some (a, .inl (g.1.1, z, .inl f))) (hi : inb i z = true) (hset : ws.set q0 (a, .inl (g.1.1, z, .inl (upd f i.toNatClampNeg x))) = ws') (hd : Dq cc pc .iastore 1 q) (K : GN X D ws' lv q st k n) : GN X D ws lv pc (.int x :: .int i :: .ref a :: st) k n := by
  obtain ⟨p, l, e, R, s, m, args, below, meth, c, Q, A, nL, cells, slots⟩ := X
  obtain ⟨hd, rfl⟩ := hd
  obtain ⟨hx, hb, hml, hown, hts, hK, hA, hR, hnN, hll, hNw, hin⟩ := F
  subst hset
  exact fun H locs ls hv hP hD hS => va_iast hx hb hK hP hD hS q0 0 ha rfl (vp_of_inb hi) hd (fun H1 locs1 hP1 hD1 hS1 => K H1 locs1 ls hv hP1 hD1 hS1)
theorem n_astq {q0 qk z a v : Nat} {i : Int32} {f : Nat → Option Nat} {vs : List Value} (F : FN X l0 D g cc own mc ms d N) (ha : ws[q0]? = some (a, .inl (g.1.2.2, z, .inr (.inr (.inr (.inr f)))))) (hv0 : ws[qk]? = some (v, .inr (4, vs))) (hi : inb i z = true) (hset : ws.set q0 (a, .inl (g.1.2.2, z, .inr (.inr (.inr (.inr (va_up f i.toNatClampNeg (some v))))))) = ws') (hd : Dq cc pc .aastore 1 q) (K : GN X D ws' lv q st k n) : GN X D ws lv pc (.ref v :: .int i :: .ref a :: st) k n := by
  obtain ⟨p, l, e, R, s, m, args, below, meth, c, Q, A, nL, cells, slots⟩ := X
  obtain ⟨hd, rfl⟩ := hd
  obtain ⟨hx, hb, hml, hown, hts, hK, hA, hR, hnN, hll, hNw, hin⟩ := F
  subst hset
  exact fun H locs ls hv hP hD hS => va_astq hx hb hK hP hD hS q0 2 qk 4 ha rfl hv0 rfl (vp_of_inb hi) hd (fun H1 locs1 hP1 hD1 hS1 => K H1 locs1 ls hv hP1 hD1 hS1)
def MN (y : MethodName) (cc : ByteArray) (nL : Nat) : Prop := Cond.code y cc nL none ∈ gw ∧ Cond.instanceMethod y ∈ gw ∧ Cond.initialized y.cls ∈ gw ∧ (y.cls ≠ "java/lang/invoke/MethodHandle" ∧ y.cls ≠ "java/lang/invoke/VarHandle" ∧ (parseMethodDescriptor y.desc).map (fun d => d.parameters.length) = some 0) ∧ y.name = "<init>" ∧ nL ≤ 40
theorem preN_blind {D : va_G} {g : Gv} {sz : Nat} {w0 : va_W} {dv : List Value} : FrameBlind (va_Pc dv (PreN D g sz w0)) := by
  intro a U g' mk q
  obtain ⟨q0, q1, qP, qK, qD, qN⟩ := q
  exact ⟨q0, q1, qP, va_K.moved (u := U) (U := U.calling g' mk a) (Vm.Alike.refl U.vm) qK, qD, Nws.moved (u := U) (U := U.calling g' mk a) rfl (Vm.Alike.refl U.vm) qN⟩
theorem in_wsI {big : List Cond} {w0 : Cond} (h0 : w0 ∈ big) : ∀ w ∈ w0 :: big, w ∈ big := in_wsN h0
theorem rooN {nLy dd mc' ms' : Nat} {R : Room} (hn : nLy ≤ 40) (hR : dd + 1 ≤ d) (h : d ≤ R.frames ∧ 64 * d ≤ R.locals) : (rmN dd mc' ms').frames + 1 ≤ R.frames ∧ 8 + (nLy + 11) + (rmN dd mc' ms').locals ≤ R.locals :=
  ⟨Nat.le_trans hR h.1, Nat.le_trans (show 8 + (nLy + 11) + 64 * dd ≤ 64 * d by omega) h.2⟩
theorem n_callN {y : MethodName} {ccy : ByteArray} {nLy dd idx b mc' ms' : Nat} {host : String} {wc wr : va_W} {W1 : (Nat → Nat) → va_W} (F : FN X l0 D g cc own mc ms d N) (hm : MN y ccy nLy) (hl : match X with | (_, _, _, _, s, _, _, _, _, _, _, _, _, _, _) => va_Nw (.methodLinkNest own idx y host) s) (hd : Dq cc pc (.invokespecial idx) 3 q) (isC isR : List Nat) (hCc : isC.map (fun i => ws[i]?) = wc.map some) (hRr : isR.map (fun i => ws[i]?) = wr.map some) (hnd : va_nd isR = true) (hdis : ∀ i ∈ isR, i ∉ isC) (hC : ConN l0 y ccy nLy dd mc' ms' b wc W1 D g) (hndc : va_nd isC = true) (hR9 : dd + 1 ≤ d) (hrs : (st.map fun v => v.category).sum ≤ 8) (hk : k + mc' ≤ mc) (hn : n + ms' ≤ ms) (K : ∀ a, GN X D (wr ++ W1 a) lv q st (k + mc') (n + ms')) : GN X D ws lv pc (.ref b :: st) k n := by
  obtain ⟨p, l, e, R, s, m, args, below, meth, c, Q, A, nL, cells, slots⟩ := X
  obtain ⟨hd, rfl⟩ := hd
  obtain ⟨hx, hb, hml, hown, hts, hK, hA, hR, hnN, hll, hNw, hin⟩ := F
  subst hll
  intro H locs ls hv hP hD hS
  have hsubC : isC.filterMap (fun i => ws[i]?) = wc := by
    have h2 := congrArg (List.filterMap id) hCc
    simpa [List.filterMap_map, Function.comp_def] using h2
  have hPc := hP.sub isC hsubC
  have hDc := hD.sub isC hndc hCc
  have hFc := va_free (wc := wc) hD hS hA isC hCc
  refine va_callv (va_runIN (Ts := gw) (As := []) (rest := st) ⟨hx, hb, hml, hown, hts⟩ (hC H.size) ⟨va_cnB 0 hts (good_of_mem (in_wsI hm.1)) rfl rfl rfl hl (hts _ hm.2.2.1) hm.2.2.2.1 (rooN hm.2.2.2.2.2 hR9 ⟨hR.2.2.1, hR.2.2.2⟩), hm.2.2.2.2.1, hts _ hm.2.1⟩ ⟨preN_blind, fun U hU hW => ⟨rfl, by rw [hU], by rw [hU]; exact hPc, va_K.moved hW.alike hK, hDc.weaken (fun _ _ _ _ => trivial), Nws.warm hW hNw⟩⟩ rfl rfl (show ls.size = nL from hv.1) rfl (lv_room hrs) hd ⟨Nat.le_trans hk hR.1, Nat.le_trans hn hR.2.1⟩) hS (fun q _ h => hFc q h) hFc (fun a T H1 locs1 hT hvm hw hB hz1 hk1 hS1 => ?_)
  obtain ⟨hP1, hD1⟩ := hB
  rw [hT] at hP1
  obtain ⟨hP, hD⟩ := va_join (wr := wr) (w1 := W1 a) hP hD isC isR hCc hRr hnd hdis hk1 hFc hP1 hD1
  exact K a H1 locs1 ls hv hP hD hS1
theorem n_callI {y : MethodName} {ccy : ByteArray} {nLy dd idx b mc' ms' : Nat} {wc wr : va_W} {W1 : (Nat → Nat) → va_W} (F : FN X l0 D g cc own mc ms d N) (hm : MN y ccy nLy) (hl : Cond.methodLink own idx y ∈ gw) (hd : Dq cc pc (.invokespecial idx) 3 q) (isC isR : List Nat) (hCc : isC.map (fun i => ws[i]?) = wc.map some) (hRr : isR.map (fun i => ws[i]?) = wr.map some) (hnd : va_nd isR = true) (hdis : ∀ i ∈ isR, i ∉ isC) (hC : ConN l0 y ccy nLy dd mc' ms' b wc W1 D g) (hndc : va_nd isC = true) (hR9 : dd + 1 ≤ d) (hrs : (st.map fun v => v.category).sum ≤ 8) (hk : k + mc' ≤ mc) (hn : n + ms' ≤ ms) (K : ∀ a, GN X D (wr ++ W1 a) lv q st (k + mc') (n + ms')) : GN X D ws lv pc (.ref b :: st) k n := by
  obtain ⟨p, l, e, R, s, m, args, below, meth, c, Q, A, nL, cells, slots⟩ := X
  obtain ⟨hd, rfl⟩ := hd
  obtain ⟨hx, hb, hml, hown, hts, hK, hA, hR, hnN, hll, hNw, hin⟩ := F
  subst hll
  intro H locs ls hv hP hD hS
  have hsubC : isC.filterMap (fun i => ws[i]?) = wc := by
    have h2 := congrArg (List.filterMap id) hCc
    simpa [List.filterMap_map, Function.comp_def] using h2
  have hPc := hP.sub isC hsubC
  have hDc := hD.sub isC hndc hCc
  have hFc := va_free (wc := wc) hD hS hA isC hCc
  refine va_callv (va_runI (Ts := gw) (As := []) (rest := st) ⟨hx, hb, hml, hown, hts⟩ (hC H.size) (cwI 0 hts (good_of_mem (in_wsI hm.1)) rfl rfl rfl (hts _ hm.2.2.1) (hts _ hl) (hts _ hm.2.1) hm.2.2.2.2.1 hm.2.2.2.1 (rooN hm.2.2.2.2.2 hR9 ⟨hR.2.2.1, hR.2.2.2⟩)) ⟨preN_blind, fun U hU hW => ⟨rfl, by rw [hU], by rw [hU]; exact hPc, va_K.moved hW.alike hK, hDc.weaken (fun _ _ _ _ => trivial), Nws.warm hW hNw⟩⟩ rfl rfl (show ls.size = nL from hv.1) rfl (lv_room hrs) hd ⟨Nat.le_trans hk hR.1, Nat.le_trans hn hR.2.1⟩) hS (fun q _ h => hFc q h) hFc (fun a T H1 locs1 hT hvm hw hB hz1 hk1 hS1 => ?_)
  obtain ⟨hP1, hD1⟩ := hB
  rw [hT] at hP1
  obtain ⟨hP, hD⟩ := va_join (wr := wr) (w1 := W1 a) hP hD isC isR hCc hRr hnd hdis hk1 hFc hP1 hD1
  exact K a H1 locs1 ls hv hP hD hS1
end NW
