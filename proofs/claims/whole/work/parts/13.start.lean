/-! THE CLAIM OUT OF ONE WALK OF THE LAW'S BODY. Your part is whole_start (and what it stands on); all else here is the same for every law, but numbers. -/
def R_law : String := "MillOfDistancesLaw"
def lw_P (b : Addr) (xs : List Int32) (args : Array Value) (s : State) : Prop := args = #[.ref b] ∧ s.IntsAt b xs ∧ xs.length ≤ 3072 ∧ (Jvm.Cond.and given_1 narrow_1).before args s = true
def lw_Q (_ : Array Value) (s : State) (o : Outcome) (t : State) : Prop := o = .returned (some (.int 1)) ∧ Framed s o t [] 600000 7302250
def lw_Z (below : List Frame) (a : Array Value) (s : State) : State → Prop := fun t => ∃ o, t.status = .running ∧ Ended t below o ∧ lw_Q a s o t
/-- the law's own end, with 1 on the stack, nothing written that was there before, its room as the claim has it -/
theorem lw_ret {p : Program} {l : Launch} {e : Env} {s : State} {m : MethodId} {below : List Frame} {meth : Method} {c : Code} {b : Nat} (hx : p.tables.exec = Jvm.exec) (hb : c.code = code) (hr : meth.sig.returnType = ret) (hlocks : meth.locks = false) {pc : Nat} {H : Heap} {ls : Array Slot} (hdg : decode code pc = .ok (.ireturn, 1)) : W p l e room_1 s m #[Value.ref b] below meth c H [] 600000 7302250 (lw_Z below #[Value.ref b] s) (F0 m pc ls [.int 1]) := by
  intro T hT X
  obtain ⟨fs, hret, hrun, hended, hW, hframe⟩ := X.leave (v := some (.int 1)) (hlocks := hlocks) (fun h => by rw [hr] at h; cases h)
  have hmeth' : T.vm.method? m = some meth := X.method'
  refine ⟨T.setFrames fs, ?_, .returned (some (.int 1)), hrun, hended, rfl, ⟨_, rfl⟩, hW, hframe⟩
  jvm_step X.here [X.here.top, hx, hb, hdg, hmeth', hr, ret, narrow_b1]
  (try refine ⟨rfl, ?_⟩); (try refine ⟨rfl, ?_⟩)
  first | (intro acts; rw [hret _ acts rfl rfl rfl]) | rw [hret _ _ rfl rfl rfl]
  exact Steps.refl _
/-- what holds at the law's entry: the machine, the code, the tables' words (any of lw_tbl by 'hts w (by decide +kernel)'), the script of L ints xs at the cell b, what the Statement gives of the start (any of its parts by flat_of_before) -/
def lw_At (p : Program) (s : State) (m : MethodId) (meth : Method) (c : Code) (b L : Nat) (xs : Nat → Int32) : Prop :=
  p.tables.exec = Jvm.exec ∧ c.code = code ∧ meth.sig.returnType = ret ∧ c.maxLocals = 4 ∧ s.vm.findClass R_law = some m.cls ∧ (∀ w ∈ lw_tbl, w.before #[Value.ref b] s = true) ∧ va_X b L xs s s.heap ∧ b < s.heap.size ∧ meth.locks = false ∧ (Jvm.Cond.and given_1 narrow_1).before #[Value.ref b] s = true
/-! the start: constructors, statics, texts; then the loop -/
def tmS (i : Nat) : Term := match i with | 0 => .string "MillOfDistances$MapReader" 87 | 1 => .string "MillOfDistances$MapReader" 89 | 2 => .string "MillOfDistances$MapReader" 91 | 3 => .string "MillOfDistances$MapReader" 93 | 4 => .string "MillOfDistances$MapReader" 95 | 5 => .string "MillOfDistances$MapReader" 97 | 6 => .string "MillOfDistances$MapReader" 99 | 7 => .string "MillOfDistancesModel" 161 | _ => .string "MillOfDistancesModel" 165
def FL : List Cond := flatC (Jvm.Cond.and given_1 narrow_1)
set_option maxRecDepth 100000 in
theorem fl_ex : ∀ i, i < 9 → Cond.exactly (tmS i) "java/lang/String" ∈ FL := by decide +kernel
set_option maxRecDepth 100000 in
theorem fl_co : ∀ i, i < 9 → Cond.eq (.field (tmS i) "java/lang/String" "coder" "B") (.int 0) ∈ FL := by decide +kernel
set_option maxRecDepth 100000 in
theorem fl_ar : ∀ i, i < 9 → Cond.arrayOf (.field (tmS i) "java/lang/String" "value" "[B") .byte ∈ FL := by decide +kernel
set_option maxRecDepth 100000 in
theorem fl_le : ∀ i, i < 9 → Cond.eq (.length (.field (tmS i) "java/lang/String" "value" "[B")) (.int (Int32.ofNat (txL.getD i 0))) ∈ FL := by decide +kernel
set_option maxRecDepth 100000 in
theorem fl_el : ∀ i, i < 9 → ∀ j, j < txL.getD i 0 → Cond.eq (.elem (.field (tmS i) "java/lang/String" "value" "[B") (.int (Int32.ofNat j))) (.int ((txB.getD i []).getD j 0)) ∈ FL := by decide +kernel
set_option maxRecDepth 100000 in
theorem fl_ne : ∀ i, i < 9 → ∀ j, j < 9 → i ≠ j → Cond.not (Cond.eq (tmS i) (tmS j)) ∈ FL ∨ Cond.not (Cond.eq (tmS j) (tmS i)) ∈ FL := by decide +kernel
set_option maxRecDepth 100000 in
theorem fl_ka : Cond.arrayOf (.static "MillOfDistances" "KIND_ABOVE" "[I") .int ∈ FL ∧ Cond.eq (.length (.static "MillOfDistances" "KIND_ABOVE" "[I")) (.int (Int32.ofNat 7)) ∈ FL ∧ ∀ j, j < 7 → Cond.eq (.elem (.static "MillOfDistances" "KIND_ABOVE" "[I") (.int (Int32.ofNat j))) (.int (kaF j)) ∈ FL := by decide +kernel
set_option maxRecDepth 100000 in
theorem fl_nu : Cond.arrayOf (.static "MillOfDistances$MapReader" "NUMBERS" "[I") .int ∈ FL ∧ Cond.eq (.length (.static "MillOfDistances$MapReader" "NUMBERS" "[I")) (.int (Int32.ofNat 7)) ∈ FL ∧ ∀ j, j < 7 → Cond.eq (.elem (.static "MillOfDistances$MapReader" "NUMBERS" "[I") (.int (Int32.ofNat j))) (.int (nuF j)) ∈ FL := by decide +kernel
set_option maxRecDepth 100000 in
theorem fl_bo : Cond.arrayOf (.static "MillOfDistances$Doer" "BODIES" "[I") .int ∈ FL ∧ Cond.eq (.length (.static "MillOfDistances$Doer" "BODIES" "[I")) (.int (Int32.ofNat 21)) ∈ FL ∧ ∀ j, j < 21 → Cond.eq (.elem (.static "MillOfDistances$Doer" "BODIES" "[I") (.int (Int32.ofNat j))) (.int (boF j)) ∈ FL := by decide +kernel
set_option maxRecDepth 100000 in
theorem fl_st : Cond.eq (.static "java/lang/String" "COMPACT_STRINGS" "Z") (.int 1) ∈ FL ∧ Cond.isRef (.static "jdk/internal/util/Preconditions" "SIOOBE_FORMATTER" "Ljava/util/function/BiFunction;") ∈ FL ∧ Cond.eq (tmS 0) (.string "MillOfDistancesModel" 144) ∈ FL ∧ Cond.eq (tmS 1) (.string "MillOfDistancesModel" 149) ∈ FL ∧ Cond.eq (tmS 2) (.string "MillOfDistancesModel" 155) ∈ FL ∧ Cond.eq (tmS 5) (.string "MillOfDistancesModel" 163) ∈ FL ∧ Cond.eq (tmS 4) (.string "MillOfDistancesModel" 174) ∈ FL := by decide +kernel
theorem start_stt {s : State} {args : Array Value} {A : Nat → Prop} (hts : ∀ w ∈ lw_tbl, w.before args s = true) (hgv : (Jvm.Cond.and given_1 narrow_1).before args s = true) (hA : ∀ a : Nat, a < s.heap.size → ¬ A a) : ∃ g2 : (Nat → Nat) × (Nat → Nat) × (Nat → Nat), ∀ g1, Stt A (g1, g2) s s.heap := by
  have hfl : ∀ w ∈ FL, w.before args s = true := flat_of_before _ hgv
  obtain ⟨ka, hka, hkT⟩ := va_Tof (A := A) (f := fun j => .int (kaF j)) (N := 7) (by decide) (hfl _ fl_ka.1) (va_eqt (hfl _ fl_ka.2.1)) (fun j hj => va_eqt (hfl _ (fl_ka.2.2 j hj))) hA
  obtain ⟨nu, hnu, hnT⟩ := va_Tof (A := A) (f := fun j => .int (nuF j)) (N := 7) (by decide) (hfl _ fl_nu.1) (va_eqt (hfl _ fl_nu.2.1)) (fun j hj => va_eqt (hfl _ (fl_nu.2.2 j hj))) hA
  obtain ⟨bo, hbo, hbT⟩ := va_Tof (A := A) (f := fun j => .int (boF j)) (N := 21) (by decide) (hfl _ fl_bo.1) (va_eqt (hfl _ fl_bo.2.1)) (fun j hj => va_eqt (hfl _ (fl_bo.2.2 j hj))) hA
  obtain ⟨adK, adV, hS, hE⟩ := vk_Sof (A := A) (N := 9) (tm := tmS) (len := txL) (byt := txB) (fun i hi => (show ∀ i, i < 9 → txL.getD i 0 < 2 ^ 31 by decide) i hi) (fun i hi => hfl _ (fl_ex i hi)) (fun i hi => hfl _ (fl_co i hi)) (fun i hi => hfl _ (fl_ar i hi)) (fun i hi => hfl _ (fl_le i hi)) (fun i hi j hj => hfl _ (fl_el i hi j hj)) (fun i j hi hj hij => (fl_ne i hi j hj hij).imp (hfl _) (hfl _)) hA
  obtain ⟨ec, ef, e0, e1, e2, e5, e4⟩ := fl_st
  refine ⟨(fun i => if i = 0 then ka else if i = 1 then nu else bo, adK, adV), fun g1 => ⟨⟨⟨va_Zref (hts _ mw_336) (hts _ mw_69) hka hA, hkT⟩, ⟨va_Zref (hts _ mw_425) (hts _ mw_72) hnu hA, hnT⟩, ⟨va_Zref (hts _ mw_818) (hts _ mw_73) hbo hA, hbT⟩, hS, va_Zof (hts _ mw_449) (hts _ mw_80) (va_eqi (hfl _ ec)) hA, va_Zqof (hts _ mw_469) (hts _ mw_82) (hfl _ ef) hA⟩, ?_⟩⟩
  exact ⟨vk_R.of (hts _ mw_429) (hE 0 (by decide)), vk_R.of (hts _ mw_430) (hE 1 (by decide)), vk_R.of (hts _ mw_431) (hE 2 (by decide)), vk_R.of (hts _ mw_432) (hE 3 (by decide)), vk_R.of (hts _ mw_433) (hE 4 (by decide)), vk_R.of (hts _ mw_434) (hE 5 (by decide)), vk_R.of (hts _ mw_435) (hE 6 (by decide)), vk_R.of (hts _ mw_1043) (va_eqR (hfl _ e0) (hE 0 (by decide))), vk_R.of (hts _ mw_1062) (va_eqR (hfl _ e1) (hE 1 (by decide))), vk_R.of (hts _ mw_1067) (va_eqR (hfl _ e2) (hE 2 (by decide))), vk_R.of (hts _ mw_1077) (hE 7 (by decide)), vk_R.of (hts _ mw_1078) (va_eqR (hfl _ e5) (hE 5 (by decide))), vk_R.of (hts _ mw_1079) (hE 8 (by decide)), vk_R.of (hts _ mw_1097) (va_eqR (hfl _ e4) (hE 4 (by decide))), va_Nw.of rfl (hts _ mw_335), va_Nw.of rfl (hts _ mw_736), va_Nw.of rfl (hts _ mw_816), va_Nw.of rfl (hts _ mw_819)⟩
theorem start_nws {s : State} {args : Array Value} (hts : ∀ w ∈ lw_tbl, w.before args s = true) : Nws s := ⟨va_Nw.of rfl (hts _ mw_94), va_Nw.of rfl (hts _ mw_132), va_Nw.of rfl (hts _ mw_147), va_Nw.of rfl (hts _ mw_167), va_Nw.of rfl (hts _ mw_189), va_AO.of (hts _ mw_144)⟩
theorem start_k {s : State} {args : Array Value} (hts : ∀ w ∈ lw_tbl, w.before args s = true) : ∃ (D : va_G) (g1 : ClassId × ClassId × ClassId), ∀ g2, va_K D vwCl (tysG (g1, g2)) s := by
  have hgw : ∀ w ∈ gw, w.before args s = true := fun w h => hts w (List.mem_filter.mp h).1
  obtain ⟨c0, i0, h0⟩ := u_known (C := RX0) (T := TX0) (N := 5) hgw hin_Doer (hts _ mw_166)
  obtain ⟨c1, i1, h1⟩ := u_known (C := RX1) (T := TX1) (N := 7) hgw hin_Land (hts _ mw_93)
  obtain ⟨c2, i2, h2⟩ := u_known (C := RX2) (T := TX2) (N := 2) hgw hin_Len (hts _ mw_131)
  obtain ⟨c3, i3, h3⟩ := u_known (C := RX3) (T := TX3) (N := 4) hgw hin_Reader (hts _ mw_146)
  obtain ⟨c4, i4, h4⟩ := u_known (C := RX4) (T := TX4) (N := 4) hgw hin_Shelf (hts _ mw_188)
  obtain ⟨c5, i5, h5⟩ := u_known (C := RX5) (T := TX5) (N := 10) hgw hin_Main (hts _ mw_85)
  obtain ⟨c6, i6, h6⟩ := u_known (C := RX6) (T := TX6) (N := 22) hgw hin_Model (hts _ mw_859)
  obtain ⟨cI, kI, pI, a1, a2, a3⟩ := Cond.arrayClass_spec (type := .int) (hts _ mw_129)
  obtain ⟨cJ, kJ, pJ, b1, b2, b3⟩ := Cond.arrayClass_spec (type := .long) (hts _ mw_211)
  obtain ⟨pO, cO, kO, d1, d2, d3, d4, d5⟩ := Cond.arrayOver_spec (n := "MillOfDistances$Shelf") (hts _ mw_144)
  refine ⟨(fun k => [c0, c1, c2, c3, c4, c5, c6].getD k c0, fun k => [i0, i1, i2, i3, i4, i5, i6].getD k i0), (cI, cJ, cO), fun g2 => ⟨fun k q hq => ?_, fun k q hq => ?_⟩⟩
  · match k, hq with
    | 0, hq => cases hq; exact h0
    | 1, hq => cases hq; exact h1
    | 2, hq => cases hq; exact h2
    | 3, hq => cases hq; exact h3
    | 4, hq => cases hq; exact h4
    | 5, hq => cases hq; exact h5
    | 6, hq => cases hq; exact h6
    | k + 7, hq => simp [vwCl] at hq
  · match k, hq with
    | 0, hq => cases hq; exact ⟨fun n z => ⟨fun k h => (by cases h), kI, a2, pI, a3⟩, a1⟩
    | 1, hq => cases hq; exact ⟨fun n z => ⟨fun k h => (by cases h), kJ, b2, pJ, b3⟩, b1⟩
    | 2, hq => cases hq; exact ⟨fun n z => ⟨fun k h => (by cases h), kO, d3, pO, d4⟩, kO, pO, d3, d4, d1, d5⟩
    | k + 3, hq => simp [tysG] at hq
/-- the memory behind the constructors -/
def tI : Mem := (fun o => if o = 1 then (fun j => if j = 6 then 1 else 0) else if o = 2 then (fun j => if j = 6 then 1 else 0) else if o = 3 then (fun j => if j = 6 then 1 else 0) else if 18 ≤ o ∧ o < 26 then (fun j => if j = 2 then -1 else if j = 3 then -1 else 0) else if o = 35 then (fun j => if j = 0 then -1 else 0) else (fun _ => 0), fun _ _ => 0)
def hold0 : Nat → Int32 := (upd (upd (upd (upd (upd (upd (upd (upd (fun _ => 0) ((0 : Int32).toNatClampNeg) (-1)) ((1 : Int32).toNatClampNeg) (-1)) ((2 : Int32).toNatClampNeg) (-1)) ((3 : Int32).toNatClampNeg) (-1)) ((4 : Int32).toNatClampNeg) (-1)) ((5 : Int32).toNatClampNeg) (-1)) ((6 : Int32).toNatClampNeg) (-1)) ((7 : Int32).toNatClampNeg) (-1))
def uI0 : Mem := (fun o => if o = 39 then (fun j => if j = 9 then 1 else if j = 10 then -1 else 0) else if o = 40 then hold0 else (fun _ => 0), fun _ _ => 0)
theorem g_of_gn {p : Program} {l : Launch} {e : Env} {R : Room} {s : State} {m : MethodId} {args : Array Value} {below : List Frame} {meth : Method} {c : Code} {Q : State → Prop} {A : Nat → Prop} {nL k n : Nat} {D : va_G} {g : Gv} {ad : Nat → Nat} {t u : Mem} {ws : va_W} {lv : List (Nat × Value)} {pc : Nat} {st : List Value} (he : ws = wsA ad g t u) (h : Jad ad → (∀ i, i < 53 → A (ad i)) → G (p, l, e, R, s, m, args, below, meth, c, Q, A, nL, k, n) D ad g t u lv pc st) : GN (p, l, e, R, s, m, args, below, meth, c, Q, A, nL, 0, 0) D ws lv pc st k n := by
  subst he
  intro H locs ls hl hP hD hS
  have key : ∀ i, i < 53 → ∃ x, (wsA ad g t u)[i]? = some (ad i, x) := by
    intro i hi
    have h1 : ((wsA ad g t u).map Prod.fst)[i]? = some (ad i) := by rw [wsA_fst, List.getElem?_map, List.getElem?_range hi]; rfl
    rw [List.getElem?_map] at h1
    cases h2 : (wsA ad g t u)[i]? with
    | none => rw [h2] at h1; cases h1
    | some q => rw [h2] at h1; exact ⟨q.2, by rw [← Option.some.inj h1]⟩
  refine h (fun i j hi hj hij => ?_) (fun i hi => ?_) H locs ls hl hP hS
  · obtain ⟨x, hx⟩ := key i hi
    obtain ⟨y, hy⟩ := key j hj
    exact hD.1 i j _ _ hx hy hij
  · obtain ⟨x, hx⟩ := key i hi
    exact hD.2 i _ hx
section NL
def FNL (X : Cx) (l0 : Launch) (D : va_G) (g : Gv) (cc : ByteArray) (own : String) (mc ms d N : Nat) : Prop :=
  match X with
  | (p, l, _, R, s, m, args, _, meth, c, _, A, nL, _, _) => p.tables.exec = Jvm.exec ∧ c.code = cc ∧ c.maxLocals = nL ∧ s.vm.findClass own = some m.cls ∧ (∀ w ∈ gw, w.before args s = true) ∧ va_K D vwCl (tysG g) s ∧ (∀ q, s.heap.size ≤ q → A q) ∧ (mc ≤ R.cells ∧ ms ≤ R.slots ∧ d ≤ R.frames ∧ 64 * d ≤ R.locals) ∧ nL = N ∧ l = l0 ∧ Nws s
variable {X : Cx} {l0 : Launch} {D : va_G} {g : Gv} {cc : ByteArray} {own : String} {mc ms d N k n k' n' : Nat} {ws ws' : va_W} {lv lv' : List (Nat × Value)} {pc q tgt : Nat} {st : List Value}
theorem nl_iconst {i : Int} {v : Int32} (F : FNL X l0 D g cc own mc ms d N) (hd : Dq cc pc (.iconst i) 1 q) (hv : Int32.ofInt i = v) (K : GN X D ws lv q (.int v :: st) k n) : GN X D ws lv pc (st) k n := by
  obtain ⟨p, l, e, R, s, m, args, below, meth, c, Q, A, nL, cells, slots⟩ := X
  obtain ⟨hd, rfl⟩ := hd
  obtain ⟨hx, hb, hml, hown, hts, hK, hA, hR, hnN, hll, hNw⟩ := F
  exact fun H locs ls hl hP hD hS => lv_iconst hx hb hd hv (K H locs ls hl hP hD hS)
theorem nl_dup {v : Value} (F : FNL X l0 D g cc own mc ms d N) (hd : Dq cc pc (.dup) 1 q) (hv : v.category = 1) (K : GN X D ws lv q (v :: v :: st) k n) : GN X D ws lv pc (v :: st) k n := by
  obtain ⟨p, l, e, R, s, m, args, below, meth, c, Q, A, nL, cells, slots⟩ := X
  obtain ⟨hd, rfl⟩ := hd
  obtain ⟨hx, hb, hml, hown, hts, hK, hA, hR, hnN, hll, hNw⟩ := F
  exact fun H locs ls hl hP hD hS => lv_dup hx hb hd hv (K H locs ls hl hP hD hS)
theorem nl_istore_n {kk : Fin 4} {x : Int32} (F : FNL X l0 D g cc own mc ms d N) (hd : Dq cc pc (.istore_n kk) 1 q) (hn : (kk : Nat) < N) (he : ((kk : Nat), Value.int x) :: lv.filter (fun q => !(q.1 == (kk : Nat)) && !(q.1 + 1 == (kk : Nat) && q.2.category == 2)) = lv') (K : GN X D ws lv' q st k n) : GN X D ws lv pc (.int x :: st) k n := by
  obtain ⟨p, l, e, R, s, m, args, below, meth, c, Q, A, nL, cells, slots⟩ := X
  obtain ⟨hd, rfl⟩ := hd
  obtain ⟨hx, hb, hml, hown, hts, hK, hA, hR, hnN, hll, hNw⟩ := F
  subst hnN
  exact fun H locs ls hl hP hD hS => lv_istore_n hx hb hd rfl hl hn he (fun ls hl => K H locs ls hl hP hD hS)
theorem nl_astore_n {kk : Fin 4} {x : Nat} (F : FNL X l0 D g cc own mc ms d N) (hd : Dq cc pc (.astore_n kk) 1 q) (hn : (kk : Nat) < N) (he : ((kk : Nat), Value.ref x) :: lv.filter (fun q => !(q.1 == (kk : Nat)) && !(q.1 + 1 == (kk : Nat) && q.2.category == 2)) = lv') (K : GN X D ws lv' q st k n) : GN X D ws lv pc (.ref x :: st) k n := by
  obtain ⟨p, l, e, R, s, m, args, below, meth, c, Q, A, nL, cells, slots⟩ := X
  obtain ⟨hd, rfl⟩ := hd
  obtain ⟨hx, hb, hml, hown, hts, hK, hA, hR, hnN, hll, hNw⟩ := F
  subst hnN
  exact fun H locs ls hl hP hD hS => lv_astore_n hx hb hd rfl hl hn he (fun ls hl => K H locs ls hl hP hD hS)
theorem nl_new {ci Nf idx : Nat} {C : String} {T : u_T} {fs : List Value} (F : FNL X l0 D g cc own mc ms d N) (hcw : Cond.classLink own idx C ∈ gw) (hi : Cond.instantiable C Nf ∈ gw) (hini : Cond.initialized C ∈ gw) (hin9 : ∀ w ∈ u_ws C T Nf, w ∈ gw) (ty : Nat → FieldType) (hty : ∀ k, k < Nf → parseFieldDescriptor (T k).2.2.1 = some (ty k)) (hc : vwCl[ci]? = some (C, T, Nf)) (hfs : ∀ j, j < Nf → defaultValue (ty j) = vp_V fs j) (hd : Dq cc pc (.new idx) 3 q) (hk : k + 1 ≤ mc) (hn : n + Nf ≤ ms) (K : ∀ a, GN X D (ws ++ [(a, .inr (ci, fs))]) lv q (.ref a :: st) (k + 1) (n + Nf)) : GN X D ws lv pc st k n := by
  obtain ⟨p, l, e, R, s, m, args, below, meth, c, Q, A, nL, cells, slots⟩ := X
  obtain ⟨hd, rfl⟩ := hd
  obtain ⟨hx, hb, hml, hown, hts, hK, hA, hR, hnN, hll, hNw⟩ := F
  intro H locs ls hv hP hD hS
  exact va_new (ci := ci) (fs := fs) (C := C) (T := T) (N := Nf) hx hb hts hin9 ty hty hown (hts _ hcw) (hts _ hi) (hts _ hini) hK hP hD hS hA hc hfs (Nat.le_trans hk hR.1) (Nat.le_trans hn hR.2.1) hd (fun a H1 hP1 hD1 hS1 => K a H1 locs ls hv hP1 hD1 hS1)
theorem nl_callI {y : MethodName} {ccy : ByteArray} {nLy dd idx b mc' ms' : Nat} {wc wr : va_W} {W1 : (Nat → Nat) → va_W} (F : FNL X l0 D g cc own mc ms d N) (hm : MN y ccy nLy) (hl : Cond.methodLink own idx y ∈ gw) (hd : Dq cc pc (.invokespecial idx) 3 q) (isC isR : List Nat) (hCc : isC.map (fun i => ws[i]?) = wc.map some) (hRr : isR.map (fun i => ws[i]?) = wr.map some) (hnd : va_nd isR = true) (hdis : ∀ i ∈ isR, i ∉ isC) (hC : ConN l0 y ccy nLy dd mc' ms' b wc W1 D g) (hndc : va_nd isC = true) (hR9 : dd + 1 ≤ d) (hrs : (st.map fun v => v.category).sum ≤ 8) (hk : k + mc' ≤ mc) (hn : n + ms' ≤ ms) (K : ∀ a, GN X D (wr ++ W1 a) lv q st (k + mc') (n + ms')) : GN X D ws lv pc (.ref b :: st) k n := by
  obtain ⟨p, l, e, R, s, m, args, below, meth, c, Q, A, nL, cells, slots⟩ := X
  obtain ⟨hd, rfl⟩ := hd
  obtain ⟨hx, hb, hml, hown, hts, hK, hA, hR, hnN, hll, hNw⟩ := F
  subst hll
  intro H locs ls hv hP hD hS
  have hsubC : isC.filterMap (fun i => ws[i]?) = wc := by
    have h2 := congrArg (List.filterMap id) hCc
    simpa [List.filterMap_map, Function.comp_def] using h2
  have hPc := hP.sub isC hsubC
  have hDc := hD.sub isC hndc hCc
  have hFc := va_free (wc := wc) hD hS hA isC hCc
  refine va_callv (va_runI (Ts := gw) (As := []) (rest := st) ⟨hx, hb, hml, hown, hts⟩ (hC H.size) (cwI 0 hts (good_of_mem (in_wsI hm.1)) rfl rfl rfl (hts _ hm.2.2.1) (hts _ hl) (hts _ hm.2.1) hm.2.2.2.2.1 hm.2.2.2.1 (rooN hm.2.2.2.2.2 hR9 ⟨hR.2.2.1, hR.2.2.2⟩)) ⟨preN_blind, fun U hU hW => ⟨rfl, by rw [hU], by rw [hU]; exact hPc, va_K.moved hW.alike hK, hDc.weaken (fun _ _ _ _ => trivial), Nws.warm hW hNw⟩⟩ rfl rfl (show ls.size = nL from hv.1) rfl (lv_room hrs) hd ⟨Nat.le_trans hk hR.1, Nat.le_trans hn hR.2.1⟩) hS (fun q _ h => hFc q h) hFc (fun a T H1 locs1 hT hvm hw hB hz1 hk1 hS1 => ?_)
  obtain ⟨hP1, hD1⟩ := hB
  rw [hT] at hP1
  obtain ⟨hP, hD⟩ := va_join (wr := wr) (w1 := W1 a) hP hD isC isR hCc hRr hnd hdis hk1 hFc hP1 hD1
  exact K a H1 locs1 ls hv hP hD hS1
end NL
set_option maxRecDepth 20000 in
set_option maxHeartbeats 4000000 in
theorem whole_from {Rl : Mem → Mem → Prop} {nf : Nat} (hs : StpAll Rl nf) (h0 : Rl tI uI0) {p : Program} {e : Env} {s : State} {m : MethodId} {below : List Frame} {meth : Method} {c : Code} (l : Launch) {b L : Nat} {xs : Nat → Int32} (hL : L ≤ 3072) (C0 : lw_At p s m meth c b L xs) : W p l e room_1 s m #[Value.ref b] below meth c s.heap [] 0 0 (lw_Z below #[Value.ref b] s) (entryFrame m ([Value.ref b] : List Value).toArray 4) := by
  obtain ⟨hx, hb, hr, hml, hown, hts, hX, hbl, hlocks, hgv⟩ := id C0
  have hA0 : ∀ a : Nat, a < s.heap.size → ¬ (fun q : Nat => s.heap.size ≤ q) a := fun a h => Nat.not_le.mpr h
  obtain ⟨g2, hSt⟩ := start_stt (A := fun q : Nat => s.heap.size ≤ q) hts hgv hA0
  obtain ⟨D, g1, hK⟩ := start_k hts
  have hSt := hSt g1
  have hK := hK g2
  generalize hg : (g1, g2) = g at hSt hK
  have hgw : ∀ w ∈ gw, w.before #[Value.ref b] s = true := fun w h => hts w (List.mem_filter.mp h).1
  have F : FNL (p, l, e, room_1, s, m, #[Value.ref b], below, meth, c, lw_Z below #[Value.ref b] s, fun q : Nat => s.heap.size ≤ q, 4, 0, 0) l D g code "MillOfDistancesLaw" 600000 7302250 1000 4 := ⟨hx, hb, hml, hown, hgw, hK, fun _ h => h, ⟨Nat.le_refl _, Nat.le_refl _, by decide, by decide⟩, rfl, rfl, start_nws hts⟩
  have key : GN (p, l, e, room_1, s, m, #[Value.ref b], below, meth, c, lw_Z below #[Value.ref b] s, fun q : Nat => s.heap.size ≤ q, 4, 0, 0) D [] [(0, .ref b)] 0 [] 0 0 := by
    refine nl_new (ci := 5) (fs := [.null, .null, .null, .null, .null, .null, .null, .null, .null, .int 0]) (C := RX5) (T := TX5) (Nf := 10) F (gm mw_84 rfl) (gm mw_85 rfl) (gm mw_69 rfl) hin_Main tyX5 tyX5_ok rfl (fun j hj => by rcases (show j = 0 ∨ j = 1 ∨ j = 2 ∨ j = 3 ∨ j = 4 ∨ j = 5 ∨ j = 6 ∨ j = 7 ∨ j = 8 ∨ j = 9 by omega) with rfl | rfl | rfl | rfl | rfl | rfl | rfl | rfl | rfl | rfl <;> rfl) (dAt dkL_0 0 rfl) (by omega) (by omega) (fun q5 => ?_)
    refine n_ws (ws' := [(q5, .inr (5, [.null, .null, .null, .null, .null, .null, .null, .null, .null, .int 0]))]) rfl ?_
    refine nl_dup F (dAt dkL_0 1 rfl) rfl ?_
    refine nl_callI (wc := [(q5, .inr (5, [.null, .null, .null, .null, .null, .null, .null, .null, .null, .int 0]))]) (wr := []) F mn_X5_init (gm mw_86 rfl) (dAt dkL_0 2 rfl) [0] [] rfl rfl (by decide) (by decide) (cn_X5_init q5) (by decide) (by decide) (Nat.le_of_ble_eq_true rfl) (by omega) (by omega) (fun a => ?_)
    refine n_ws (ws' := W1_X5_init g q5 a) rfl ?_
    refine nl_astore_n (lv' := [(1, .ref q5), (0, .ref b)]) F (dAt dkL_0 3 rfl) (by decide) rfl ?_
    refine nl_new (ci := 6) (fs := [.null, .null, .null, .int 0, .null, .null, .null, .int 0, .int 0, .int 0, .int 0, .null, .int 0, .null, .int 0, .null, .null, .int 0, .int 0, .null, .null, .null]) (C := RX6) (T := TX6) (Nf := 22) F (gm mw_858 rfl) (gm mw_859 rfl) (gm mw_75 rfl) hin_Model tyX6 tyX6_ok rfl (fun j hj => by rcases (show j = 0 ∨ j = 1 ∨ j = 2 ∨ j = 3 ∨ j = 4 ∨ j = 5 ∨ j = 6 ∨ j = 7 ∨ j = 8 ∨ j = 9 ∨ j = 10 ∨ j = 11 ∨ j = 12 ∨ j = 13 ∨ j = 14 ∨ j = 15 ∨ j = 16 ∨ j = 17 ∨ j = 18 ∨ j = 19 ∨ j = 20 ∨ j = 21 by omega) with rfl | rfl | rfl | rfl | rfl | rfl | rfl | rfl | rfl | rfl | rfl | rfl | rfl | rfl | rfl | rfl | rfl | rfl | rfl | rfl | rfl | rfl <;> rfl) (dAt dkL_0 4 rfl) (by omega) (by omega) (fun q6 => ?_)
    refine n_ws (ws' := W1_X5_init g q5 a ++ [(q6, .inr (6, [.null, .null, .null, .int 0, .null, .null, .null, .int 0, .int 0, .int 0, .int 0, .null, .int 0, .null, .int 0, .null, .null, .int 0, .int 0, .null, .null, .null]))]) rfl ?_
    refine nl_dup F (dAt dkL_0 5 rfl) rfl ?_
    refine nl_callI (wc := [(q6, .inr (6, [.null, .null, .null, .int 0, .null, .null, .null, .int 0, .int 0, .int 0, .int 0, .null, .int 0, .null, .int 0, .null, .null, .int 0, .int 0, .null, .null, .null]))]) (wr := W1_X5_init g q5 a) F mn_X6_init (gm mw_860 rfl) (dAt dkL_0 6 rfl) [39] [0, 1, 2, 3, 4, 5, 6, 7, 8, 9, 10, 11, 12, 13, 14, 15, 16, 17, 18, 19, 20, 21, 22, 23, 24, 25, 26, 27, 28, 29, 30, 31, 32, 33, 34, 35, 36, 37, 38] rfl rfl (by decide) (by decide) (cn_X6_init q6) (by decide) (by decide) (Nat.le_of_ble_eq_true rfl) (by omega) (by omega) (fun a6 => ?_)
    refine nl_astore_n (lv' := [(2, .ref q6), (1, .ref q5), (0, .ref b)]) F (dAt dkL_0 7 rfl) (by decide) rfl ?_
    refine nl_iconst (v := 0) F (dAt dkL_0 8 rfl) (by decide) ?_
    refine nl_istore_n (lv' := [(3, .int 0), (2, .ref q6), (1, .ref q5), (0, .ref b)]) F (dAt dkL_0 9 rfl) (by decide) rfl ?_
    refine n_sub (lv' := [(0, .ref b), (1, .ref q5), (2, .ref q6), (3, .int (nI 0))]) [3, 2, 1, 0] rfl ?_
    refine n_arrq (q0 := 17) (f' := fun j => some (([q5, a 1, a 2, a 3, a 4, a 5, a 6, a 7, a 8, a 9, a 10, a 11, a 12, a 13, a 14, a 15, a 16, a 17, a 18, a 19, a 20, a 21, a 22, a 23, a 24, a 25, a 26, a 27, a 28, a 29, a 30, a 31, a 32, a 33, a 34, a 35, a 36, a 37, a 38, q6, a6 1, a6 2, a6 3, a6 4, a6 5, a6 6, a6 7, a6 8, a6 9, a6 10, a6 11, a6 12, a6 13] : List Nat).getD (18 + j) 0)) rfl rfl (fun j hj => ?_) ?_
    · rcases (show j = 0 ∨ j = 1 ∨ j = 2 ∨ j = 3 ∨ j = 4 ∨ j = 5 ∨ j = 6 ∨ j = 7 by omega) with rfl | rfl | rfl | rfl | rfl | rfl | rfl | rfl <;> rfl
    refine g_of_gn (g := g) (ad := fun i => ([q5, a 1, a 2, a 3, a 4, a 5, a 6, a 7, a 8, a 9, a 10, a 11, a 12, a 13, a 14, a 15, a 16, a 17, a 18, a 19, a 20, a 21, a 22, a 23, a 24, a 25, a 26, a 27, a 28, a 29, a 30, a 31, a 32, a 33, a 34, a 35, a 36, a 37, a 38, q6, a6 1, a6 2, a6 3, a6 4, a6 5, a6 6, a6 7, a6 8, a6 9, a6 10, a6 11, a6 12, a6 13] : List Nat).getD i 0) (t := tI) (u := uI0) rfl (fun hJ hAw => ?_)
    refine law_loop (b := b) (L := L) (xs := xs) (l0 := l) (g := g) ⟨hx, hb, hml, hown, hgw, hK, hJ, hSt, fun _ h => h, hAw, ⟨Nat.le_of_ble_eq_true rfl, Nat.le_of_ble_eq_true rfl, Nat.le_of_ble_eq_true rfl, Nat.le_of_ble_eq_true rfl⟩, rfl, rfl⟩ ⟨hX, hbl, hA0 b hbl⟩ hJ hL hs (fun {t u lv} => ?_) 600 tI uI0 0 (by omega) (by omega) h0
    intro H locs ls hl hP hS
    refine va_forget (fun q hq => hS.2.2 q hq) ?_
    refine W.widen (k := 600000) (n := 7302250) (by omega) (by omega) ?_
    exact lw_ret hx hb hr hlocks (dAt dkL_37 0 rfl).1
  rw [lg_entry_eq]
  exact key s.heap [] _ (lv_entry [Value.ref b] (Nat.le_of_ble_eq_true rfl)) (fun k q h => by simp at h) ⟨fun i j p q h => by simp at h, fun k q h => by simp at h⟩ va_S.rf
