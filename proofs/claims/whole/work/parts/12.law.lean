theorem lg_cmp_self (x : Int64) : lg_cmp x x = 0 := by
  unfold lg_cmp
  rw [if_neg (by simp), if_pos rfl]
/-! the law: its loop, over any relation that the 40 calls keep -/
section LW
variable {X : Cx} {l0 : Launch} {D : va_G} {ad : Nat → Nat} {g : Gv} {cc : ByteArray} {own : String} {d N : Nat} {t u t' : Mem} {lv lv' : List (Nat × Value)} {pc q tgt : Nat} {st rest : List Value} {Rt : Type} {Rv : Rt}
def XS (X : Cx) (b L : Nat) (xs : Nat → Int32) : Prop :=
  match X with
  | (_, _, _, _, s, _, _, _, _, _, _, A, _, _, _) => va_X b L xs s s.heap ∧ b < s.heap.size ∧ ¬ A b
theorem g_sld {b L : Nat} {xs : Nat → Int32} {i : Int32} (F : Fx X l0 D ad g cc own d N) (hX : XS X b L xs) (hd : Dq cc pc .iaload 1 q) (hi : inb i L = true) (K : G X D ad g t u lv q (.int (xs i.toNatClampNeg) :: st)) : G X D ad g t u lv pc (.int i :: .ref b :: st) := by
  obtain ⟨p, l, e, R, s, m, args, below, meth, c, Q, A, nL, cells, slots⟩ := X
  obtain ⟨hd, rfl⟩ := hd
  exact fun H locs ls hv hP hS => va_sld F.1 F.2.1 hX.1 hX.2.1 hX.2.2 hS (vp_of_inb hi) hd (K H locs ls hv hP hS)
theorem g_slen {b L : Nat} {xs : Nat → Int32} (F : Fx X l0 D ad g cc own d N) (hX : XS X b L xs) (hd : Dq cc pc .arraylength 1 q) (K : G X D ad g t u lv q (.int (nI L) :: st)) : G X D ad g t u lv pc (.ref b :: st) := by
  obtain ⟨p, l, e, R, s, m, args, below, meth, c, Q, A, nL, cells, slots⟩ := X
  obtain ⟨hd, rfl⟩ := hd
  exact fun H locs ls hv hP hS => va_slen F.1 F.2.1 hX.1 hX.2.1 hX.2.2 hS hd (K H locs ls hv hP hS)
theorem g_split {x : Int32} (v : Int32) (k1 : x = v → G X D ad g t u lv pc st) (k2 : ¬ x = v → G X D ad g t u lv pc st) : G X D ad g t u lv pc st := by
  by_cases c : x = v
  · exact k1 c
  · exact k2 c
theorem g_eqY {x : Int32} {off : Int} (F : Fx X l0 D ad g cc own d N) (hd : Dq cc pc (.if_icmp .eq off) 3 q) (ht : (pc : Int) + off = (tgt : Int)) (k : G X D ad g t u lv tgt st) : G X D ad g t u lv pc (.int x :: .int x :: st) := by
  obtain ⟨p, l, e, R, s, m, args, below, meth, c, Q, A, nL, cells, slots⟩ := X
  exact fun H locs ls hv hP hS => lv_icmp_eq F.1 F.2.1 hd.1 ht (fun _ => k H locs ls hv hP hS) (fun h => absurd rfl h)
theorem g_eq0 {off : Int} (F : Fx X l0 D ad g cc own d N) (hd : Dq cc pc (.ifCond .eq off) 3 q) (ht : (pc : Int) + off = (tgt : Int)) (k : G X D ad g t u lv tgt st) : G X D ad g t u lv pc (.int 0 :: st) := by
  obtain ⟨p, l, e, R, s, m, args, below, meth, c, Q, A, nL, cells, slots⟩ := X
  exact fun H locs ls hv hP hS => lv_if_eq F.1 F.2.1 hd.1 ht (fun _ => k H locs ls hv hP hS) (fun h => absurd rfl h)
theorem g_gtY {x y : Int32} {off : Int} (F : Fx X l0 D ad g cc own d N) (hd : Dq cc pc (.if_icmp .gt off) 3 q) (ht : (pc : Int) + off = (tgt : Int)) (hc : y < x) (k : G X D ad g t u lv tgt st) : G X D ad g t u lv pc (.int y :: .int x :: st) := by
  obtain ⟨p, l, e, R, s, m, args, below, meth, c, Q, A, nL, cells, slots⟩ := X
  exact fun H locs ls hv hP hS => lv_icmp_gt F.1 F.2.1 hd.1 ht (fun _ => k H locs ls hv hP hS) (fun h => absurd hc h)
theorem g_gtN {x y : Int32} {off : Int} (F : Fx X l0 D ad g cc own d N) (hd : Dq cc pc (.if_icmp .gt off) 3 q) (ht : (pc : Int) + off = (tgt : Int)) (hc : ¬ y < x) (k : G X D ad g t u lv q st) : G X D ad g t u lv pc (.int y :: .int x :: st) := by
  obtain ⟨p, l, e, R, s, m, args, below, meth, c, Q, A, nL, cells, slots⟩ := X
  obtain ⟨hd, rfl⟩ := hd
  exact fun H locs ls hv hP hS => lv_icmp_gt F.1 F.2.1 hd ht (fun h => absurd h hc) (fun _ => k H locs ls hv hP hS)
theorem g_callV_ic {y : MethodName} {ccy : ByteArray} {nLy n dd idx b : Nat} {ret : Option FieldType} {C : String} {r : Int32} (F : Fx X l0 D ad g cc own d N) (hm : MI y ccy nLy ret C n) (hl : Cond.methodLink own idx y ∈ gw) (hd : Dq cc pc (.invokevirtual idx) 3 q) (hrc : RcX X D ad g t u b C) (As : List Value) (hst : st = As.reverse ++ .ref b :: rest) (hn : As.length = n) (hR : dd + 1 ≤ d) (hrs : (rest.map fun v => v.category).sum ≤ 8) (hC : ConI l0 y ccy nLy ret dd (.ref b :: As) D ad g t u t' u r) (k : G X D ad g t' u lv q (.int r :: rest)) : G X D ad g t u lv pc st :=
  g_invV_ic (fo := some (r, t')) (K := fun r t => some (r, t)) (Rv := (r, t')) F hm hl hd hrc As hst hn hR hrs rfl (fun r1 t1 h1 => by cases h1; exact hC) (fun r1 t1 h1 => by cases h1; exact k)
theorem g_callV_im {y : MethodName} {ccy : ByteArray} {nLy n dd idx b : Nat} {ret : Option FieldType} {C : String} {r : Int32} (F : Fx X l0 D ad g cc own d N) (hm : MI y ccy nLy ret C n) (hl : Cond.methodLink own idx y ∈ gw) (hd : Dq cc pc (.invokevirtual idx) 3 q) (hrc : RcX X D ad g t u b C) (As : List Value) (hst : st = As.reverse ++ .ref b :: rest) (hn : As.length = n) (hR : dd + 1 ≤ d) (hrs : (rest.map fun v => v.category).sum ≤ 8) (hC : ConI l0 y ccy nLy ret dd (.ref b :: As) D ad g t u t t' r) (k : G X D ad g t t' lv q (.int r :: rest)) : G X D ad g t u lv pc st :=
  g_invV_im (fo := some (r, t')) (K := fun r t => some (r, t)) (Rv := (r, t')) F hm hl hd hrc As hst hn hR hrs rfl (fun r1 t1 h1 => by cases h1; exact hC) (fun r1 t1 h1 => by cases h1; exact k)
theorem g_callV_lc {y : MethodName} {ccy : ByteArray} {nLy n dd idx b : Nat} {ret : Option FieldType} {C : String} {r : Int64} (F : Fx X l0 D ad g cc own d N) (hm : MI y ccy nLy ret C n) (hl : Cond.methodLink own idx y ∈ gw) (hd : Dq cc pc (.invokevirtual idx) 3 q) (hrc : RcX X D ad g t u b C) (As : List Value) (hst : st = As.reverse ++ .ref b :: rest) (hn : As.length = n) (hR : dd + 1 ≤ d) (hrs : (rest.map fun v => v.category).sum ≤ 8) (hC : ConL l0 y ccy nLy ret dd (.ref b :: As) D ad g t u t' u r) (k : G X D ad g t' u lv q (.long r :: rest)) : G X D ad g t u lv pc st :=
  g_invV_lc (fo := some (r, t')) (K := fun r t => some (r, t)) (Rv := (r, t')) F hm hl hd hrc As hst hn hR hrs rfl (fun r1 t1 h1 => by cases h1; exact hC) (fun r1 t1 h1 => by cases h1; exact k)
theorem g_callV_lm {y : MethodName} {ccy : ByteArray} {nLy n dd idx b : Nat} {ret : Option FieldType} {C : String} {r : Int64} (F : Fx X l0 D ad g cc own d N) (hm : MI y ccy nLy ret C n) (hl : Cond.methodLink own idx y ∈ gw) (hd : Dq cc pc (.invokevirtual idx) 3 q) (hrc : RcX X D ad g t u b C) (As : List Value) (hst : st = As.reverse ++ .ref b :: rest) (hn : As.length = n) (hR : dd + 1 ≤ d) (hrs : (rest.map fun v => v.category).sum ≤ 8) (hC : ConL l0 y ccy nLy ret dd (.ref b :: As) D ad g t u t t' r) (k : G X D ad g t t' lv q (.long r :: rest)) : G X D ad g t u lv pc st :=
  g_invV_lm (fo := some (r, t')) (K := fun r t => some (r, t)) (Rv := (r, t')) F hm hl hd hrc As hst hn hR hrs rfl (fun r1 t1 h1 => by cases h1; exact hC) (fun r1 t1 h1 => by cases h1; exact k)
end LW
def Stp0 (Rl : Mem → Mem → Prop) (n : Nat) : Prop := ∀ (t u : Mem) (x1 : Int32) (x2 : Int32) (x3 : Int32), Rl t u → ∃ r t' u', f_X5_row n x1 x2 x3 t = some (r, t') ∧ f_X6_row n x1 x2 x3 u = some (r, u') ∧ Rl t' u'
def Stp1 (Rl : Mem → Mem → Prop) (n : Nat) : Prop := ∀ (t u : Mem) (x1 : Int32) (x2 : Int32) (x3 : Int64), Rl t u → ∃ r t' u', f_X5_set x1 x2 x3 t = some (r, t') ∧ f_X6_set x1 x2 x3 u = some (r, u') ∧ Rl t' u'
def Stp2 (Rl : Mem → Mem → Prop) (n : Nat) : Prop := ∀ (t u : Mem) (x1 : Int32) (x2 : Int32) (x3 : Int32) (x4 : Int32) (x5 : Int32), Rl t u → ∃ r t' u', f_X5_copy x1 x2 x3 x4 x5 t = some (r, t') ∧ f_X6_copy n x1 x2 x3 x4 x5 u = some (r, u') ∧ Rl t' u'
def Stp3 (Rl : Mem → Mem → Prop) (n : Nat) : Prop := ∀ (t u : Mem) (x1 : Int32) (x2 : Int32), Rl t u → ∃ r t' u', f_X5_element x1 x2 t = some (r, t') ∧ f_X6_element x1 x2 u = some (r, u') ∧ Rl t' u'
def Stp4 (Rl : Mem → Mem → Prop) (n : Nat) : Prop := ∀ (t u : Mem) (x1 : Int32) (x2 : Int32), Rl t u → ∃ r t' u', f_X5_show x1 x2 t = some (r, t') ∧ f_X6_show x1 x2 u = some (r, u') ∧ Rl t' u'
def Stp5 (Rl : Mem → Mem → Prop) (n : Nat) : Prop := ∀ (t u : Mem) (x1 : Int32), Rl t u → ∃ r t' u', f_X5_holds x1 t = some (r, t') ∧ f_X6_holds x1 u = some (r, u') ∧ Rl t' u'
def Stp6 (Rl : Mem → Mem → Prop) (n : Nat) : Prop := ∀ (t u : Mem) (x1 : Int32) (x2 : Int32), Rl t u → ∃ r t' u', f_X5_says n x1 x2 t = some (r, t') ∧ f_X6_says n x1 x2 u = some (r, u') ∧ Rl t' u'
def Stp7 (Rl : Mem → Mem → Prop) (n : Nat) : Prop := ∀ (t u : Mem) (x1 : Int32) (x2 : Int32), Rl t u → ∃ r t' u', f_X5_place x1 x2 t = some (r, t') ∧ f_X6_place n x1 x2 u = some (r, u') ∧ Rl t' u'
def Stp8 (Rl : Mem → Mem → Prop) (n : Nat) : Prop := ∀ (t u : Mem) (x1 : Int32) (x2 : Int32), Rl t u → ∃ r t' u', f_X5_placeOf n x1 x2 t = some (r, t') ∧ f_X6_placeOf n x1 x2 u = some (r, u') ∧ Rl t' u'
def Stp9 (Rl : Mem → Mem → Prop) (n : Nat) : Prop := ∀ (t u : Mem) (x1 : Int32) (x2 : Int32) (x3 : Int32), Rl t u → ∃ r t' u', f_X5_road x1 x2 x3 t = some (r, t') ∧ f_X6_road x1 x2 x3 u = some (r, u') ∧ Rl t' u'
def Stp10 (Rl : Mem → Mem → Prop) (n : Nat) : Prop := ∀ (t u : Mem) (x1 : Int32) (x2 : Int32), Rl t u → ∃ r t' u', f_X5_miles x1 x2 t = some (r, t') ∧ f_X6_miles x1 x2 u = some (r, u') ∧ Rl t' u'
def Stp11 (Rl : Mem → Mem → Prop) (n : Nat) : Prop := ∀ (t u : Mem) (x1 : Int32) (x2 : Int32), Rl t u → ∃ r t' u', f_X5_ask x1 x2 t = some (r, t') ∧ f_X6_ask x1 x2 u = some (r, u') ∧ Rl t' u'
def Stp12 (Rl : Mem → Mem → Prop) (n : Nat) : Prop := ∀ (t u : Mem) (x1 : Int32), Rl t u → ∃ r t' u', f_X5_map n x1 t = some (r, t') ∧ f_X6_map n x1 u = some (r, u') ∧ Rl t' u'
def Stp13 (Rl : Mem → Mem → Prop) (n : Nat) : Prop := ∀ (t u : Mem), Rl t u → ∃ r t' u', f_X5_fault t = some (r, t') ∧ f_X6_fault u = some (r, u') ∧ Rl t' u'
def Stp14 (Rl : Mem → Mem → Prop) (n : Nat) : Prop := ∀ (t u : Mem) (x1 : Int32) (x2 : Int32) (x3 : Int32), Rl t u → ∃ r t' u', f_X5_cost x1 x2 x3 t = some (r, t') ∧ f_X6_cost x1 x2 x3 u = some (r, u') ∧ Rl t' u'
def Stp15 (Rl : Mem → Mem → Prop) (n : Nat) : Prop := ∀ (t u : Mem) (x1 : Int32) (x2 : Int32), Rl t u → ∃ r t' u', f_X5_yields n x1 x2 t = some (r, t') ∧ f_X6_yields n x1 x2 u = some (r, u') ∧ Rl t' u'
def Stp16 (Rl : Mem → Mem → Prop) (n : Nat) : Prop := ∀ (t u : Mem) (x1 : Int32) (x2 : Int32), Rl t u → ∃ r t' u', f_X5_away n x1 x2 t = some (r, t') ∧ f_X6_away n x1 x2 u = some (r, u') ∧ Rl t' u'
def Stp17 (Rl : Mem → Mem → Prop) (n : Nat) : Prop := ∀ (t u : Mem) (x1 : Int32) (x2 : Int32) (x3 : Int32), Rl t u → ∃ r t' u', f_X5_shortest n x1 x2 x3 t = some (r, t') ∧ f_X6_shortest n x1 x2 x3 u = some (r, u') ∧ Rl t' u'
def Stp18 (Rl : Mem → Mem → Prop) (n : Nat) : Prop := ∀ (t u : Mem) (x1 : Int32) (x2 : Int32), Rl t u → ∃ r t' u', f_X5_within n x1 x2 t = some (r, t') ∧ f_X6_within_ n x1 x2 u = some (r, u') ∧ Rl t' u'
def Stp19 (Rl : Mem → Mem → Prop) (n : Nat) : Prop := ∀ (t u : Mem) (x1 : Int32), Rl t u → ∃ r t' u', f_X5_whole n x1 t = some (r, t') ∧ f_X6_whole n x1 u = some (r, u') ∧ Rl t' u'
def Stp20 (Rl : Mem → Mem → Prop) (n : Nat) : Prop := ∀ (t u : Mem) (x1 : Int32) (x2 : Int32) (x3 : Int32), Rl t u → ∃ r t' u', f_X5_harm n x1 x2 x3 t = some (r, t') ∧ f_X6_harm n x1 x2 x3 u = some (r, u') ∧ Rl t' u'
def Stp21 (Rl : Mem → Mem → Prop) (n : Nat) : Prop := ∀ (t u : Mem), Rl t u → ∃ r t' u', f_X5_leastHarm n t = some (r, t') ∧ f_X6_leastHarm n u = some (r, u') ∧ Rl t' u'
def Stp22 (Rl : Mem → Mem → Prop) (n : Nat) : Prop := ∀ (t u : Mem) (x1 : Int32) (x2 : Int32) (x3 : Int32) (x4 : Int32), Rl t u → ∃ r t' u', f_X5_cheapest n x1 x2 x3 x4 t = some (r, t') ∧ f_X6_cheapest n x1 x2 x3 x4 u = some (r, u') ∧ Rl t' u'
def Stp23 (Rl : Mem → Mem → Prop) (n : Nat) : Prop := ∀ (t u : Mem) (x1 : Int32) (x2 : Int32), Rl t u → ∃ r t' u', f_X5_meet n x1 x2 t = some (r, t') ∧ f_X6_meet n x1 x2 u = some (r, u') ∧ Rl t' u'
def Stp24 (Rl : Mem → Mem → Prop) (n : Nat) : Prop := ∀ (t u : Mem) (x1 : Int32) (x2 : Int32) (x3 : Int32) (x4 : Int32), Rl t u → ∃ r t' u', f_X5_journey n x1 x2 x3 x4 t = some (r, t') ∧ f_X6_journey n x1 x2 x3 x4 u = some (r, u') ∧ Rl t' u'
def Stp25 (Rl : Mem → Mem → Prop) (n : Nat) : Prop := ∀ (t u : Mem) (x1 : Int32), Rl t u → ∃ r t' u', f_X5_judge n x1 t = some (r, t') ∧ f_X6_judge n x1 u = some (r, u') ∧ Rl t' u'
def Stp26 (Rl : Mem → Mem → Prop) (n : Nat) : Prop := ∀ (t u : Mem) (x1 : Int32), Rl t u → ∃ r t' u', f_X5_mend n x1 t = some (r, t') ∧ f_X6_mend n x1 u = some (r, u') ∧ Rl t' u'
def Stp27 (Rl : Mem → Mem → Prop) (n : Nat) : Prop := ∀ (t u : Mem) (x1 : Int32) (x2 : Int32), Rl t u → ∃ r t' u', f_X5_pinches n x1 x2 t = some (r, t') ∧ f_X6_pinches n x1 x2 u = some (r, u') ∧ Rl t' u'
def Stp28 (Rl : Mem → Mem → Prop) (n : Nat) : Prop := ∀ (t u : Mem) (x1 : Int32) (x2 : Int32), Rl t u → ∃ r t' u', f_X5_left n x1 x2 t = some (r, t') ∧ f_X6_left n x1 x2 u = some (r, u') ∧ Rl t' u'
def Stp29 (Rl : Mem → Mem → Prop) (n : Nat) : Prop := ∀ (t u : Mem) (x1 : Int32) (x2 : Int32), Rl t u → ∃ r t' u', f_X5_done n x1 x2 t = some (r, t') ∧ f_X6_done n x1 x2 u = some (r, u') ∧ Rl t' u'
def Stp30 (Rl : Mem → Mem → Prop) (n : Nat) : Prop := ∀ (t u : Mem) (x1 : Int32) (x2 : Int32), Rl t u → ∃ r t' u', f_X5_theft n x1 x2 t = some (r, t') ∧ f_X6_theft n x1 x2 u = some (r, u') ∧ Rl t' u'
def Stp31 (Rl : Mem → Mem → Prop) (n : Nat) : Prop := ∀ (t u : Mem) (x1 : Int32) (x2 : Int32), Rl t u → ∃ r t' u', f_X5_mill n x1 x2 t = some (r, t') ∧ f_X6_mill n x1 x2 u = some (r, u') ∧ Rl t' u'
def Stp32 (Rl : Mem → Mem → Prop) (n : Nat) : Prop := ∀ (t u : Mem) (x1 : Int32) (x2 : Int32) (x3 : Int32), Rl t u → ∃ r t' u', f_X5_spread x1 x2 x3 t = some (r, t') ∧ f_X6_spread x1 x2 x3 u = some (r, u') ∧ Rl t' u'
def Stp33 (Rl : Mem → Mem → Prop) (n : Nat) : Prop := ∀ (t u : Mem) (x1 : Int32), Rl t u → ∃ r t' u', f_X5_gale n x1 t = some (r, t') ∧ f_X6_gale n x1 u = some (r, u') ∧ Rl t' u'
def Stp34 (Rl : Mem → Mem → Prop) (n : Nat) : Prop := ∀ (t u : Mem) (x1 : Int32), Rl t u → ∃ r t' u', f_X5_seed x1 t = some (r, t') ∧ f_X6_seed x1 u = some (r, u') ∧ Rl t' u'
def Stp35 (Rl : Mem → Mem → Prop) (n : Nat) : Prop := ∀ (t u : Mem) (x1 : Int32) (x2 : Int32) (x3 : Int32), Rl t u → ∃ r t' u', f_X5_act n x1 x2 x3 t = some (r, t') ∧ f_X6_act x1 x2 x3 u = some (r, u') ∧ Rl t' u'
def Stp36 (Rl : Mem → Mem → Prop) (n : Nat) : Prop := ∀ (t u : Mem) (x1 : Int32), Rl t u → ∃ r t' u', f_X5_trace x1 t = some (r, t') ∧ f_X6_trace x1 u = some (r, u') ∧ Rl t' u'
def Stp37 (Rl : Mem → Mem → Prop) (n : Nat) : Prop := ∀ (t u : Mem), Rl t u → ∃ r t' u', f_X5_image t = some (r, t') ∧ f_X6_image n u = some (r, u') ∧ Rl t' u'
def Stp38 (Rl : Mem → Mem → Prop) (n : Nat) : Prop := ∀ (t u : Mem), Rl t u → ∃ r t' u', f_X5_restore n t = some (r, t') ∧ f_X6_restore n u = some (r, u') ∧ Rl t' u'
def Stp39 (Rl : Mem → Mem → Prop) (n : Nat) : Prop := ∀ (t u : Mem) (x1 : Int32), Rl t u → ∃ r t' u', f_X5_status n x1 t = some (r, t') ∧ f_X6_status n x1 u = some (r, u') ∧ Rl t' u'
def StpAll (Rl : Mem → Mem → Prop) (n : Nat) : Prop := Stp0 Rl n ∧ Stp1 Rl n ∧ Stp2 Rl n ∧ Stp3 Rl n ∧ Stp4 Rl n ∧ Stp5 Rl n ∧ Stp6 Rl n ∧ Stp7 Rl n ∧ Stp8 Rl n ∧ Stp9 Rl n ∧ Stp10 Rl n ∧ Stp11 Rl n ∧ Stp12 Rl n ∧ Stp13 Rl n ∧ Stp14 Rl n ∧ Stp15 Rl n ∧ Stp16 Rl n ∧ Stp17 Rl n ∧ Stp18 Rl n ∧ Stp19 Rl n ∧ Stp20 Rl n ∧ Stp21 Rl n ∧ Stp22 Rl n ∧ Stp23 Rl n ∧ Stp24 Rl n ∧ Stp25 Rl n ∧ Stp26 Rl n ∧ Stp27 Rl n ∧ Stp28 Rl n ∧ Stp29 Rl n ∧ Stp30 Rl n ∧ Stp31 Rl n ∧ Stp32 Rl n ∧ Stp33 Rl n ∧ Stp34 Rl n ∧ Stp35 Rl n ∧ Stp36 Rl n ∧ Stp37 Rl n ∧ Stp38 Rl n ∧ Stp39 Rl n
set_option maxRecDepth 20000 in
theorem law_head {X : Cx} {l0 : Launch} {D : va_G} {ad : Nat → Nat} {g : Gv} {b L : Nat} {xs : Nat → Int32} (F : Fx X l0 D ad g code "MillOfDistancesLaw" 1000 4) (hX : XS X b L xs) (hJ : Jad ad) (hL : L ≤ 3072) {t u : Mem} {a : Nat} (ha : a ≤ 4000) (hs : a + 6 ≤ L → G X D ad g t u [(0, .ref b), (1, .ref (ad 0)), (2, .ref (ad 39)), (3, .int (nI a))] 27 []) (he : G X D ad g t u [(0, .ref b), (1, .ref (ad 0)), (2, .ref (ad 39)), (3, .int (nI a))] 1545 []) : G X D ad g t u [(0, .ref b), (1, .ref (ad 0)), (2, .ref (ad 39)), (3, .int (nI a))] 18 [] := by
  refine g_iload_n F (dAt dkL_0 10 rfl) 3 rfl ?_
  refine g_aload_n F (dAt dkL_0 11 rfl) 0 rfl ?_
  refine g_slen F hX (dAt dkL_0 12 rfl) ?_
  refine g_bipush (v := 6) F (dAt dkL_0 13 rfl) (by decide) ?_
  refine g_isub F (dAt dkL_0 14 rfl) ?_
  have e1 : (nI L - 6).toInt = (L : Int) - 6 := by
    have h1 := nI_toInt (show L < 2 ^ 31 by omega)
    have h2 : (6 : Int32).toInt = 6 := by decide
    rw [Int32.toInt_sub, h1, h2]
    exact Int.bmod_eq_of_le (by omega) (by omega)
  have e2 := nI_toInt (show a < 2 ^ 31 by omega)
  by_cases hc : a + 6 ≤ L
  · refine g_gtN F (tgt := 1545) (dAt dkL_0 15 rfl) (by decide) ?_ (hs hc)
    rw [Int32.lt_iff_toInt_lt, e1, e2]
    omega
  · refine g_gtY F (tgt := 1545) (dAt dkL_0 15 rfl) (by decide) ?_ he
    rw [Int32.lt_iff_toInt_lt, e1, e2]
    omega
set_option maxRecDepth 20000 in
theorem law_case0 {X : Cx} {l0 : Launch} {D : va_G} {ad : Nat → Nat} {g : Gv} {b L : Nat} {xs : Nat → Int32} (F : Fx X l0 D ad g code "MillOfDistancesLaw" 1000 4) (hX : XS X b L xs) (hJ : Jad ad) {Rl : Mem → Mem → Prop} {n : Nat} (hs : Stp0 Rl n) {t u : Mem} {a : Nat} (hk0 : inb (nI a) L = true) (hk1 : inb (nI a + 1) L = true) (hk2 : inb (nI a + 2) L = true) (hk3 : inb (nI a + 3) L = true) (hk4 : inb (nI a + 4) L = true) (hk5 : inb (nI a + 5) L = true) (hR : Rl t u) (K : ∀ t u, Rl t u → G X D ad g t u [(0, .ref b), (1, .ref (ad 0)), (2, .ref (ad 39)), (3, .int (nI a))] 1539 []) : G X D ad g t u [(0, .ref b), (1, .ref (ad 0)), (2, .ref (ad 39)), (3, .int (nI a))] 208 [] := by
  obtain ⟨r, t', u', h1, h2, hR2⟩ := hs t u (xs ((nI a) + 1).toNatClampNeg) (xs ((nI a) + 2).toNatClampNeg) (xs ((nI a) + 3).toNatClampNeg) hR
  refine g_aload_n F (dAt dkL_0 22 rfl) 1 rfl ?_
  refine g_aload_n F (dAt dkL_0 23 rfl) 0 rfl ?_
  refine g_iload_n F (dAt dkL_0 24 rfl) 3 rfl ?_
  refine g_iconst (v := 1) F (dAt dkL_0 25 rfl) (by decide) ?_
  refine g_iadd F (dAt dkL_0 26 rfl) ?_
  refine g_sld F hX (dAt dkL_0 27 rfl) hk1 ?_
  refine g_aload_n F (dAt dkL_0 28 rfl) 0 rfl ?_
  refine g_iload_n F (dAt dkL_0 29 rfl) 3 rfl ?_
  refine g_iconst (v := 2) F (dAt dkL_1 0 rfl) (by decide) ?_
  refine g_iadd F (dAt dkL_1 1 rfl) ?_
  refine g_sld F hX (dAt dkL_1 2 rfl) hk2 ?_
  refine g_aload_n F (dAt dkL_1 3 rfl) 0 rfl ?_
  refine g_iload_n F (dAt dkL_1 4 rfl) 3 rfl ?_
  refine g_iconst (v := 3) F (dAt dkL_1 5 rfl) (by decide) ?_
  refine g_iadd F (dAt dkL_1 6 rfl) ?_
  refine g_sld F hX (dAt dkL_1 7 rfl) hk3 ?_
  refine g_callV_ic F mi_X5_row (gm mw_243 rfl) (dAt dkL_1 8 rfl) (rcx_of F rc_Main) [.int (xs ((nI a) + 1).toNatClampNeg), .int (xs ((nI a) + 2).toNatClampNeg), .int (xs ((nI a) + 3).toNatClampNeg)] rfl rfl (by decide) (Nat.le_of_ble_eq_true rfl) (c_X5_row hJ h1) ?_
  refine g_aload_n F (dAt dkL_1 9 rfl) 2 rfl ?_
  refine g_aload_n F (dAt dkL_1 10 rfl) 0 rfl ?_
  refine g_iload_n F (dAt dkL_1 11 rfl) 3 rfl ?_
  refine g_iconst (v := 1) F (dAt dkL_1 12 rfl) (by decide) ?_
  refine g_iadd F (dAt dkL_1 13 rfl) ?_
  refine g_sld F hX (dAt dkL_1 14 rfl) hk1 ?_
  refine g_aload_n F (dAt dkL_1 15 rfl) 0 rfl ?_
  refine g_iload_n F (dAt dkL_1 16 rfl) 3 rfl ?_
  refine g_iconst (v := 2) F (dAt dkL_1 17 rfl) (by decide) ?_
  refine g_iadd F (dAt dkL_1 18 rfl) ?_
  refine g_sld F hX (dAt dkL_1 19 rfl) hk2 ?_
  refine g_aload_n F (dAt dkL_1 20 rfl) 0 rfl ?_
  refine g_iload_n F (dAt dkL_1 21 rfl) 3 rfl ?_
  refine g_iconst (v := 3) F (dAt dkL_1 22 rfl) (by decide) ?_
  refine g_iadd F (dAt dkL_1 23 rfl) ?_
  refine g_sld F hX (dAt dkL_1 24 rfl) hk3 ?_
  refine g_callV_im F mi_X6_row (gm mw_931 rfl) (dAt dkL_1 25 rfl) (rcx_of F rc_Model) [.int (xs ((nI a) + 1).toNatClampNeg), .int (xs ((nI a) + 2).toNatClampNeg), .int (xs ((nI a) + 3).toNatClampNeg)] rfl rfl (by decide) (Nat.le_of_ble_eq_true rfl) (c_X6_row hJ h2) ?_
  refine g_eqY F (tgt := 1539) (dAt dkL_1 26 rfl) (by decide) ?_
  exact K _ _ hR2
set_option maxRecDepth 20000 in
theorem law_case1 {X : Cx} {l0 : Launch} {D : va_G} {ad : Nat → Nat} {g : Gv} {b L : Nat} {xs : Nat → Int32} (F : Fx X l0 D ad g code "MillOfDistancesLaw" 1000 4) (hX : XS X b L xs) (hJ : Jad ad) {Rl : Mem → Mem → Prop} {n : Nat} (hs : Stp1 Rl n) {t u : Mem} {a : Nat} (hk0 : inb (nI a) L = true) (hk1 : inb (nI a + 1) L = true) (hk2 : inb (nI a + 2) L = true) (hk3 : inb (nI a + 3) L = true) (hk4 : inb (nI a + 4) L = true) (hk5 : inb (nI a + 5) L = true) (hR : Rl t u) (K : ∀ t u, Rl t u → G X D ad g t u [(0, .ref b), (1, .ref (ad 0)), (2, .ref (ad 39)), (3, .int (nI a))] 1539 []) : G X D ad g t u [(0, .ref b), (1, .ref (ad 0)), (2, .ref (ad 39)), (3, .int (nI a))] 251 [] := by
  obtain ⟨r, t', u', h1, h2, hR2⟩ := hs t u (xs ((nI a) + 1).toNatClampNeg) (xs ((nI a) + 2).toNatClampNeg) ((((xs ((nI a) + 3).toNatClampNeg).toInt64) <<< ((32 : Int32).toInt64 &&& 63)) ||| (((xs ((nI a) + 4).toNatClampNeg).toInt64) &&& 4294967295)) hR
  refine g_aload_n F (dAt dkL_1 29 rfl) 1 rfl ?_
  refine g_aload_n F (dAt dkL_2 0 rfl) 0 rfl ?_
  refine g_iload_n F (dAt dkL_2 1 rfl) 3 rfl ?_
  refine g_iconst (v := 1) F (dAt dkL_2 2 rfl) (by decide) ?_
  refine g_iadd F (dAt dkL_2 3 rfl) ?_
  refine g_sld F hX (dAt dkL_2 4 rfl) hk1 ?_
  refine g_aload_n F (dAt dkL_2 5 rfl) 0 rfl ?_
  refine g_iload_n F (dAt dkL_2 6 rfl) 3 rfl ?_
  refine g_iconst (v := 2) F (dAt dkL_2 7 rfl) (by decide) ?_
  refine g_iadd F (dAt dkL_2 8 rfl) ?_
  refine g_sld F hX (dAt dkL_2 9 rfl) hk2 ?_
  refine g_aload_n F (dAt dkL_2 10 rfl) 0 rfl ?_
  refine g_iload_n F (dAt dkL_2 11 rfl) 3 rfl ?_
  refine g_iconst (v := 3) F (dAt dkL_2 12 rfl) (by decide) ?_
  refine g_iadd F (dAt dkL_2 13 rfl) ?_
  refine g_sld F hX (dAt dkL_2 14 rfl) hk3 ?_
  refine g_i2l F (dAt dkL_2 15 rfl) ?_
  refine g_bipush (v := 32) F (dAt dkL_2 16 rfl) (by decide) ?_
  refine g_lshl F (dAt dkL_2 17 rfl) ?_
  refine g_aload_n F (dAt dkL_2 18 rfl) 0 rfl ?_
  refine g_iload_n F (dAt dkL_2 19 rfl) 3 rfl ?_
  refine g_iconst (v := 4) F (dAt dkL_2 20 rfl) (by decide) ?_
  refine g_iadd F (dAt dkL_2 21 rfl) ?_
  refine g_sld F hX (dAt dkL_2 22 rfl) hk4 ?_
  refine g_i2l F (dAt dkL_2 23 rfl) ?_
  refine g_ldc2 (v := 4294967295) F (dAt dkL_2 24 rfl) (gm mw_1299 rfl) ?_
  refine g_land F (dAt dkL_2 25 rfl) ?_
  refine g_lor F (dAt dkL_2 26 rfl) ?_
  refine g_callV_ic F mi_X5_set (gm mw_262 rfl) (dAt dkL_2 27 rfl) (rcx_of F rc_Main) [.int (xs ((nI a) + 1).toNatClampNeg), .int (xs ((nI a) + 2).toNatClampNeg), .long ((((xs ((nI a) + 3).toNatClampNeg).toInt64) <<< ((32 : Int32).toInt64 &&& 63)) ||| (((xs ((nI a) + 4).toNatClampNeg).toInt64) &&& 4294967295))] rfl rfl (by decide) (Nat.le_of_ble_eq_true rfl) (c_X5_set hJ h1) ?_
  refine g_aload_n F (dAt dkL_2 28 rfl) 2 rfl ?_
  refine g_aload_n F (dAt dkL_2 29 rfl) 0 rfl ?_
  refine g_iload_n F (dAt dkL_3 0 rfl) 3 rfl ?_
  refine g_iconst (v := 1) F (dAt dkL_3 1 rfl) (by decide) ?_
  refine g_iadd F (dAt dkL_3 2 rfl) ?_
  refine g_sld F hX (dAt dkL_3 3 rfl) hk1 ?_
  refine g_aload_n F (dAt dkL_3 4 rfl) 0 rfl ?_
  refine g_iload_n F (dAt dkL_3 5 rfl) 3 rfl ?_
  refine g_iconst (v := 2) F (dAt dkL_3 6 rfl) (by decide) ?_
  refine g_iadd F (dAt dkL_3 7 rfl) ?_
  refine g_sld F hX (dAt dkL_3 8 rfl) hk2 ?_
  refine g_aload_n F (dAt dkL_3 9 rfl) 0 rfl ?_
  refine g_iload_n F (dAt dkL_3 10 rfl) 3 rfl ?_
  refine g_iconst (v := 3) F (dAt dkL_3 11 rfl) (by decide) ?_
  refine g_iadd F (dAt dkL_3 12 rfl) ?_
  refine g_sld F hX (dAt dkL_3 13 rfl) hk3 ?_
  refine g_i2l F (dAt dkL_3 14 rfl) ?_
  refine g_bipush (v := 32) F (dAt dkL_3 15 rfl) (by decide) ?_
  refine g_lshl F (dAt dkL_3 16 rfl) ?_
  refine g_aload_n F (dAt dkL_3 17 rfl) 0 rfl ?_
  refine g_iload_n F (dAt dkL_3 18 rfl) 3 rfl ?_
  refine g_iconst (v := 4) F (dAt dkL_3 19 rfl) (by decide) ?_
  refine g_iadd F (dAt dkL_3 20 rfl) ?_
  refine g_sld F hX (dAt dkL_3 21 rfl) hk4 ?_
  refine g_i2l F (dAt dkL_3 22 rfl) ?_
  refine g_ldc2 (v := 4294967295) F (dAt dkL_3 23 rfl) (gm mw_1299 rfl) ?_
  refine g_land F (dAt dkL_3 24 rfl) ?_
  refine g_lor F (dAt dkL_3 25 rfl) ?_
  refine g_callV_im F mi_X6_set (gm mw_942 rfl) (dAt dkL_3 26 rfl) (rcx_of F rc_Model) [.int (xs ((nI a) + 1).toNatClampNeg), .int (xs ((nI a) + 2).toNatClampNeg), .long ((((xs ((nI a) + 3).toNatClampNeg).toInt64) <<< ((32 : Int32).toInt64 &&& 63)) ||| (((xs ((nI a) + 4).toNatClampNeg).toInt64) &&& 4294967295))] rfl rfl (by decide) (Nat.le_of_ble_eq_true rfl) (c_X6_set hJ h2) ?_
  refine g_eqY F (tgt := 1539) (dAt dkL_3 27 rfl) (by decide) ?_
  exact K _ _ hR2
set_option maxRecDepth 20000 in
theorem law_case2 {X : Cx} {l0 : Launch} {D : va_G} {ad : Nat → Nat} {g : Gv} {b L : Nat} {xs : Nat → Int32} (F : Fx X l0 D ad g code "MillOfDistancesLaw" 1000 4) (hX : XS X b L xs) (hJ : Jad ad) {Rl : Mem → Mem → Prop} {n : Nat} (hs : Stp2 Rl n) {t u : Mem} {a : Nat} (hk0 : inb (nI a) L = true) (hk1 : inb (nI a + 1) L = true) (hk2 : inb (nI a + 2) L = true) (hk3 : inb (nI a + 3) L = true) (hk4 : inb (nI a + 4) L = true) (hk5 : inb (nI a + 5) L = true) (hR : Rl t u) (K : ∀ t u, Rl t u → G X D ad g t u [(0, .ref b), (1, .ref (ad 0)), (2, .ref (ad 39)), (3, .int (nI a))] 1539 []) : G X D ad g t u [(0, .ref b), (1, .ref (ad 0)), (2, .ref (ad 39)), (3, .int (nI a))] 324 [] := by
  obtain ⟨r, t', u', h1, h2, hR2⟩ := hs t u (xs ((nI a) + 1).toNatClampNeg) (xs ((nI a) + 2).toNatClampNeg) (xs ((nI a) + 3).toNatClampNeg) (xs ((nI a) + 4).toNatClampNeg) (xs ((nI a) + 5).toNatClampNeg) hR
  refine g_aload_n F (dAt dkL_4 0 rfl) 1 rfl ?_
  refine g_aload_n F (dAt dkL_4 1 rfl) 0 rfl ?_
  refine g_iload_n F (dAt dkL_4 2 rfl) 3 rfl ?_
  refine g_iconst (v := 1) F (dAt dkL_4 3 rfl) (by decide) ?_
  refine g_iadd F (dAt dkL_4 4 rfl) ?_
  refine g_sld F hX (dAt dkL_4 5 rfl) hk1 ?_
  refine g_aload_n F (dAt dkL_4 6 rfl) 0 rfl ?_
  refine g_iload_n F (dAt dkL_4 7 rfl) 3 rfl ?_
  refine g_iconst (v := 2) F (dAt dkL_4 8 rfl) (by decide) ?_
  refine g_iadd F (dAt dkL_4 9 rfl) ?_
  refine g_sld F hX (dAt dkL_4 10 rfl) hk2 ?_
  refine g_aload_n F (dAt dkL_4 11 rfl) 0 rfl ?_
  refine g_iload_n F (dAt dkL_4 12 rfl) 3 rfl ?_
  refine g_iconst (v := 3) F (dAt dkL_4 13 rfl) (by decide) ?_
  refine g_iadd F (dAt dkL_4 14 rfl) ?_
  refine g_sld F hX (dAt dkL_4 15 rfl) hk3 ?_
  refine g_aload_n F (dAt dkL_4 16 rfl) 0 rfl ?_
  refine g_iload_n F (dAt dkL_4 17 rfl) 3 rfl ?_
  refine g_iconst (v := 4) F (dAt dkL_4 18 rfl) (by decide) ?_
  refine g_iadd F (dAt dkL_4 19 rfl) ?_
  refine g_sld F hX (dAt dkL_4 20 rfl) hk4 ?_
  refine g_aload_n F (dAt dkL_4 21 rfl) 0 rfl ?_
  refine g_iload_n F (dAt dkL_4 22 rfl) 3 rfl ?_
  refine g_iconst (v := 5) F (dAt dkL_4 23 rfl) (by decide) ?_
  refine g_iadd F (dAt dkL_4 24 rfl) ?_
  refine g_sld F hX (dAt dkL_4 25 rfl) hk5 ?_
  refine g_callV_ic F mi_X5_copy (gm mw_290 rfl) (dAt dkL_4 26 rfl) (rcx_of F rc_Main) [.int (xs ((nI a) + 1).toNatClampNeg), .int (xs ((nI a) + 2).toNatClampNeg), .int (xs ((nI a) + 3).toNatClampNeg), .int (xs ((nI a) + 4).toNatClampNeg), .int (xs ((nI a) + 5).toNatClampNeg)] rfl rfl (by decide) (Nat.le_of_ble_eq_true rfl) (c_X5_copy hJ h1) ?_
  refine g_aload_n F (dAt dkL_4 27 rfl) 2 rfl ?_
  refine g_aload_n F (dAt dkL_4 28 rfl) 0 rfl ?_
  refine g_iload_n F (dAt dkL_4 29 rfl) 3 rfl ?_
  refine g_iconst (v := 1) F (dAt dkL_5 0 rfl) (by decide) ?_
  refine g_iadd F (dAt dkL_5 1 rfl) ?_
  refine g_sld F hX (dAt dkL_5 2 rfl) hk1 ?_
  refine g_aload_n F (dAt dkL_5 3 rfl) 0 rfl ?_
  refine g_iload_n F (dAt dkL_5 4 rfl) 3 rfl ?_
  refine g_iconst (v := 2) F (dAt dkL_5 5 rfl) (by decide) ?_
  refine g_iadd F (dAt dkL_5 6 rfl) ?_
  refine g_sld F hX (dAt dkL_5 7 rfl) hk2 ?_
  refine g_aload_n F (dAt dkL_5 8 rfl) 0 rfl ?_
  refine g_iload_n F (dAt dkL_5 9 rfl) 3 rfl ?_
  refine g_iconst (v := 3) F (dAt dkL_5 10 rfl) (by decide) ?_
  refine g_iadd F (dAt dkL_5 11 rfl) ?_
  refine g_sld F hX (dAt dkL_5 12 rfl) hk3 ?_
  refine g_aload_n F (dAt dkL_5 13 rfl) 0 rfl ?_
  refine g_iload_n F (dAt dkL_5 14 rfl) 3 rfl ?_
  refine g_iconst (v := 4) F (dAt dkL_5 15 rfl) (by decide) ?_
  refine g_iadd F (dAt dkL_5 16 rfl) ?_
  refine g_sld F hX (dAt dkL_5 17 rfl) hk4 ?_
  refine g_aload_n F (dAt dkL_5 18 rfl) 0 rfl ?_
  refine g_iload_n F (dAt dkL_5 19 rfl) 3 rfl ?_
  refine g_iconst (v := 5) F (dAt dkL_5 20 rfl) (by decide) ?_
  refine g_iadd F (dAt dkL_5 21 rfl) ?_
  refine g_sld F hX (dAt dkL_5 22 rfl) hk5 ?_
  refine g_callV_im F mi_X6_copy (gm mw_954 rfl) (dAt dkL_5 23 rfl) (rcx_of F rc_Model) [.int (xs ((nI a) + 1).toNatClampNeg), .int (xs ((nI a) + 2).toNatClampNeg), .int (xs ((nI a) + 3).toNatClampNeg), .int (xs ((nI a) + 4).toNatClampNeg), .int (xs ((nI a) + 5).toNatClampNeg)] rfl rfl (by decide) (Nat.le_of_ble_eq_true rfl) (c_X6_copy hJ h2) ?_
  refine g_eqY F (tgt := 1539) (dAt dkL_5 24 rfl) (by decide) ?_
  exact K _ _ hR2
set_option maxRecDepth 20000 in
theorem law_case3 {X : Cx} {l0 : Launch} {D : va_G} {ad : Nat → Nat} {g : Gv} {b L : Nat} {xs : Nat → Int32} (F : Fx X l0 D ad g code "MillOfDistancesLaw" 1000 4) (hX : XS X b L xs) (hJ : Jad ad) {Rl : Mem → Mem → Prop} {n : Nat} (hs : Stp3 Rl n) {t u : Mem} {a : Nat} (hk0 : inb (nI a) L = true) (hk1 : inb (nI a + 1) L = true) (hk2 : inb (nI a + 2) L = true) (hk3 : inb (nI a + 3) L = true) (hk4 : inb (nI a + 4) L = true) (hk5 : inb (nI a + 5) L = true) (hR : Rl t u) (K : ∀ t u, Rl t u → G X D ad g t u [(0, .ref b), (1, .ref (ad 0)), (2, .ref (ad 39)), (3, .int (nI a))] 1539 []) : G X D ad g t u [(0, .ref b), (1, .ref (ad 0)), (2, .ref (ad 39)), (3, .int (nI a))] 387 [] := by
  obtain ⟨r, t', u', h1, h2, hR2⟩ := hs t u (xs ((nI a) + 1).toNatClampNeg) (xs ((nI a) + 2).toNatClampNeg) hR
  refine g_aload_n F (dAt dkL_5 27 rfl) 1 rfl ?_
  refine g_aload_n F (dAt dkL_5 28 rfl) 0 rfl ?_
  refine g_iload_n F (dAt dkL_5 29 rfl) 3 rfl ?_
  refine g_iconst (v := 1) F (dAt dkL_6 0 rfl) (by decide) ?_
  refine g_iadd F (dAt dkL_6 1 rfl) ?_
  refine g_sld F hX (dAt dkL_6 2 rfl) hk1 ?_
  refine g_aload_n F (dAt dkL_6 3 rfl) 0 rfl ?_
  refine g_iload_n F (dAt dkL_6 4 rfl) 3 rfl ?_
  refine g_iconst (v := 2) F (dAt dkL_6 5 rfl) (by decide) ?_
  refine g_iadd F (dAt dkL_6 6 rfl) ?_
  refine g_sld F hX (dAt dkL_6 7 rfl) hk2 ?_
  refine g_callV_lc F mi_X5_element (gm mw_300 rfl) (dAt dkL_6 8 rfl) (rcx_of F rc_Main) [.int (xs ((nI a) + 1).toNatClampNeg), .int (xs ((nI a) + 2).toNatClampNeg)] rfl rfl (by decide) (Nat.le_of_ble_eq_true rfl) (c_X5_element hJ h1) ?_
  refine g_aload_n F (dAt dkL_6 9 rfl) 2 rfl ?_
  refine g_aload_n F (dAt dkL_6 10 rfl) 0 rfl ?_
  refine g_iload_n F (dAt dkL_6 11 rfl) 3 rfl ?_
  refine g_iconst (v := 1) F (dAt dkL_6 12 rfl) (by decide) ?_
  refine g_iadd F (dAt dkL_6 13 rfl) ?_
  refine g_sld F hX (dAt dkL_6 14 rfl) hk1 ?_
  refine g_aload_n F (dAt dkL_6 15 rfl) 0 rfl ?_
  refine g_iload_n F (dAt dkL_6 16 rfl) 3 rfl ?_
  refine g_iconst (v := 2) F (dAt dkL_6 17 rfl) (by decide) ?_
  refine g_iadd F (dAt dkL_6 18 rfl) ?_
  refine g_sld F hX (dAt dkL_6 19 rfl) hk2 ?_
  refine g_callV_lm F mi_X6_element (gm mw_958 rfl) (dAt dkL_6 20 rfl) (rcx_of F rc_Model) [.int (xs ((nI a) + 1).toNatClampNeg), .int (xs ((nI a) + 2).toNatClampNeg)] rfl rfl (by decide) (Nat.le_of_ble_eq_true rfl) (c_X6_element hJ h2) ?_
  refine g_lcmp F (dAt dkL_6 21 rfl) ?_
  refine g_st (st' := [.int 0]) (by rw [lg_cmp_self]) ?_
  refine g_eq0 F (tgt := 1539) (dAt dkL_6 22 rfl) (by decide) ?_
  exact K _ _ hR2
set_option maxRecDepth 20000 in
theorem law_case4 {X : Cx} {l0 : Launch} {D : va_G} {ad : Nat → Nat} {g : Gv} {b L : Nat} {xs : Nat → Int32} (F : Fx X l0 D ad g code "MillOfDistancesLaw" 1000 4) (hX : XS X b L xs) (hJ : Jad ad) {Rl : Mem → Mem → Prop} {n : Nat} (hs : Stp4 Rl n) {t u : Mem} {a : Nat} (hk0 : inb (nI a) L = true) (hk1 : inb (nI a + 1) L = true) (hk2 : inb (nI a + 2) L = true) (hk3 : inb (nI a + 3) L = true) (hk4 : inb (nI a + 4) L = true) (hk5 : inb (nI a + 5) L = true) (hR : Rl t u) (K : ∀ t u, Rl t u → G X D ad g t u [(0, .ref b), (1, .ref (ad 0)), (2, .ref (ad 39)), (3, .int (nI a))] 1539 []) : G X D ad g t u [(0, .ref b), (1, .ref (ad 0)), (2, .ref (ad 39)), (3, .int (nI a))] 421 [] := by
  obtain ⟨r, t', u', h1, h2, hR2⟩ := hs t u (xs ((nI a) + 1).toNatClampNeg) (xs ((nI a) + 2).toNatClampNeg) hR
  refine g_aload_n F (dAt dkL_6 25 rfl) 1 rfl ?_
  refine g_aload_n F (dAt dkL_6 26 rfl) 0 rfl ?_
  refine g_iload_n F (dAt dkL_6 27 rfl) 3 rfl ?_
  refine g_iconst (v := 1) F (dAt dkL_6 28 rfl) (by decide) ?_
  refine g_iadd F (dAt dkL_6 29 rfl) ?_
  refine g_sld F hX (dAt dkL_7 0 rfl) hk1 ?_
  refine g_aload_n F (dAt dkL_7 1 rfl) 0 rfl ?_
  refine g_iload_n F (dAt dkL_7 2 rfl) 3 rfl ?_
  refine g_iconst (v := 2) F (dAt dkL_7 3 rfl) (by decide) ?_
  refine g_iadd F (dAt dkL_7 4 rfl) ?_
  refine g_sld F hX (dAt dkL_7 5 rfl) hk2 ?_
  refine g_callV_ic F mi_X5_show (gm mw_308 rfl) (dAt dkL_7 6 rfl) (rcx_of F rc_Main) [.int (xs ((nI a) + 1).toNatClampNeg), .int (xs ((nI a) + 2).toNatClampNeg)] rfl rfl (by decide) (Nat.le_of_ble_eq_true rfl) (c_X5_show hJ h1) ?_
  refine g_aload_n F (dAt dkL_7 7 rfl) 2 rfl ?_
  refine g_aload_n F (dAt dkL_7 8 rfl) 0 rfl ?_
  refine g_iload_n F (dAt dkL_7 9 rfl) 3 rfl ?_
  refine g_iconst (v := 1) F (dAt dkL_7 10 rfl) (by decide) ?_
  refine g_iadd F (dAt dkL_7 11 rfl) ?_
  refine g_sld F hX (dAt dkL_7 12 rfl) hk1 ?_
  refine g_aload_n F (dAt dkL_7 13 rfl) 0 rfl ?_
  refine g_iload_n F (dAt dkL_7 14 rfl) 3 rfl ?_
  refine g_iconst (v := 2) F (dAt dkL_7 15 rfl) (by decide) ?_
  refine g_iadd F (dAt dkL_7 16 rfl) ?_
  refine g_sld F hX (dAt dkL_7 17 rfl) hk2 ?_
  refine g_callV_im F mi_X6_show (gm mw_962 rfl) (dAt dkL_7 18 rfl) (rcx_of F rc_Model) [.int (xs ((nI a) + 1).toNatClampNeg), .int (xs ((nI a) + 2).toNatClampNeg)] rfl rfl (by decide) (Nat.le_of_ble_eq_true rfl) (c_X6_show hJ h2) ?_
  refine g_eqY F (tgt := 1539) (dAt dkL_7 19 rfl) (by decide) ?_
  exact K _ _ hR2
set_option maxRecDepth 20000 in
theorem law_case5 {X : Cx} {l0 : Launch} {D : va_G} {ad : Nat → Nat} {g : Gv} {b L : Nat} {xs : Nat → Int32} (F : Fx X l0 D ad g code "MillOfDistancesLaw" 1000 4) (hX : XS X b L xs) (hJ : Jad ad) {Rl : Mem → Mem → Prop} {n : Nat} (hs : Stp5 Rl n) {t u : Mem} {a : Nat} (hk0 : inb (nI a) L = true) (hk1 : inb (nI a + 1) L = true) (hk2 : inb (nI a + 2) L = true) (hk3 : inb (nI a + 3) L = true) (hk4 : inb (nI a + 4) L = true) (hk5 : inb (nI a + 5) L = true) (hR : Rl t u) (K : ∀ t u, Rl t u → G X D ad g t u [(0, .ref b), (1, .ref (ad 0)), (2, .ref (ad 39)), (3, .int (nI a))] 1539 []) : G X D ad g t u [(0, .ref b), (1, .ref (ad 0)), (2, .ref (ad 39)), (3, .int (nI a))] 454 [] := by
  obtain ⟨r, t', u', h1, h2, hR2⟩ := hs t u (xs ((nI a) + 1).toNatClampNeg) hR
  refine g_aload_n F (dAt dkL_7 22 rfl) 1 rfl ?_
  refine g_aload_n F (dAt dkL_7 23 rfl) 0 rfl ?_
  refine g_iload_n F (dAt dkL_7 24 rfl) 3 rfl ?_
  refine g_iconst (v := 1) F (dAt dkL_7 25 rfl) (by decide) ?_
  refine g_iadd F (dAt dkL_7 26 rfl) ?_
  refine g_sld F hX (dAt dkL_7 27 rfl) hk1 ?_
  refine g_callV_ic F mi_X5_holds (gm mw_320 rfl) (dAt dkL_7 28 rfl) (rcx_of F rc_Main) [.int (xs ((nI a) + 1).toNatClampNeg)] rfl rfl (by decide) (Nat.le_of_ble_eq_true rfl) (c_X5_holds hJ h1) ?_
  refine g_aload_n F (dAt dkL_7 29 rfl) 2 rfl ?_
  refine g_aload_n F (dAt dkL_8 0 rfl) 0 rfl ?_
  refine g_iload_n F (dAt dkL_8 1 rfl) 3 rfl ?_
  refine g_iconst (v := 1) F (dAt dkL_8 2 rfl) (by decide) ?_
  refine g_iadd F (dAt dkL_8 3 rfl) ?_
  refine g_sld F hX (dAt dkL_8 4 rfl) hk1 ?_
  refine g_callV_im F mi_X6_holds (gm mw_970 rfl) (dAt dkL_8 5 rfl) (rcx_of F rc_Model) [.int (xs ((nI a) + 1).toNatClampNeg)] rfl rfl (by decide) (Nat.le_of_ble_eq_true rfl) (c_X6_holds hJ h2) ?_
  refine g_eqY F (tgt := 1539) (dAt dkL_8 6 rfl) (by decide) ?_
  exact K _ _ hR2
set_option maxRecDepth 20000 in
theorem law_case6 {X : Cx} {l0 : Launch} {D : va_G} {ad : Nat → Nat} {g : Gv} {b L : Nat} {xs : Nat → Int32} (F : Fx X l0 D ad g code "MillOfDistancesLaw" 1000 4) (hX : XS X b L xs) (hJ : Jad ad) {Rl : Mem → Mem → Prop} {n : Nat} (hs : Stp6 Rl n) {t u : Mem} {a : Nat} (hk0 : inb (nI a) L = true) (hk1 : inb (nI a + 1) L = true) (hk2 : inb (nI a + 2) L = true) (hk3 : inb (nI a + 3) L = true) (hk4 : inb (nI a + 4) L = true) (hk5 : inb (nI a + 5) L = true) (hR : Rl t u) (K : ∀ t u, Rl t u → G X D ad g t u [(0, .ref b), (1, .ref (ad 0)), (2, .ref (ad 39)), (3, .int (nI a))] 1539 []) : G X D ad g t u [(0, .ref b), (1, .ref (ad 0)), (2, .ref (ad 39)), (3, .int (nI a))] 477 [] := by
  obtain ⟨r, t', u', h1, h2, hR2⟩ := hs t u (xs ((nI a) + 1).toNatClampNeg) (xs ((nI a) + 2).toNatClampNeg) hR
  refine g_aload_n F (dAt dkL_8 9 rfl) 1 rfl ?_
  refine g_aload_n F (dAt dkL_8 10 rfl) 0 rfl ?_
  refine g_iload_n F (dAt dkL_8 11 rfl) 3 rfl ?_
  refine g_iconst (v := 1) F (dAt dkL_8 12 rfl) (by decide) ?_
  refine g_iadd F (dAt dkL_8 13 rfl) ?_
  refine g_sld F hX (dAt dkL_8 14 rfl) hk1 ?_
  refine g_aload_n F (dAt dkL_8 15 rfl) 0 rfl ?_
  refine g_iload_n F (dAt dkL_8 16 rfl) 3 rfl ?_
  refine g_iconst (v := 2) F (dAt dkL_8 17 rfl) (by decide) ?_
  refine g_iadd F (dAt dkL_8 18 rfl) ?_
  refine g_sld F hX (dAt dkL_8 19 rfl) hk2 ?_
  refine g_callV_ic F mi_X5_says (gm mw_324 rfl) (dAt dkL_8 20 rfl) (rcx_of F rc_Main) [.int (xs ((nI a) + 1).toNatClampNeg), .int (xs ((nI a) + 2).toNatClampNeg)] rfl rfl (by decide) (Nat.le_of_ble_eq_true rfl) (c_X5_says hJ h1) ?_
  refine g_aload_n F (dAt dkL_8 21 rfl) 2 rfl ?_
  refine g_aload_n F (dAt dkL_8 22 rfl) 0 rfl ?_
  refine g_iload_n F (dAt dkL_8 23 rfl) 3 rfl ?_
  refine g_iconst (v := 1) F (dAt dkL_8 24 rfl) (by decide) ?_
  refine g_iadd F (dAt dkL_8 25 rfl) ?_
  refine g_sld F hX (dAt dkL_8 26 rfl) hk1 ?_
  refine g_aload_n F (dAt dkL_8 27 rfl) 0 rfl ?_
  refine g_iload_n F (dAt dkL_8 28 rfl) 3 rfl ?_
  refine g_iconst (v := 2) F (dAt dkL_8 29 rfl) (by decide) ?_
  refine g_iadd F (dAt dkL_9 0 rfl) ?_
  refine g_sld F hX (dAt dkL_9 1 rfl) hk2 ?_
  refine g_callV_im F mi_X6_says (gm mw_974 rfl) (dAt dkL_9 2 rfl) (rcx_of F rc_Model) [.int (xs ((nI a) + 1).toNatClampNeg), .int (xs ((nI a) + 2).toNatClampNeg)] rfl rfl (by decide) (Nat.le_of_ble_eq_true rfl) (c_X6_says hJ h2) ?_
  refine g_eqY F (tgt := 1539) (dAt dkL_9 3 rfl) (by decide) ?_
  exact K _ _ hR2
set_option maxRecDepth 20000 in
theorem law_case7 {X : Cx} {l0 : Launch} {D : va_G} {ad : Nat → Nat} {g : Gv} {b L : Nat} {xs : Nat → Int32} (F : Fx X l0 D ad g code "MillOfDistancesLaw" 1000 4) (hX : XS X b L xs) (hJ : Jad ad) {Rl : Mem → Mem → Prop} {n : Nat} (hs : Stp7 Rl n) {t u : Mem} {a : Nat} (hk0 : inb (nI a) L = true) (hk1 : inb (nI a + 1) L = true) (hk2 : inb (nI a + 2) L = true) (hk3 : inb (nI a + 3) L = true) (hk4 : inb (nI a + 4) L = true) (hk5 : inb (nI a + 5) L = true) (hR : Rl t u) (K : ∀ t u, Rl t u → G X D ad g t u [(0, .ref b), (1, .ref (ad 0)), (2, .ref (ad 39)), (3, .int (nI a))] 1539 []) : G X D ad g t u [(0, .ref b), (1, .ref (ad 0)), (2, .ref (ad 39)), (3, .int (nI a))] 510 [] := by
  obtain ⟨r, t', u', h1, h2, hR2⟩ := hs t u (xs ((nI a) + 1).toNatClampNeg) (xs ((nI a) + 2).toNatClampNeg) hR
  refine g_aload_n F (dAt dkL_9 6 rfl) 1 rfl ?_
  refine g_aload_n F (dAt dkL_9 7 rfl) 0 rfl ?_
  refine g_iload_n F (dAt dkL_9 8 rfl) 3 rfl ?_
  refine g_iconst (v := 1) F (dAt dkL_9 9 rfl) (by decide) ?_
  refine g_iadd F (dAt dkL_9 10 rfl) ?_
  refine g_sld F hX (dAt dkL_9 11 rfl) hk1 ?_
  refine g_aload_n F (dAt dkL_9 12 rfl) 0 rfl ?_
  refine g_iload_n F (dAt dkL_9 13 rfl) 3 rfl ?_
  refine g_iconst (v := 2) F (dAt dkL_9 14 rfl) (by decide) ?_
  refine g_iadd F (dAt dkL_9 15 rfl) ?_
  refine g_sld F hX (dAt dkL_9 16 rfl) hk2 ?_
  refine g_callV_ic F mi_X5_place (gm mw_355 rfl) (dAt dkL_9 17 rfl) (rcx_of F rc_Main) [.int (xs ((nI a) + 1).toNatClampNeg), .int (xs ((nI a) + 2).toNatClampNeg)] rfl rfl (by decide) (Nat.le_of_ble_eq_true rfl) (c_X5_place hJ h1) ?_
  refine g_aload_n F (dAt dkL_9 18 rfl) 2 rfl ?_
  refine g_aload_n F (dAt dkL_9 19 rfl) 0 rfl ?_
  refine g_iload_n F (dAt dkL_9 20 rfl) 3 rfl ?_
  refine g_iconst (v := 1) F (dAt dkL_9 21 rfl) (by decide) ?_
  refine g_iadd F (dAt dkL_9 22 rfl) ?_
  refine g_sld F hX (dAt dkL_9 23 rfl) hk1 ?_
  refine g_aload_n F (dAt dkL_9 24 rfl) 0 rfl ?_
  refine g_iload_n F (dAt dkL_9 25 rfl) 3 rfl ?_
  refine g_iconst (v := 2) F (dAt dkL_9 26 rfl) (by decide) ?_
  refine g_iadd F (dAt dkL_9 27 rfl) ?_
  refine g_sld F hX (dAt dkL_9 28 rfl) hk2 ?_
  refine g_callV_im F mi_X6_place (gm mw_994 rfl) (dAt dkL_9 29 rfl) (rcx_of F rc_Model) [.int (xs ((nI a) + 1).toNatClampNeg), .int (xs ((nI a) + 2).toNatClampNeg)] rfl rfl (by decide) (Nat.le_of_ble_eq_true rfl) (c_X6_place hJ h2) ?_
  refine g_eqY F (tgt := 1539) (dAt dkL_10 0 rfl) (by decide) ?_
  exact K _ _ hR2
set_option maxRecDepth 20000 in
theorem law_case8 {X : Cx} {l0 : Launch} {D : va_G} {ad : Nat → Nat} {g : Gv} {b L : Nat} {xs : Nat → Int32} (F : Fx X l0 D ad g code "MillOfDistancesLaw" 1000 4) (hX : XS X b L xs) (hJ : Jad ad) {Rl : Mem → Mem → Prop} {n : Nat} (hs : Stp8 Rl n) {t u : Mem} {a : Nat} (hk0 : inb (nI a) L = true) (hk1 : inb (nI a + 1) L = true) (hk2 : inb (nI a + 2) L = true) (hk3 : inb (nI a + 3) L = true) (hk4 : inb (nI a + 4) L = true) (hk5 : inb (nI a + 5) L = true) (hR : Rl t u) (K : ∀ t u, Rl t u → G X D ad g t u [(0, .ref b), (1, .ref (ad 0)), (2, .ref (ad 39)), (3, .int (nI a))] 1539 []) : G X D ad g t u [(0, .ref b), (1, .ref (ad 0)), (2, .ref (ad 39)), (3, .int (nI a))] 543 [] := by
  obtain ⟨r, t', u', h1, h2, hR2⟩ := hs t u (xs ((nI a) + 1).toNatClampNeg) (xs ((nI a) + 2).toNatClampNeg) hR
  refine g_aload_n F (dAt dkL_10 3 rfl) 1 rfl ?_
  refine g_aload_n F (dAt dkL_10 4 rfl) 0 rfl ?_
  refine g_iload_n F (dAt dkL_10 5 rfl) 3 rfl ?_
  refine g_iconst (v := 1) F (dAt dkL_10 6 rfl) (by decide) ?_
  refine g_iadd F (dAt dkL_10 7 rfl) ?_
  refine g_sld F hX (dAt dkL_10 8 rfl) hk1 ?_
  refine g_aload_n F (dAt dkL_10 9 rfl) 0 rfl ?_
  refine g_iload_n F (dAt dkL_10 10 rfl) 3 rfl ?_
  refine g_iconst (v := 2) F (dAt dkL_10 11 rfl) (by decide) ?_
  refine g_iadd F (dAt dkL_10 12 rfl) ?_
  refine g_sld F hX (dAt dkL_10 13 rfl) hk2 ?_
  refine g_callV_ic F mi_X5_placeOf (gm mw_368 rfl) (dAt dkL_10 14 rfl) (rcx_of F rc_Main) [.int (xs ((nI a) + 1).toNatClampNeg), .int (xs ((nI a) + 2).toNatClampNeg)] rfl rfl (by decide) (Nat.le_of_ble_eq_true rfl) (c_X5_placeOf hJ h1) ?_
  refine g_aload_n F (dAt dkL_10 15 rfl) 2 rfl ?_
  refine g_aload_n F (dAt dkL_10 16 rfl) 0 rfl ?_
  refine g_iload_n F (dAt dkL_10 17 rfl) 3 rfl ?_
  refine g_iconst (v := 1) F (dAt dkL_10 18 rfl) (by decide) ?_
  refine g_iadd F (dAt dkL_10 19 rfl) ?_
  refine g_sld F hX (dAt dkL_10 20 rfl) hk1 ?_
  refine g_aload_n F (dAt dkL_10 21 rfl) 0 rfl ?_
  refine g_iload_n F (dAt dkL_10 22 rfl) 3 rfl ?_
  refine g_iconst (v := 2) F (dAt dkL_10 23 rfl) (by decide) ?_
  refine g_iadd F (dAt dkL_10 24 rfl) ?_
  refine g_sld F hX (dAt dkL_10 25 rfl) hk2 ?_
  refine g_callV_im F mi_X6_placeOf (gm mw_1002 rfl) (dAt dkL_10 26 rfl) (rcx_of F rc_Model) [.int (xs ((nI a) + 1).toNatClampNeg), .int (xs ((nI a) + 2).toNatClampNeg)] rfl rfl (by decide) (Nat.le_of_ble_eq_true rfl) (c_X6_placeOf hJ h2) ?_
  refine g_eqY F (tgt := 1539) (dAt dkL_10 27 rfl) (by decide) ?_
  exact K _ _ hR2
set_option maxRecDepth 20000 in
theorem law_case9 {X : Cx} {l0 : Launch} {D : va_G} {ad : Nat → Nat} {g : Gv} {b L : Nat} {xs : Nat → Int32} (F : Fx X l0 D ad g code "MillOfDistancesLaw" 1000 4) (hX : XS X b L xs) (hJ : Jad ad) {Rl : Mem → Mem → Prop} {n : Nat} (hs : Stp9 Rl n) {t u : Mem} {a : Nat} (hk0 : inb (nI a) L = true) (hk1 : inb (nI a + 1) L = true) (hk2 : inb (nI a + 2) L = true) (hk3 : inb (nI a + 3) L = true) (hk4 : inb (nI a + 4) L = true) (hk5 : inb (nI a + 5) L = true) (hR : Rl t u) (K : ∀ t u, Rl t u → G X D ad g t u [(0, .ref b), (1, .ref (ad 0)), (2, .ref (ad 39)), (3, .int (nI a))] 1539 []) : G X D ad g t u [(0, .ref b), (1, .ref (ad 0)), (2, .ref (ad 39)), (3, .int (nI a))] 576 [] := by
  obtain ⟨r, t', u', h1, h2, hR2⟩ := hs t u (xs ((nI a) + 1).toNatClampNeg) (xs ((nI a) + 2).toNatClampNeg) (xs ((nI a) + 3).toNatClampNeg) hR
  refine g_aload_n F (dAt dkL_11 0 rfl) 1 rfl ?_
  refine g_aload_n F (dAt dkL_11 1 rfl) 0 rfl ?_
  refine g_iload_n F (dAt dkL_11 2 rfl) 3 rfl ?_
  refine g_iconst (v := 1) F (dAt dkL_11 3 rfl) (by decide) ?_
  refine g_iadd F (dAt dkL_11 4 rfl) ?_
  refine g_sld F hX (dAt dkL_11 5 rfl) hk1 ?_
  refine g_aload_n F (dAt dkL_11 6 rfl) 0 rfl ?_
  refine g_iload_n F (dAt dkL_11 7 rfl) 3 rfl ?_
  refine g_iconst (v := 2) F (dAt dkL_11 8 rfl) (by decide) ?_
  refine g_iadd F (dAt dkL_11 9 rfl) ?_
  refine g_sld F hX (dAt dkL_11 10 rfl) hk2 ?_
  refine g_aload_n F (dAt dkL_11 11 rfl) 0 rfl ?_
  refine g_iload_n F (dAt dkL_11 12 rfl) 3 rfl ?_
  refine g_iconst (v := 3) F (dAt dkL_11 13 rfl) (by decide) ?_
  refine g_iadd F (dAt dkL_11 14 rfl) ?_
  refine g_sld F hX (dAt dkL_11 15 rfl) hk3 ?_
  refine g_callV_ic F mi_X5_road (gm mw_376 rfl) (dAt dkL_11 16 rfl) (rcx_of F rc_Main) [.int (xs ((nI a) + 1).toNatClampNeg), .int (xs ((nI a) + 2).toNatClampNeg), .int (xs ((nI a) + 3).toNatClampNeg)] rfl rfl (by decide) (Nat.le_of_ble_eq_true rfl) (c_X5_road hJ h1) ?_
  refine g_aload_n F (dAt dkL_11 17 rfl) 2 rfl ?_
  refine g_aload_n F (dAt dkL_11 18 rfl) 0 rfl ?_
  refine g_iload_n F (dAt dkL_11 19 rfl) 3 rfl ?_
  refine g_iconst (v := 1) F (dAt dkL_11 20 rfl) (by decide) ?_
  refine g_iadd F (dAt dkL_11 21 rfl) ?_
  refine g_sld F hX (dAt dkL_11 22 rfl) hk1 ?_
  refine g_aload_n F (dAt dkL_11 23 rfl) 0 rfl ?_
  refine g_iload_n F (dAt dkL_11 24 rfl) 3 rfl ?_
  refine g_iconst (v := 2) F (dAt dkL_11 25 rfl) (by decide) ?_
  refine g_iadd F (dAt dkL_11 26 rfl) ?_
  refine g_sld F hX (dAt dkL_11 27 rfl) hk2 ?_
  refine g_aload_n F (dAt dkL_11 28 rfl) 0 rfl ?_
  refine g_iload_n F (dAt dkL_11 29 rfl) 3 rfl ?_
  refine g_iconst (v := 3) F (dAt dkL_12 0 rfl) (by decide) ?_
  refine g_iadd F (dAt dkL_12 1 rfl) ?_
  refine g_sld F hX (dAt dkL_12 2 rfl) hk3 ?_
  refine g_callV_im F mi_X6_road (gm mw_1006 rfl) (dAt dkL_12 3 rfl) (rcx_of F rc_Model) [.int (xs ((nI a) + 1).toNatClampNeg), .int (xs ((nI a) + 2).toNatClampNeg), .int (xs ((nI a) + 3).toNatClampNeg)] rfl rfl (by decide) (Nat.le_of_ble_eq_true rfl) (c_X6_road hJ h2) ?_
  refine g_eqY F (tgt := 1539) (dAt dkL_12 4 rfl) (by decide) ?_
  exact K _ _ hR2
set_option maxRecDepth 20000 in
theorem law_case10 {X : Cx} {l0 : Launch} {D : va_G} {ad : Nat → Nat} {g : Gv} {b L : Nat} {xs : Nat → Int32} (F : Fx X l0 D ad g code "MillOfDistancesLaw" 1000 4) (hX : XS X b L xs) (hJ : Jad ad) {Rl : Mem → Mem → Prop} {n : Nat} (hs : Stp10 Rl n) {t u : Mem} {a : Nat} (hk0 : inb (nI a) L = true) (hk1 : inb (nI a + 1) L = true) (hk2 : inb (nI a + 2) L = true) (hk3 : inb (nI a + 3) L = true) (hk4 : inb (nI a + 4) L = true) (hk5 : inb (nI a + 5) L = true) (hR : Rl t u) (K : ∀ t u, Rl t u → G X D ad g t u [(0, .ref b), (1, .ref (ad 0)), (2, .ref (ad 39)), (3, .int (nI a))] 1539 []) : G X D ad g t u [(0, .ref b), (1, .ref (ad 0)), (2, .ref (ad 39)), (3, .int (nI a))] 619 [] := by
  obtain ⟨r, t', u', h1, h2, hR2⟩ := hs t u (xs ((nI a) + 1).toNatClampNeg) (xs ((nI a) + 2).toNatClampNeg) hR
  refine g_aload_n F (dAt dkL_12 7 rfl) 1 rfl ?_
  refine g_aload_n F (dAt dkL_12 8 rfl) 0 rfl ?_
  refine g_iload_n F (dAt dkL_12 9 rfl) 3 rfl ?_
  refine g_iconst (v := 1) F (dAt dkL_12 10 rfl) (by decide) ?_
  refine g_iadd F (dAt dkL_12 11 rfl) ?_
  refine g_sld F hX (dAt dkL_12 12 rfl) hk1 ?_
  refine g_aload_n F (dAt dkL_12 13 rfl) 0 rfl ?_
  refine g_iload_n F (dAt dkL_12 14 rfl) 3 rfl ?_
  refine g_iconst (v := 2) F (dAt dkL_12 15 rfl) (by decide) ?_
  refine g_iadd F (dAt dkL_12 16 rfl) ?_
  refine g_sld F hX (dAt dkL_12 17 rfl) hk2 ?_
  refine g_callV_ic F mi_X5_miles (gm mw_390 rfl) (dAt dkL_12 18 rfl) (rcx_of F rc_Main) [.int (xs ((nI a) + 1).toNatClampNeg), .int (xs ((nI a) + 2).toNatClampNeg)] rfl rfl (by decide) (Nat.le_of_ble_eq_true rfl) (c_X5_miles hJ h1) ?_
  refine g_aload_n F (dAt dkL_12 19 rfl) 2 rfl ?_
  refine g_aload_n F (dAt dkL_12 20 rfl) 0 rfl ?_
  refine g_iload_n F (dAt dkL_12 21 rfl) 3 rfl ?_
  refine g_iconst (v := 1) F (dAt dkL_12 22 rfl) (by decide) ?_
  refine g_iadd F (dAt dkL_12 23 rfl) ?_
  refine g_sld F hX (dAt dkL_12 24 rfl) hk1 ?_
  refine g_aload_n F (dAt dkL_12 25 rfl) 0 rfl ?_
  refine g_iload_n F (dAt dkL_12 26 rfl) 3 rfl ?_
  refine g_iconst (v := 2) F (dAt dkL_12 27 rfl) (by decide) ?_
  refine g_iadd F (dAt dkL_12 28 rfl) ?_
  refine g_sld F hX (dAt dkL_12 29 rfl) hk2 ?_
  refine g_callV_im F mi_X6_miles (gm mw_1014 rfl) (dAt dkL_13 0 rfl) (rcx_of F rc_Model) [.int (xs ((nI a) + 1).toNatClampNeg), .int (xs ((nI a) + 2).toNatClampNeg)] rfl rfl (by decide) (Nat.le_of_ble_eq_true rfl) (c_X6_miles hJ h2) ?_
  refine g_eqY F (tgt := 1539) (dAt dkL_13 1 rfl) (by decide) ?_
  exact K _ _ hR2
set_option maxRecDepth 20000 in
theorem law_case11 {X : Cx} {l0 : Launch} {D : va_G} {ad : Nat → Nat} {g : Gv} {b L : Nat} {xs : Nat → Int32} (F : Fx X l0 D ad g code "MillOfDistancesLaw" 1000 4) (hX : XS X b L xs) (hJ : Jad ad) {Rl : Mem → Mem → Prop} {n : Nat} (hs : Stp11 Rl n) {t u : Mem} {a : Nat} (hk0 : inb (nI a) L = true) (hk1 : inb (nI a + 1) L = true) (hk2 : inb (nI a + 2) L = true) (hk3 : inb (nI a + 3) L = true) (hk4 : inb (nI a + 4) L = true) (hk5 : inb (nI a + 5) L = true) (hR : Rl t u) (K : ∀ t u, Rl t u → G X D ad g t u [(0, .ref b), (1, .ref (ad 0)), (2, .ref (ad 39)), (3, .int (nI a))] 1539 []) : G X D ad g t u [(0, .ref b), (1, .ref (ad 0)), (2, .ref (ad 39)), (3, .int (nI a))] 652 [] := by
  obtain ⟨r, t', u', h1, h2, hR2⟩ := hs t u (xs ((nI a) + 1).toNatClampNeg) (xs ((nI a) + 2).toNatClampNeg) hR
  refine g_aload_n F (dAt dkL_13 4 rfl) 1 rfl ?_
  refine g_aload_n F (dAt dkL_13 5 rfl) 0 rfl ?_
  refine g_iload_n F (dAt dkL_13 6 rfl) 3 rfl ?_
  refine g_iconst (v := 1) F (dAt dkL_13 7 rfl) (by decide) ?_
  refine g_iadd F (dAt dkL_13 8 rfl) ?_
  refine g_sld F hX (dAt dkL_13 9 rfl) hk1 ?_
  refine g_aload_n F (dAt dkL_13 10 rfl) 0 rfl ?_
  refine g_iload_n F (dAt dkL_13 11 rfl) 3 rfl ?_
  refine g_iconst (v := 2) F (dAt dkL_13 12 rfl) (by decide) ?_
  refine g_iadd F (dAt dkL_13 13 rfl) ?_
  refine g_sld F hX (dAt dkL_13 14 rfl) hk2 ?_
  refine g_callV_ic F mi_X5_ask (gm mw_398 rfl) (dAt dkL_13 15 rfl) (rcx_of F rc_Main) [.int (xs ((nI a) + 1).toNatClampNeg), .int (xs ((nI a) + 2).toNatClampNeg)] rfl rfl (by decide) (Nat.le_of_ble_eq_true rfl) (c_X5_ask hJ h1) ?_
  refine g_aload_n F (dAt dkL_13 16 rfl) 2 rfl ?_
  refine g_aload_n F (dAt dkL_13 17 rfl) 0 rfl ?_
  refine g_iload_n F (dAt dkL_13 18 rfl) 3 rfl ?_
  refine g_iconst (v := 1) F (dAt dkL_13 19 rfl) (by decide) ?_
  refine g_iadd F (dAt dkL_13 20 rfl) ?_
  refine g_sld F hX (dAt dkL_13 21 rfl) hk1 ?_
  refine g_aload_n F (dAt dkL_13 22 rfl) 0 rfl ?_
  refine g_iload_n F (dAt dkL_13 23 rfl) 3 rfl ?_
  refine g_iconst (v := 2) F (dAt dkL_13 24 rfl) (by decide) ?_
  refine g_iadd F (dAt dkL_13 25 rfl) ?_
  refine g_sld F hX (dAt dkL_13 26 rfl) hk2 ?_
  refine g_callV_im F mi_X6_ask (gm mw_1022 rfl) (dAt dkL_13 27 rfl) (rcx_of F rc_Model) [.int (xs ((nI a) + 1).toNatClampNeg), .int (xs ((nI a) + 2).toNatClampNeg)] rfl rfl (by decide) (Nat.le_of_ble_eq_true rfl) (c_X6_ask hJ h2) ?_
  refine g_eqY F (tgt := 1539) (dAt dkL_13 28 rfl) (by decide) ?_
  exact K _ _ hR2
set_option maxRecDepth 20000 in
theorem law_case12 {X : Cx} {l0 : Launch} {D : va_G} {ad : Nat → Nat} {g : Gv} {b L : Nat} {xs : Nat → Int32} (F : Fx X l0 D ad g code "MillOfDistancesLaw" 1000 4) (hX : XS X b L xs) (hJ : Jad ad) {Rl : Mem → Mem → Prop} {n : Nat} (hs : Stp12 Rl n) {t u : Mem} {a : Nat} (hk0 : inb (nI a) L = true) (hk1 : inb (nI a + 1) L = true) (hk2 : inb (nI a + 2) L = true) (hk3 : inb (nI a + 3) L = true) (hk4 : inb (nI a + 4) L = true) (hk5 : inb (nI a + 5) L = true) (hR : Rl t u) (K : ∀ t u, Rl t u → G X D ad g t u [(0, .ref b), (1, .ref (ad 0)), (2, .ref (ad 39)), (3, .int (nI a))] 1539 []) : G X D ad g t u [(0, .ref b), (1, .ref (ad 0)), (2, .ref (ad 39)), (3, .int (nI a))] 685 [] := by
  obtain ⟨r, t', u', h1, h2, hR2⟩ := hs t u (xs ((nI a) + 1).toNatClampNeg) hR
  refine g_aload_n F (dAt dkL_14 1 rfl) 1 rfl ?_
  refine g_aload_n F (dAt dkL_14 2 rfl) 0 rfl ?_
  refine g_iload_n F (dAt dkL_14 3 rfl) 3 rfl ?_
  refine g_iconst (v := 1) F (dAt dkL_14 4 rfl) (by decide) ?_
  refine g_iadd F (dAt dkL_14 5 rfl) ?_
  refine g_sld F hX (dAt dkL_14 6 rfl) hk1 ?_
  refine g_callV_ic F mi_X5_map (gm mw_403 rfl) (dAt dkL_14 7 rfl) (rcx_of F rc_Main) [.int (xs ((nI a) + 1).toNatClampNeg)] rfl rfl (by decide) (Nat.le_of_ble_eq_true rfl) (c_X5_map hJ h1) ?_
  refine g_aload_n F (dAt dkL_14 8 rfl) 2 rfl ?_
  refine g_aload_n F (dAt dkL_14 9 rfl) 0 rfl ?_
  refine g_iload_n F (dAt dkL_14 10 rfl) 3 rfl ?_
  refine g_iconst (v := 1) F (dAt dkL_14 11 rfl) (by decide) ?_
  refine g_iadd F (dAt dkL_14 12 rfl) ?_
  refine g_sld F hX (dAt dkL_14 13 rfl) hk1 ?_
  refine g_callV_im F mi_X6_map (gm mw_1027 rfl) (dAt dkL_14 14 rfl) (rcx_of F rc_Model) [.int (xs ((nI a) + 1).toNatClampNeg)] rfl rfl (by decide) (Nat.le_of_ble_eq_true rfl) (c_X6_map hJ h2) ?_
  refine g_eqY F (tgt := 1539) (dAt dkL_14 15 rfl) (by decide) ?_
  exact K _ _ hR2
set_option maxRecDepth 20000 in
theorem law_case13 {X : Cx} {l0 : Launch} {D : va_G} {ad : Nat → Nat} {g : Gv} {b L : Nat} {xs : Nat → Int32} (F : Fx X l0 D ad g code "MillOfDistancesLaw" 1000 4) (hX : XS X b L xs) (hJ : Jad ad) {Rl : Mem → Mem → Prop} {n : Nat} (hs : Stp13 Rl n) {t u : Mem} {a : Nat} (hk0 : inb (nI a) L = true) (hk1 : inb (nI a + 1) L = true) (hk2 : inb (nI a + 2) L = true) (hk3 : inb (nI a + 3) L = true) (hk4 : inb (nI a + 4) L = true) (hk5 : inb (nI a + 5) L = true) (hR : Rl t u) (K : ∀ t u, Rl t u → G X D ad g t u [(0, .ref b), (1, .ref (ad 0)), (2, .ref (ad 39)), (3, .int (nI a))] 1539 []) : G X D ad g t u [(0, .ref b), (1, .ref (ad 0)), (2, .ref (ad 39)), (3, .int (nI a))] 708 [] := by
  obtain ⟨r, t', u', h1, h2, hR2⟩ := hs t u  hR
  refine g_aload_n F (dAt dkL_14 18 rfl) 1 rfl ?_
  refine g_callV_ic F mi_X5_fault (gm mw_548 rfl) (dAt dkL_14 19 rfl) (rcx_of F rc_Main) [] rfl rfl (by decide) (Nat.le_of_ble_eq_true rfl) (c_X5_fault hJ h1) ?_
  refine g_aload_n F (dAt dkL_14 20 rfl) 2 rfl ?_
  refine g_callV_im F mi_X6_fault (gm mw_1102 rfl) (dAt dkL_14 21 rfl) (rcx_of F rc_Model) [] rfl rfl (by decide) (Nat.le_of_ble_eq_true rfl) (c_X6_fault hJ h2) ?_
  refine g_eqY F (tgt := 1539) (dAt dkL_14 22 rfl) (by decide) ?_
  exact K _ _ hR2
set_option maxRecDepth 20000 in
theorem law_case14 {X : Cx} {l0 : Launch} {D : va_G} {ad : Nat → Nat} {g : Gv} {b L : Nat} {xs : Nat → Int32} (F : Fx X l0 D ad g code "MillOfDistancesLaw" 1000 4) (hX : XS X b L xs) (hJ : Jad ad) {Rl : Mem → Mem → Prop} {n : Nat} (hs : Stp14 Rl n) {t u : Mem} {a : Nat} (hk0 : inb (nI a) L = true) (hk1 : inb (nI a + 1) L = true) (hk2 : inb (nI a + 2) L = true) (hk3 : inb (nI a + 3) L = true) (hk4 : inb (nI a + 4) L = true) (hk5 : inb (nI a + 5) L = true) (hR : Rl t u) (K : ∀ t u, Rl t u → G X D ad g t u [(0, .ref b), (1, .ref (ad 0)), (2, .ref (ad 39)), (3, .int (nI a))] 1539 []) : G X D ad g t u [(0, .ref b), (1, .ref (ad 0)), (2, .ref (ad 39)), (3, .int (nI a))] 721 [] := by
  obtain ⟨r, t', u', h1, h2, hR2⟩ := hs t u (xs ((nI a) + 1).toNatClampNeg) (xs ((nI a) + 2).toNatClampNeg) (xs ((nI a) + 3).toNatClampNeg) hR
  refine g_aload_n F (dAt dkL_14 25 rfl) 1 rfl ?_
  refine g_aload_n F (dAt dkL_14 26 rfl) 0 rfl ?_
  refine g_iload_n F (dAt dkL_14 27 rfl) 3 rfl ?_
  refine g_iconst (v := 1) F (dAt dkL_14 28 rfl) (by decide) ?_
  refine g_iadd F (dAt dkL_14 29 rfl) ?_
  refine g_sld F hX (dAt dkL_15 0 rfl) hk1 ?_
  refine g_aload_n F (dAt dkL_15 1 rfl) 0 rfl ?_
  refine g_iload_n F (dAt dkL_15 2 rfl) 3 rfl ?_
  refine g_iconst (v := 2) F (dAt dkL_15 3 rfl) (by decide) ?_
  refine g_iadd F (dAt dkL_15 4 rfl) ?_
  refine g_sld F hX (dAt dkL_15 5 rfl) hk2 ?_
  refine g_aload_n F (dAt dkL_15 6 rfl) 0 rfl ?_
  refine g_iload_n F (dAt dkL_15 7 rfl) 3 rfl ?_
  refine g_iconst (v := 3) F (dAt dkL_15 8 rfl) (by decide) ?_
  refine g_iadd F (dAt dkL_15 9 rfl) ?_
  refine g_sld F hX (dAt dkL_15 10 rfl) hk3 ?_
  refine g_callV_ic F mi_X5_cost (gm mw_552 rfl) (dAt dkL_15 11 rfl) (rcx_of F rc_Main) [.int (xs ((nI a) + 1).toNatClampNeg), .int (xs ((nI a) + 2).toNatClampNeg), .int (xs ((nI a) + 3).toNatClampNeg)] rfl rfl (by decide) (Nat.le_of_ble_eq_true rfl) (c_X5_cost hJ h1) ?_
  refine g_aload_n F (dAt dkL_15 12 rfl) 2 rfl ?_
  refine g_aload_n F (dAt dkL_15 13 rfl) 0 rfl ?_
  refine g_iload_n F (dAt dkL_15 14 rfl) 3 rfl ?_
  refine g_iconst (v := 1) F (dAt dkL_15 15 rfl) (by decide) ?_
  refine g_iadd F (dAt dkL_15 16 rfl) ?_
  refine g_sld F hX (dAt dkL_15 17 rfl) hk1 ?_
  refine g_aload_n F (dAt dkL_15 18 rfl) 0 rfl ?_
  refine g_iload_n F (dAt dkL_15 19 rfl) 3 rfl ?_
  refine g_iconst (v := 2) F (dAt dkL_15 20 rfl) (by decide) ?_
  refine g_iadd F (dAt dkL_15 21 rfl) ?_
  refine g_sld F hX (dAt dkL_15 22 rfl) hk2 ?_
  refine g_aload_n F (dAt dkL_15 23 rfl) 0 rfl ?_
  refine g_iload_n F (dAt dkL_15 24 rfl) 3 rfl ?_
  refine g_iconst (v := 3) F (dAt dkL_15 25 rfl) (by decide) ?_
  refine g_iadd F (dAt dkL_15 26 rfl) ?_
  refine g_sld F hX (dAt dkL_15 27 rfl) hk3 ?_
  refine g_callV_im F mi_X6_cost (gm mw_1106 rfl) (dAt dkL_15 28 rfl) (rcx_of F rc_Model) [.int (xs ((nI a) + 1).toNatClampNeg), .int (xs ((nI a) + 2).toNatClampNeg), .int (xs ((nI a) + 3).toNatClampNeg)] rfl rfl (by decide) (Nat.le_of_ble_eq_true rfl) (c_X6_cost hJ h2) ?_
  refine g_eqY F (tgt := 1539) (dAt dkL_15 29 rfl) (by decide) ?_
  exact K _ _ hR2
set_option maxRecDepth 20000 in
theorem law_case15 {X : Cx} {l0 : Launch} {D : va_G} {ad : Nat → Nat} {g : Gv} {b L : Nat} {xs : Nat → Int32} (F : Fx X l0 D ad g code "MillOfDistancesLaw" 1000 4) (hX : XS X b L xs) (hJ : Jad ad) {Rl : Mem → Mem → Prop} {n : Nat} (hs : Stp15 Rl n) {t u : Mem} {a : Nat} (hk0 : inb (nI a) L = true) (hk1 : inb (nI a + 1) L = true) (hk2 : inb (nI a + 2) L = true) (hk3 : inb (nI a + 3) L = true) (hk4 : inb (nI a + 4) L = true) (hk5 : inb (nI a + 5) L = true) (hR : Rl t u) (K : ∀ t u, Rl t u → G X D ad g t u [(0, .ref b), (1, .ref (ad 0)), (2, .ref (ad 39)), (3, .int (nI a))] 1539 []) : G X D ad g t u [(0, .ref b), (1, .ref (ad 0)), (2, .ref (ad 39)), (3, .int (nI a))] 764 [] := by
  obtain ⟨r, t', u', h1, h2, hR2⟩ := hs t u (xs ((nI a) + 1).toNatClampNeg) (xs ((nI a) + 2).toNatClampNeg) hR
  refine g_aload_n F (dAt dkL_16 2 rfl) 1 rfl ?_
  refine g_aload_n F (dAt dkL_16 3 rfl) 0 rfl ?_
  refine g_iload_n F (dAt dkL_16 4 rfl) 3 rfl ?_
  refine g_iconst (v := 1) F (dAt dkL_16 5 rfl) (by decide) ?_
  refine g_iadd F (dAt dkL_16 6 rfl) ?_
  refine g_sld F hX (dAt dkL_16 7 rfl) hk1 ?_
  refine g_aload_n F (dAt dkL_16 8 rfl) 0 rfl ?_
  refine g_iload_n F (dAt dkL_16 9 rfl) 3 rfl ?_
  refine g_iconst (v := 2) F (dAt dkL_16 10 rfl) (by decide) ?_
  refine g_iadd F (dAt dkL_16 11 rfl) ?_
  refine g_sld F hX (dAt dkL_16 12 rfl) hk2 ?_
  refine g_callV_ic F mi_X5_yields (gm mw_557 rfl) (dAt dkL_16 13 rfl) (rcx_of F rc_Main) [.int (xs ((nI a) + 1).toNatClampNeg), .int (xs ((nI a) + 2).toNatClampNeg)] rfl rfl (by decide) (Nat.le_of_ble_eq_true rfl) (c_X5_yields hJ h1) ?_
  refine g_aload_n F (dAt dkL_16 14 rfl) 2 rfl ?_
  refine g_aload_n F (dAt dkL_16 15 rfl) 0 rfl ?_
  refine g_iload_n F (dAt dkL_16 16 rfl) 3 rfl ?_
  refine g_iconst (v := 1) F (dAt dkL_16 17 rfl) (by decide) ?_
  refine g_iadd F (dAt dkL_16 18 rfl) ?_
  refine g_sld F hX (dAt dkL_16 19 rfl) hk1 ?_
  refine g_aload_n F (dAt dkL_16 20 rfl) 0 rfl ?_
  refine g_iload_n F (dAt dkL_16 21 rfl) 3 rfl ?_
  refine g_iconst (v := 2) F (dAt dkL_16 22 rfl) (by decide) ?_
  refine g_iadd F (dAt dkL_16 23 rfl) ?_
  refine g_sld F hX (dAt dkL_16 24 rfl) hk2 ?_
  refine g_callV_im F mi_X6_yields (gm mw_1110 rfl) (dAt dkL_16 25 rfl) (rcx_of F rc_Model) [.int (xs ((nI a) + 1).toNatClampNeg), .int (xs ((nI a) + 2).toNatClampNeg)] rfl rfl (by decide) (Nat.le_of_ble_eq_true rfl) (c_X6_yields hJ h2) ?_
  refine g_eqY F (tgt := 1539) (dAt dkL_16 26 rfl) (by decide) ?_
  exact K _ _ hR2
set_option maxRecDepth 20000 in
theorem law_case16 {X : Cx} {l0 : Launch} {D : va_G} {ad : Nat → Nat} {g : Gv} {b L : Nat} {xs : Nat → Int32} (F : Fx X l0 D ad g code "MillOfDistancesLaw" 1000 4) (hX : XS X b L xs) (hJ : Jad ad) {Rl : Mem → Mem → Prop} {n : Nat} (hs : Stp16 Rl n) {t u : Mem} {a : Nat} (hk0 : inb (nI a) L = true) (hk1 : inb (nI a + 1) L = true) (hk2 : inb (nI a + 2) L = true) (hk3 : inb (nI a + 3) L = true) (hk4 : inb (nI a + 4) L = true) (hk5 : inb (nI a + 5) L = true) (hR : Rl t u) (K : ∀ t u, Rl t u → G X D ad g t u [(0, .ref b), (1, .ref (ad 0)), (2, .ref (ad 39)), (3, .int (nI a))] 1539 []) : G X D ad g t u [(0, .ref b), (1, .ref (ad 0)), (2, .ref (ad 39)), (3, .int (nI a))] 797 [] := by
  obtain ⟨r, t', u', h1, h2, hR2⟩ := hs t u (xs ((nI a) + 1).toNatClampNeg) (xs ((nI a) + 2).toNatClampNeg) hR
  refine g_aload_n F (dAt dkL_16 29 rfl) 1 rfl ?_
  refine g_aload_n F (dAt dkL_17 0 rfl) 0 rfl ?_
  refine g_iload_n F (dAt dkL_17 1 rfl) 3 rfl ?_
  refine g_iconst (v := 1) F (dAt dkL_17 2 rfl) (by decide) ?_
  refine g_iadd F (dAt dkL_17 3 rfl) ?_
  refine g_sld F hX (dAt dkL_17 4 rfl) hk1 ?_
  refine g_aload_n F (dAt dkL_17 5 rfl) 0 rfl ?_
  refine g_iload_n F (dAt dkL_17 6 rfl) 3 rfl ?_
  refine g_iconst (v := 2) F (dAt dkL_17 7 rfl) (by decide) ?_
  refine g_iadd F (dAt dkL_17 8 rfl) ?_
  refine g_sld F hX (dAt dkL_17 9 rfl) hk2 ?_
  refine g_callV_ic F mi_X5_away (gm mw_566 rfl) (dAt dkL_17 10 rfl) (rcx_of F rc_Main) [.int (xs ((nI a) + 1).toNatClampNeg), .int (xs ((nI a) + 2).toNatClampNeg)] rfl rfl (by decide) (Nat.le_of_ble_eq_true rfl) (c_X5_away hJ h1) ?_
  refine g_aload_n F (dAt dkL_17 11 rfl) 2 rfl ?_
  refine g_aload_n F (dAt dkL_17 12 rfl) 0 rfl ?_
  refine g_iload_n F (dAt dkL_17 13 rfl) 3 rfl ?_
  refine g_iconst (v := 1) F (dAt dkL_17 14 rfl) (by decide) ?_
  refine g_iadd F (dAt dkL_17 15 rfl) ?_
  refine g_sld F hX (dAt dkL_17 16 rfl) hk1 ?_
  refine g_aload_n F (dAt dkL_17 17 rfl) 0 rfl ?_
  refine g_iload_n F (dAt dkL_17 18 rfl) 3 rfl ?_
  refine g_iconst (v := 2) F (dAt dkL_17 19 rfl) (by decide) ?_
  refine g_iadd F (dAt dkL_17 20 rfl) ?_
  refine g_sld F hX (dAt dkL_17 21 rfl) hk2 ?_
  refine g_callV_im F mi_X6_away (gm mw_1114 rfl) (dAt dkL_17 22 rfl) (rcx_of F rc_Model) [.int (xs ((nI a) + 1).toNatClampNeg), .int (xs ((nI a) + 2).toNatClampNeg)] rfl rfl (by decide) (Nat.le_of_ble_eq_true rfl) (c_X6_away hJ h2) ?_
  refine g_eqY F (tgt := 1539) (dAt dkL_17 23 rfl) (by decide) ?_
  exact K _ _ hR2
set_option maxRecDepth 20000 in
theorem law_case17 {X : Cx} {l0 : Launch} {D : va_G} {ad : Nat → Nat} {g : Gv} {b L : Nat} {xs : Nat → Int32} (F : Fx X l0 D ad g code "MillOfDistancesLaw" 1000 4) (hX : XS X b L xs) (hJ : Jad ad) {Rl : Mem → Mem → Prop} {n : Nat} (hs : Stp17 Rl n) {t u : Mem} {a : Nat} (hk0 : inb (nI a) L = true) (hk1 : inb (nI a + 1) L = true) (hk2 : inb (nI a + 2) L = true) (hk3 : inb (nI a + 3) L = true) (hk4 : inb (nI a + 4) L = true) (hk5 : inb (nI a + 5) L = true) (hR : Rl t u) (K : ∀ t u, Rl t u → G X D ad g t u [(0, .ref b), (1, .ref (ad 0)), (2, .ref (ad 39)), (3, .int (nI a))] 1539 []) : G X D ad g t u [(0, .ref b), (1, .ref (ad 0)), (2, .ref (ad 39)), (3, .int (nI a))] 830 [] := by
  obtain ⟨r, t', u', h1, h2, hR2⟩ := hs t u (xs ((nI a) + 1).toNatClampNeg) (xs ((nI a) + 2).toNatClampNeg) (xs ((nI a) + 3).toNatClampNeg) hR
  refine g_aload_n F (dAt dkL_17 26 rfl) 1 rfl ?_
  refine g_aload_n F (dAt dkL_17 27 rfl) 0 rfl ?_
  refine g_iload_n F (dAt dkL_17 28 rfl) 3 rfl ?_
  refine g_iconst (v := 1) F (dAt dkL_17 29 rfl) (by decide) ?_
  refine g_iadd F (dAt dkL_18 0 rfl) ?_
  refine g_sld F hX (dAt dkL_18 1 rfl) hk1 ?_
  refine g_aload_n F (dAt dkL_18 2 rfl) 0 rfl ?_
  refine g_iload_n F (dAt dkL_18 3 rfl) 3 rfl ?_
  refine g_iconst (v := 2) F (dAt dkL_18 4 rfl) (by decide) ?_
  refine g_iadd F (dAt dkL_18 5 rfl) ?_
  refine g_sld F hX (dAt dkL_18 6 rfl) hk2 ?_
  refine g_aload_n F (dAt dkL_18 7 rfl) 0 rfl ?_
  refine g_iload_n F (dAt dkL_18 8 rfl) 3 rfl ?_
  refine g_iconst (v := 3) F (dAt dkL_18 9 rfl) (by decide) ?_
  refine g_iadd F (dAt dkL_18 10 rfl) ?_
  refine g_sld F hX (dAt dkL_18 11 rfl) hk3 ?_
  refine g_callV_ic F mi_X5_shortest (gm mw_604 rfl) (dAt dkL_18 12 rfl) (rcx_of F rc_Main) [.int (xs ((nI a) + 1).toNatClampNeg), .int (xs ((nI a) + 2).toNatClampNeg), .int (xs ((nI a) + 3).toNatClampNeg)] rfl rfl (by decide) (Nat.le_of_ble_eq_true rfl) (c_X5_shortest hJ h1) ?_
  refine g_aload_n F (dAt dkL_18 13 rfl) 2 rfl ?_
  refine g_aload_n F (dAt dkL_18 14 rfl) 0 rfl ?_
  refine g_iload_n F (dAt dkL_18 15 rfl) 3 rfl ?_
  refine g_iconst (v := 1) F (dAt dkL_18 16 rfl) (by decide) ?_
  refine g_iadd F (dAt dkL_18 17 rfl) ?_
  refine g_sld F hX (dAt dkL_18 18 rfl) hk1 ?_
  refine g_aload_n F (dAt dkL_18 19 rfl) 0 rfl ?_
  refine g_iload_n F (dAt dkL_18 20 rfl) 3 rfl ?_
  refine g_iconst (v := 2) F (dAt dkL_18 21 rfl) (by decide) ?_
  refine g_iadd F (dAt dkL_18 22 rfl) ?_
  refine g_sld F hX (dAt dkL_18 23 rfl) hk2 ?_
  refine g_aload_n F (dAt dkL_18 24 rfl) 0 rfl ?_
  refine g_iload_n F (dAt dkL_18 25 rfl) 3 rfl ?_
  refine g_iconst (v := 3) F (dAt dkL_18 26 rfl) (by decide) ?_
  refine g_iadd F (dAt dkL_18 27 rfl) ?_
  refine g_sld F hX (dAt dkL_18 28 rfl) hk3 ?_
  refine g_callV_im F mi_X6_shortest (gm mw_1126 rfl) (dAt dkL_18 29 rfl) (rcx_of F rc_Model) [.int (xs ((nI a) + 1).toNatClampNeg), .int (xs ((nI a) + 2).toNatClampNeg), .int (xs ((nI a) + 3).toNatClampNeg)] rfl rfl (by decide) (Nat.le_of_ble_eq_true rfl) (c_X6_shortest hJ h2) ?_
  refine g_eqY F (tgt := 1539) (dAt dkL_19 0 rfl) (by decide) ?_
  exact K _ _ hR2
set_option maxRecDepth 20000 in
theorem law_case18 {X : Cx} {l0 : Launch} {D : va_G} {ad : Nat → Nat} {g : Gv} {b L : Nat} {xs : Nat → Int32} (F : Fx X l0 D ad g code "MillOfDistancesLaw" 1000 4) (hX : XS X b L xs) (hJ : Jad ad) {Rl : Mem → Mem → Prop} {n : Nat} (hs : Stp18 Rl n) {t u : Mem} {a : Nat} (hk0 : inb (nI a) L = true) (hk1 : inb (nI a + 1) L = true) (hk2 : inb (nI a + 2) L = true) (hk3 : inb (nI a + 3) L = true) (hk4 : inb (nI a + 4) L = true) (hk5 : inb (nI a + 5) L = true) (hR : Rl t u) (K : ∀ t u, Rl t u → G X D ad g t u [(0, .ref b), (1, .ref (ad 0)), (2, .ref (ad 39)), (3, .int (nI a))] 1539 []) : G X D ad g t u [(0, .ref b), (1, .ref (ad 0)), (2, .ref (ad 39)), (3, .int (nI a))] 873 [] := by
  obtain ⟨r, t', u', h1, h2, hR2⟩ := hs t u (xs ((nI a) + 1).toNatClampNeg) (xs ((nI a) + 2).toNatClampNeg) hR
  refine g_aload_n F (dAt dkL_19 3 rfl) 1 rfl ?_
  refine g_aload_n F (dAt dkL_19 4 rfl) 0 rfl ?_
  refine g_iload_n F (dAt dkL_19 5 rfl) 3 rfl ?_
  refine g_iconst (v := 1) F (dAt dkL_19 6 rfl) (by decide) ?_
  refine g_iadd F (dAt dkL_19 7 rfl) ?_
  refine g_sld F hX (dAt dkL_19 8 rfl) hk1 ?_
  refine g_aload_n F (dAt dkL_19 9 rfl) 0 rfl ?_
  refine g_iload_n F (dAt dkL_19 10 rfl) 3 rfl ?_
  refine g_iconst (v := 2) F (dAt dkL_19 11 rfl) (by decide) ?_
  refine g_iadd F (dAt dkL_19 12 rfl) ?_
  refine g_sld F hX (dAt dkL_19 13 rfl) hk2 ?_
  refine g_callV_ic F mi_X5_within (gm mw_613 rfl) (dAt dkL_19 14 rfl) (rcx_of F rc_Main) [.int (xs ((nI a) + 1).toNatClampNeg), .int (xs ((nI a) + 2).toNatClampNeg)] rfl rfl (by decide) (Nat.le_of_ble_eq_true rfl) (c_X5_within hJ h1) ?_
  refine g_aload_n F (dAt dkL_19 15 rfl) 2 rfl ?_
  refine g_aload_n F (dAt dkL_19 16 rfl) 0 rfl ?_
  refine g_iload_n F (dAt dkL_19 17 rfl) 3 rfl ?_
  refine g_iconst (v := 1) F (dAt dkL_19 18 rfl) (by decide) ?_
  refine g_iadd F (dAt dkL_19 19 rfl) ?_
  refine g_sld F hX (dAt dkL_19 20 rfl) hk1 ?_
  refine g_aload_n F (dAt dkL_19 21 rfl) 0 rfl ?_
  refine g_iload_n F (dAt dkL_19 22 rfl) 3 rfl ?_
  refine g_iconst (v := 2) F (dAt dkL_19 23 rfl) (by decide) ?_
  refine g_iadd F (dAt dkL_19 24 rfl) ?_
  refine g_sld F hX (dAt dkL_19 25 rfl) hk2 ?_
  refine g_callV_im F mi_X6_within_ (gm mw_1134 rfl) (dAt dkL_19 26 rfl) (rcx_of F rc_Model) [.int (xs ((nI a) + 1).toNatClampNeg), .int (xs ((nI a) + 2).toNatClampNeg)] rfl rfl (by decide) (Nat.le_of_ble_eq_true rfl) (c_X6_within_ hJ h2) ?_
  refine g_eqY F (tgt := 1539) (dAt dkL_19 27 rfl) (by decide) ?_
  exact K _ _ hR2
set_option maxRecDepth 20000 in
theorem law_case19 {X : Cx} {l0 : Launch} {D : va_G} {ad : Nat → Nat} {g : Gv} {b L : Nat} {xs : Nat → Int32} (F : Fx X l0 D ad g code "MillOfDistancesLaw" 1000 4) (hX : XS X b L xs) (hJ : Jad ad) {Rl : Mem → Mem → Prop} {n : Nat} (hs : Stp19 Rl n) {t u : Mem} {a : Nat} (hk0 : inb (nI a) L = true) (hk1 : inb (nI a + 1) L = true) (hk2 : inb (nI a + 2) L = true) (hk3 : inb (nI a + 3) L = true) (hk4 : inb (nI a + 4) L = true) (hk5 : inb (nI a + 5) L = true) (hR : Rl t u) (K : ∀ t u, Rl t u → G X D ad g t u [(0, .ref b), (1, .ref (ad 0)), (2, .ref (ad 39)), (3, .int (nI a))] 1539 []) : G X D ad g t u [(0, .ref b), (1, .ref (ad 0)), (2, .ref (ad 39)), (3, .int (nI a))] 906 [] := by
  obtain ⟨r, t', u', h1, h2, hR2⟩ := hs t u (xs ((nI a) + 1).toNatClampNeg) hR
  refine g_aload_n F (dAt dkL_20 0 rfl) 1 rfl ?_
  refine g_aload_n F (dAt dkL_20 1 rfl) 0 rfl ?_
  refine g_iload_n F (dAt dkL_20 2 rfl) 3 rfl ?_
  refine g_iconst (v := 1) F (dAt dkL_20 3 rfl) (by decide) ?_
  refine g_iadd F (dAt dkL_20 4 rfl) ?_
  refine g_sld F hX (dAt dkL_20 5 rfl) hk1 ?_
  refine g_callV_ic F mi_X5_whole (gm mw_621 rfl) (dAt dkL_20 6 rfl) (rcx_of F rc_Main) [.int (xs ((nI a) + 1).toNatClampNeg)] rfl rfl (by decide) (Nat.le_of_ble_eq_true rfl) (c_X5_whole hJ h1) ?_
  refine g_aload_n F (dAt dkL_20 7 rfl) 2 rfl ?_
  refine g_aload_n F (dAt dkL_20 8 rfl) 0 rfl ?_
  refine g_iload_n F (dAt dkL_20 9 rfl) 3 rfl ?_
  refine g_iconst (v := 1) F (dAt dkL_20 10 rfl) (by decide) ?_
  refine g_iadd F (dAt dkL_20 11 rfl) ?_
  refine g_sld F hX (dAt dkL_20 12 rfl) hk1 ?_
  refine g_callV_im F mi_X6_whole (gm mw_1138 rfl) (dAt dkL_20 13 rfl) (rcx_of F rc_Model) [.int (xs ((nI a) + 1).toNatClampNeg)] rfl rfl (by decide) (Nat.le_of_ble_eq_true rfl) (c_X6_whole hJ h2) ?_
  refine g_eqY F (tgt := 1539) (dAt dkL_20 14 rfl) (by decide) ?_
  exact K _ _ hR2
set_option maxRecDepth 20000 in
theorem law_case20 {X : Cx} {l0 : Launch} {D : va_G} {ad : Nat → Nat} {g : Gv} {b L : Nat} {xs : Nat → Int32} (F : Fx X l0 D ad g code "MillOfDistancesLaw" 1000 4) (hX : XS X b L xs) (hJ : Jad ad) {Rl : Mem → Mem → Prop} {n : Nat} (hs : Stp20 Rl n) {t u : Mem} {a : Nat} (hk0 : inb (nI a) L = true) (hk1 : inb (nI a + 1) L = true) (hk2 : inb (nI a + 2) L = true) (hk3 : inb (nI a + 3) L = true) (hk4 : inb (nI a + 4) L = true) (hk5 : inb (nI a + 5) L = true) (hR : Rl t u) (K : ∀ t u, Rl t u → G X D ad g t u [(0, .ref b), (1, .ref (ad 0)), (2, .ref (ad 39)), (3, .int (nI a))] 1539 []) : G X D ad g t u [(0, .ref b), (1, .ref (ad 0)), (2, .ref (ad 39)), (3, .int (nI a))] 929 [] := by
  obtain ⟨r, t', u', h1, h2, hR2⟩ := hs t u (xs ((nI a) + 1).toNatClampNeg) (xs ((nI a) + 2).toNatClampNeg) (xs ((nI a) + 3).toNatClampNeg) hR
  refine g_aload_n F (dAt dkL_20 17 rfl) 1 rfl ?_
  refine g_aload_n F (dAt dkL_20 18 rfl) 0 rfl ?_
  refine g_iload_n F (dAt dkL_20 19 rfl) 3 rfl ?_
  refine g_iconst (v := 1) F (dAt dkL_20 20 rfl) (by decide) ?_
  refine g_iadd F (dAt dkL_20 21 rfl) ?_
  refine g_sld F hX (dAt dkL_20 22 rfl) hk1 ?_
  refine g_aload_n F (dAt dkL_20 23 rfl) 0 rfl ?_
  refine g_iload_n F (dAt dkL_20 24 rfl) 3 rfl ?_
  refine g_iconst (v := 2) F (dAt dkL_20 25 rfl) (by decide) ?_
  refine g_iadd F (dAt dkL_20 26 rfl) ?_
  refine g_sld F hX (dAt dkL_20 27 rfl) hk2 ?_
  refine g_aload_n F (dAt dkL_20 28 rfl) 0 rfl ?_
  refine g_iload_n F (dAt dkL_20 29 rfl) 3 rfl ?_
  refine g_iconst (v := 3) F (dAt dkL_21 0 rfl) (by decide) ?_
  refine g_iadd F (dAt dkL_21 1 rfl) ?_
  refine g_sld F hX (dAt dkL_21 2 rfl) hk3 ?_
  refine g_callV_ic F mi_X5_harm (gm mw_648 rfl) (dAt dkL_21 3 rfl) (rcx_of F rc_Main) [.int (xs ((nI a) + 1).toNatClampNeg), .int (xs ((nI a) + 2).toNatClampNeg), .int (xs ((nI a) + 3).toNatClampNeg)] rfl rfl (by decide) (Nat.le_of_ble_eq_true rfl) (c_X5_harm hJ h1) ?_
  refine g_aload_n F (dAt dkL_21 4 rfl) 2 rfl ?_
  refine g_aload_n F (dAt dkL_21 5 rfl) 0 rfl ?_
  refine g_iload_n F (dAt dkL_21 6 rfl) 3 rfl ?_
  refine g_iconst (v := 1) F (dAt dkL_21 7 rfl) (by decide) ?_
  refine g_iadd F (dAt dkL_21 8 rfl) ?_
  refine g_sld F hX (dAt dkL_21 9 rfl) hk1 ?_
  refine g_aload_n F (dAt dkL_21 10 rfl) 0 rfl ?_
  refine g_iload_n F (dAt dkL_21 11 rfl) 3 rfl ?_
  refine g_iconst (v := 2) F (dAt dkL_21 12 rfl) (by decide) ?_
  refine g_iadd F (dAt dkL_21 13 rfl) ?_
  refine g_sld F hX (dAt dkL_21 14 rfl) hk2 ?_
  refine g_aload_n F (dAt dkL_21 15 rfl) 0 rfl ?_
  refine g_iload_n F (dAt dkL_21 16 rfl) 3 rfl ?_
  refine g_iconst (v := 3) F (dAt dkL_21 17 rfl) (by decide) ?_
  refine g_iadd F (dAt dkL_21 18 rfl) ?_
  refine g_sld F hX (dAt dkL_21 19 rfl) hk3 ?_
  refine g_callV_im F mi_X6_harm (gm mw_1161 rfl) (dAt dkL_21 20 rfl) (rcx_of F rc_Model) [.int (xs ((nI a) + 1).toNatClampNeg), .int (xs ((nI a) + 2).toNatClampNeg), .int (xs ((nI a) + 3).toNatClampNeg)] rfl rfl (by decide) (Nat.le_of_ble_eq_true rfl) (c_X6_harm hJ h2) ?_
  refine g_eqY F (tgt := 1539) (dAt dkL_21 21 rfl) (by decide) ?_
  exact K _ _ hR2
set_option maxRecDepth 20000 in
theorem law_case21 {X : Cx} {l0 : Launch} {D : va_G} {ad : Nat → Nat} {g : Gv} {b L : Nat} {xs : Nat → Int32} (F : Fx X l0 D ad g code "MillOfDistancesLaw" 1000 4) (hX : XS X b L xs) (hJ : Jad ad) {Rl : Mem → Mem → Prop} {n : Nat} (hs : Stp21 Rl n) {t u : Mem} {a : Nat} (hk0 : inb (nI a) L = true) (hk1 : inb (nI a + 1) L = true) (hk2 : inb (nI a + 2) L = true) (hk3 : inb (nI a + 3) L = true) (hk4 : inb (nI a + 4) L = true) (hk5 : inb (nI a + 5) L = true) (hR : Rl t u) (K : ∀ t u, Rl t u → G X D ad g t u [(0, .ref b), (1, .ref (ad 0)), (2, .ref (ad 39)), (3, .int (nI a))] 1539 []) : G X D ad g t u [(0, .ref b), (1, .ref (ad 0)), (2, .ref (ad 39)), (3, .int (nI a))] 972 [] := by
  obtain ⟨r, t', u', h1, h2, hR2⟩ := hs t u  hR
  refine g_aload_n F (dAt dkL_21 24 rfl) 1 rfl ?_
  refine g_callV_ic F mi_X5_leastHarm (gm mw_660 rfl) (dAt dkL_21 25 rfl) (rcx_of F rc_Main) [] rfl rfl (by decide) (Nat.le_of_ble_eq_true rfl) (c_X5_leastHarm hJ h1) ?_
  refine g_aload_n F (dAt dkL_21 26 rfl) 2 rfl ?_
  refine g_callV_im F mi_X6_leastHarm (gm mw_1169 rfl) (dAt dkL_21 27 rfl) (rcx_of F rc_Model) [] rfl rfl (by decide) (Nat.le_of_ble_eq_true rfl) (c_X6_leastHarm hJ h2) ?_
  refine g_eqY F (tgt := 1539) (dAt dkL_21 28 rfl) (by decide) ?_
  exact K _ _ hR2
set_option maxRecDepth 20000 in
theorem law_case22 {X : Cx} {l0 : Launch} {D : va_G} {ad : Nat → Nat} {g : Gv} {b L : Nat} {xs : Nat → Int32} (F : Fx X l0 D ad g code "MillOfDistancesLaw" 1000 4) (hX : XS X b L xs) (hJ : Jad ad) {Rl : Mem → Mem → Prop} {n : Nat} (hs : Stp22 Rl n) {t u : Mem} {a : Nat} (hk0 : inb (nI a) L = true) (hk1 : inb (nI a + 1) L = true) (hk2 : inb (nI a + 2) L = true) (hk3 : inb (nI a + 3) L = true) (hk4 : inb (nI a + 4) L = true) (hk5 : inb (nI a + 5) L = true) (hR : Rl t u) (K : ∀ t u, Rl t u → G X D ad g t u [(0, .ref b), (1, .ref (ad 0)), (2, .ref (ad 39)), (3, .int (nI a))] 1539 []) : G X D ad g t u [(0, .ref b), (1, .ref (ad 0)), (2, .ref (ad 39)), (3, .int (nI a))] 985 [] := by
  obtain ⟨r, t', u', h1, h2, hR2⟩ := hs t u (xs ((nI a) + 1).toNatClampNeg) (xs ((nI a) + 2).toNatClampNeg) (xs ((nI a) + 3).toNatClampNeg) (xs ((nI a) + 4).toNatClampNeg) hR
  refine g_aload_n F (dAt dkL_22 1 rfl) 1 rfl ?_
  refine g_aload_n F (dAt dkL_22 2 rfl) 0 rfl ?_
  refine g_iload_n F (dAt dkL_22 3 rfl) 3 rfl ?_
  refine g_iconst (v := 1) F (dAt dkL_22 4 rfl) (by decide) ?_
  refine g_iadd F (dAt dkL_22 5 rfl) ?_
  refine g_sld F hX (dAt dkL_22 6 rfl) hk1 ?_
  refine g_aload_n F (dAt dkL_22 7 rfl) 0 rfl ?_
  refine g_iload_n F (dAt dkL_22 8 rfl) 3 rfl ?_
  refine g_iconst (v := 2) F (dAt dkL_22 9 rfl) (by decide) ?_
  refine g_iadd F (dAt dkL_22 10 rfl) ?_
  refine g_sld F hX (dAt dkL_22 11 rfl) hk2 ?_
  refine g_aload_n F (dAt dkL_22 12 rfl) 0 rfl ?_
  refine g_iload_n F (dAt dkL_22 13 rfl) 3 rfl ?_
  refine g_iconst (v := 3) F (dAt dkL_22 14 rfl) (by decide) ?_
  refine g_iadd F (dAt dkL_22 15 rfl) ?_
  refine g_sld F hX (dAt dkL_22 16 rfl) hk3 ?_
  refine g_aload_n F (dAt dkL_22 17 rfl) 0 rfl ?_
  refine g_iload_n F (dAt dkL_22 18 rfl) 3 rfl ?_
  refine g_iconst (v := 4) F (dAt dkL_22 19 rfl) (by decide) ?_
  refine g_iadd F (dAt dkL_22 20 rfl) ?_
  refine g_sld F hX (dAt dkL_22 21 rfl) hk4 ?_
  refine g_callV_ic F mi_X5_cheapest (gm mw_664 rfl) (dAt dkL_22 22 rfl) (rcx_of F rc_Main) [.int (xs ((nI a) + 1).toNatClampNeg), .int (xs ((nI a) + 2).toNatClampNeg), .int (xs ((nI a) + 3).toNatClampNeg), .int (xs ((nI a) + 4).toNatClampNeg)] rfl rfl (by decide) (Nat.le_of_ble_eq_true rfl) (c_X5_cheapest hJ h1) ?_
  refine g_aload_n F (dAt dkL_22 23 rfl) 2 rfl ?_
  refine g_aload_n F (dAt dkL_22 24 rfl) 0 rfl ?_
  refine g_iload_n F (dAt dkL_22 25 rfl) 3 rfl ?_
  refine g_iconst (v := 1) F (dAt dkL_22 26 rfl) (by decide) ?_
  refine g_iadd F (dAt dkL_22 27 rfl) ?_
  refine g_sld F hX (dAt dkL_22 28 rfl) hk1 ?_
  refine g_aload_n F (dAt dkL_22 29 rfl) 0 rfl ?_
  refine g_iload_n F (dAt dkL_23 0 rfl) 3 rfl ?_
  refine g_iconst (v := 2) F (dAt dkL_23 1 rfl) (by decide) ?_
  refine g_iadd F (dAt dkL_23 2 rfl) ?_
  refine g_sld F hX (dAt dkL_23 3 rfl) hk2 ?_
  refine g_aload_n F (dAt dkL_23 4 rfl) 0 rfl ?_
  refine g_iload_n F (dAt dkL_23 5 rfl) 3 rfl ?_
  refine g_iconst (v := 3) F (dAt dkL_23 6 rfl) (by decide) ?_
  refine g_iadd F (dAt dkL_23 7 rfl) ?_
  refine g_sld F hX (dAt dkL_23 8 rfl) hk3 ?_
  refine g_aload_n F (dAt dkL_23 9 rfl) 0 rfl ?_
  refine g_iload_n F (dAt dkL_23 10 rfl) 3 rfl ?_
  refine g_iconst (v := 4) F (dAt dkL_23 11 rfl) (by decide) ?_
  refine g_iadd F (dAt dkL_23 12 rfl) ?_
  refine g_sld F hX (dAt dkL_23 13 rfl) hk4 ?_
  refine g_callV_im F mi_X6_cheapest (gm mw_1173 rfl) (dAt dkL_23 14 rfl) (rcx_of F rc_Model) [.int (xs ((nI a) + 1).toNatClampNeg), .int (xs ((nI a) + 2).toNatClampNeg), .int (xs ((nI a) + 3).toNatClampNeg), .int (xs ((nI a) + 4).toNatClampNeg)] rfl rfl (by decide) (Nat.le_of_ble_eq_true rfl) (c_X6_cheapest hJ h2) ?_
  refine g_eqY F (tgt := 1539) (dAt dkL_23 15 rfl) (by decide) ?_
  exact K _ _ hR2
set_option maxRecDepth 20000 in
theorem law_case23 {X : Cx} {l0 : Launch} {D : va_G} {ad : Nat → Nat} {g : Gv} {b L : Nat} {xs : Nat → Int32} (F : Fx X l0 D ad g code "MillOfDistancesLaw" 1000 4) (hX : XS X b L xs) (hJ : Jad ad) {Rl : Mem → Mem → Prop} {n : Nat} (hs : Stp23 Rl n) {t u : Mem} {a : Nat} (hk0 : inb (nI a) L = true) (hk1 : inb (nI a + 1) L = true) (hk2 : inb (nI a + 2) L = true) (hk3 : inb (nI a + 3) L = true) (hk4 : inb (nI a + 4) L = true) (hk5 : inb (nI a + 5) L = true) (hR : Rl t u) (K : ∀ t u, Rl t u → G X D ad g t u [(0, .ref b), (1, .ref (ad 0)), (2, .ref (ad 39)), (3, .int (nI a))] 1539 []) : G X D ad g t u [(0, .ref b), (1, .ref (ad 0)), (2, .ref (ad 39)), (3, .int (nI a))] 1038 [] := by
  obtain ⟨r, t', u', h1, h2, hR2⟩ := hs t u (xs ((nI a) + 1).toNatClampNeg) (xs ((nI a) + 2).toNatClampNeg) hR
  refine g_aload_n F (dAt dkL_23 18 rfl) 1 rfl ?_
  refine g_aload_n F (dAt dkL_23 19 rfl) 0 rfl ?_
  refine g_iload_n F (dAt dkL_23 20 rfl) 3 rfl ?_
  refine g_iconst (v := 1) F (dAt dkL_23 21 rfl) (by decide) ?_
  refine g_iadd F (dAt dkL_23 22 rfl) ?_
  refine g_sld F hX (dAt dkL_23 23 rfl) hk1 ?_
  refine g_aload_n F (dAt dkL_23 24 rfl) 0 rfl ?_
  refine g_iload_n F (dAt dkL_23 25 rfl) 3 rfl ?_
  refine g_iconst (v := 2) F (dAt dkL_23 26 rfl) (by decide) ?_
  refine g_iadd F (dAt dkL_23 27 rfl) ?_
  refine g_sld F hX (dAt dkL_23 28 rfl) hk2 ?_
  refine g_callV_ic F mi_X5_meet (gm mw_677 rfl) (dAt dkL_23 29 rfl) (rcx_of F rc_Main) [.int (xs ((nI a) + 1).toNatClampNeg), .int (xs ((nI a) + 2).toNatClampNeg)] rfl rfl (by decide) (Nat.le_of_ble_eq_true rfl) (c_X5_meet hJ h1) ?_
  refine g_aload_n F (dAt dkL_24 0 rfl) 2 rfl ?_
  refine g_aload_n F (dAt dkL_24 1 rfl) 0 rfl ?_
  refine g_iload_n F (dAt dkL_24 2 rfl) 3 rfl ?_
  refine g_iconst (v := 1) F (dAt dkL_24 3 rfl) (by decide) ?_
  refine g_iadd F (dAt dkL_24 4 rfl) ?_
  refine g_sld F hX (dAt dkL_24 5 rfl) hk1 ?_
  refine g_aload_n F (dAt dkL_24 6 rfl) 0 rfl ?_
  refine g_iload_n F (dAt dkL_24 7 rfl) 3 rfl ?_
  refine g_iconst (v := 2) F (dAt dkL_24 8 rfl) (by decide) ?_
  refine g_iadd F (dAt dkL_24 9 rfl) ?_
  refine g_sld F hX (dAt dkL_24 10 rfl) hk2 ?_
  refine g_callV_im F mi_X6_meet (gm mw_1177 rfl) (dAt dkL_24 11 rfl) (rcx_of F rc_Model) [.int (xs ((nI a) + 1).toNatClampNeg), .int (xs ((nI a) + 2).toNatClampNeg)] rfl rfl (by decide) (Nat.le_of_ble_eq_true rfl) (c_X6_meet hJ h2) ?_
  refine g_eqY F (tgt := 1539) (dAt dkL_24 12 rfl) (by decide) ?_
  exact K _ _ hR2
set_option maxRecDepth 20000 in
theorem law_case24 {X : Cx} {l0 : Launch} {D : va_G} {ad : Nat → Nat} {g : Gv} {b L : Nat} {xs : Nat → Int32} (F : Fx X l0 D ad g code "MillOfDistancesLaw" 1000 4) (hX : XS X b L xs) (hJ : Jad ad) {Rl : Mem → Mem → Prop} {n : Nat} (hs : Stp24 Rl n) {t u : Mem} {a : Nat} (hk0 : inb (nI a) L = true) (hk1 : inb (nI a + 1) L = true) (hk2 : inb (nI a + 2) L = true) (hk3 : inb (nI a + 3) L = true) (hk4 : inb (nI a + 4) L = true) (hk5 : inb (nI a + 5) L = true) (hR : Rl t u) (K : ∀ t u, Rl t u → G X D ad g t u [(0, .ref b), (1, .ref (ad 0)), (2, .ref (ad 39)), (3, .int (nI a))] 1539 []) : G X D ad g t u [(0, .ref b), (1, .ref (ad 0)), (2, .ref (ad 39)), (3, .int (nI a))] 1071 [] := by
  obtain ⟨r, t', u', h1, h2, hR2⟩ := hs t u (xs ((nI a) + 1).toNatClampNeg) (xs ((nI a) + 2).toNatClampNeg) (xs ((nI a) + 3).toNatClampNeg) (xs ((nI a) + 4).toNatClampNeg) hR
  refine g_aload_n F (dAt dkL_24 15 rfl) 1 rfl ?_
  refine g_aload_n F (dAt dkL_24 16 rfl) 0 rfl ?_
  refine g_iload_n F (dAt dkL_24 17 rfl) 3 rfl ?_
  refine g_iconst (v := 1) F (dAt dkL_24 18 rfl) (by decide) ?_
  refine g_iadd F (dAt dkL_24 19 rfl) ?_
  refine g_sld F hX (dAt dkL_24 20 rfl) hk1 ?_
  refine g_aload_n F (dAt dkL_24 21 rfl) 0 rfl ?_
  refine g_iload_n F (dAt dkL_24 22 rfl) 3 rfl ?_
  refine g_iconst (v := 2) F (dAt dkL_24 23 rfl) (by decide) ?_
  refine g_iadd F (dAt dkL_24 24 rfl) ?_
  refine g_sld F hX (dAt dkL_24 25 rfl) hk2 ?_
  refine g_aload_n F (dAt dkL_24 26 rfl) 0 rfl ?_
  refine g_iload_n F (dAt dkL_24 27 rfl) 3 rfl ?_
  refine g_iconst (v := 3) F (dAt dkL_24 28 rfl) (by decide) ?_
  refine g_iadd F (dAt dkL_24 29 rfl) ?_
  refine g_sld F hX (dAt dkL_25 0 rfl) hk3 ?_
  refine g_aload_n F (dAt dkL_25 1 rfl) 0 rfl ?_
  refine g_iload_n F (dAt dkL_25 2 rfl) 3 rfl ?_
  refine g_iconst (v := 4) F (dAt dkL_25 3 rfl) (by decide) ?_
  refine g_iadd F (dAt dkL_25 4 rfl) ?_
  refine g_sld F hX (dAt dkL_25 5 rfl) hk4 ?_
  refine g_callV_ic F mi_X5_journey (gm mw_682 rfl) (dAt dkL_25 6 rfl) (rcx_of F rc_Main) [.int (xs ((nI a) + 1).toNatClampNeg), .int (xs ((nI a) + 2).toNatClampNeg), .int (xs ((nI a) + 3).toNatClampNeg), .int (xs ((nI a) + 4).toNatClampNeg)] rfl rfl (by decide) (Nat.le_of_ble_eq_true rfl) (c_X5_journey hJ h1) ?_
  refine g_aload_n F (dAt dkL_25 7 rfl) 2 rfl ?_
  refine g_aload_n F (dAt dkL_25 8 rfl) 0 rfl ?_
  refine g_iload_n F (dAt dkL_25 9 rfl) 3 rfl ?_
  refine g_iconst (v := 1) F (dAt dkL_25 10 rfl) (by decide) ?_
  refine g_iadd F (dAt dkL_25 11 rfl) ?_
  refine g_sld F hX (dAt dkL_25 12 rfl) hk1 ?_
  refine g_aload_n F (dAt dkL_25 13 rfl) 0 rfl ?_
  refine g_iload_n F (dAt dkL_25 14 rfl) 3 rfl ?_
  refine g_iconst (v := 2) F (dAt dkL_25 15 rfl) (by decide) ?_
  refine g_iadd F (dAt dkL_25 16 rfl) ?_
  refine g_sld F hX (dAt dkL_25 17 rfl) hk2 ?_
  refine g_aload_n F (dAt dkL_25 18 rfl) 0 rfl ?_
  refine g_iload_n F (dAt dkL_25 19 rfl) 3 rfl ?_
  refine g_iconst (v := 3) F (dAt dkL_25 20 rfl) (by decide) ?_
  refine g_iadd F (dAt dkL_25 21 rfl) ?_
  refine g_sld F hX (dAt dkL_25 22 rfl) hk3 ?_
  refine g_aload_n F (dAt dkL_25 23 rfl) 0 rfl ?_
  refine g_iload_n F (dAt dkL_25 24 rfl) 3 rfl ?_
  refine g_iconst (v := 4) F (dAt dkL_25 25 rfl) (by decide) ?_
  refine g_iadd F (dAt dkL_25 26 rfl) ?_
  refine g_sld F hX (dAt dkL_25 27 rfl) hk4 ?_
  refine g_callV_im F mi_X6_journey (gm mw_1181 rfl) (dAt dkL_25 28 rfl) (rcx_of F rc_Model) [.int (xs ((nI a) + 1).toNatClampNeg), .int (xs ((nI a) + 2).toNatClampNeg), .int (xs ((nI a) + 3).toNatClampNeg), .int (xs ((nI a) + 4).toNatClampNeg)] rfl rfl (by decide) (Nat.le_of_ble_eq_true rfl) (c_X6_journey hJ h2) ?_
  refine g_eqY F (tgt := 1539) (dAt dkL_25 29 rfl) (by decide) ?_
  exact K _ _ hR2
set_option maxRecDepth 20000 in
theorem law_case25 {X : Cx} {l0 : Launch} {D : va_G} {ad : Nat → Nat} {g : Gv} {b L : Nat} {xs : Nat → Int32} (F : Fx X l0 D ad g code "MillOfDistancesLaw" 1000 4) (hX : XS X b L xs) (hJ : Jad ad) {Rl : Mem → Mem → Prop} {n : Nat} (hs : Stp25 Rl n) {t u : Mem} {a : Nat} (hk0 : inb (nI a) L = true) (hk1 : inb (nI a + 1) L = true) (hk2 : inb (nI a + 2) L = true) (hk3 : inb (nI a + 3) L = true) (hk4 : inb (nI a + 4) L = true) (hk5 : inb (nI a + 5) L = true) (hR : Rl t u) (K : ∀ t u, Rl t u → G X D ad g t u [(0, .ref b), (1, .ref (ad 0)), (2, .ref (ad 39)), (3, .int (nI a))] 1539 []) : G X D ad g t u [(0, .ref b), (1, .ref (ad 0)), (2, .ref (ad 39)), (3, .int (nI a))] 1124 [] := by
  obtain ⟨r, t', u', h1, h2, hR2⟩ := hs t u (xs ((nI a) + 1).toNatClampNeg) hR
  refine g_aload_n F (dAt dkL_26 2 rfl) 1 rfl ?_
  refine g_aload_n F (dAt dkL_26 3 rfl) 0 rfl ?_
  refine g_iload_n F (dAt dkL_26 4 rfl) 3 rfl ?_
  refine g_iconst (v := 1) F (dAt dkL_26 5 rfl) (by decide) ?_
  refine g_iadd F (dAt dkL_26 6 rfl) ?_
  refine g_sld F hX (dAt dkL_26 7 rfl) hk1 ?_
  refine g_callV_ic F mi_X5_judge (gm mw_709 rfl) (dAt dkL_26 8 rfl) (rcx_of F rc_Main) [.int (xs ((nI a) + 1).toNatClampNeg)] rfl rfl (by decide) (Nat.le_of_ble_eq_true rfl) (c_X5_judge hJ h1) ?_
  refine g_aload_n F (dAt dkL_26 9 rfl) 2 rfl ?_
  refine g_aload_n F (dAt dkL_26 10 rfl) 0 rfl ?_
  refine g_iload_n F (dAt dkL_26 11 rfl) 3 rfl ?_
  refine g_iconst (v := 1) F (dAt dkL_26 12 rfl) (by decide) ?_
  refine g_iadd F (dAt dkL_26 13 rfl) ?_
  refine g_sld F hX (dAt dkL_26 14 rfl) hk1 ?_
  refine g_callV_im F mi_X6_judge (gm mw_1197 rfl) (dAt dkL_26 15 rfl) (rcx_of F rc_Model) [.int (xs ((nI a) + 1).toNatClampNeg)] rfl rfl (by decide) (Nat.le_of_ble_eq_true rfl) (c_X6_judge hJ h2) ?_
  refine g_eqY F (tgt := 1539) (dAt dkL_26 16 rfl) (by decide) ?_
  exact K _ _ hR2
set_option maxRecDepth 20000 in
theorem law_case26 {X : Cx} {l0 : Launch} {D : va_G} {ad : Nat → Nat} {g : Gv} {b L : Nat} {xs : Nat → Int32} (F : Fx X l0 D ad g code "MillOfDistancesLaw" 1000 4) (hX : XS X b L xs) (hJ : Jad ad) {Rl : Mem → Mem → Prop} {n : Nat} (hs : Stp26 Rl n) {t u : Mem} {a : Nat} (hk0 : inb (nI a) L = true) (hk1 : inb (nI a + 1) L = true) (hk2 : inb (nI a + 2) L = true) (hk3 : inb (nI a + 3) L = true) (hk4 : inb (nI a + 4) L = true) (hk5 : inb (nI a + 5) L = true) (hR : Rl t u) (K : ∀ t u, Rl t u → G X D ad g t u [(0, .ref b), (1, .ref (ad 0)), (2, .ref (ad 39)), (3, .int (nI a))] 1539 []) : G X D ad g t u [(0, .ref b), (1, .ref (ad 0)), (2, .ref (ad 39)), (3, .int (nI a))] 1147 [] := by
  obtain ⟨r, t', u', h1, h2, hR2⟩ := hs t u (xs ((nI a) + 1).toNatClampNeg) hR
  refine g_aload_n F (dAt dkL_26 19 rfl) 1 rfl ?_
  refine g_aload_n F (dAt dkL_26 20 rfl) 0 rfl ?_
  refine g_iload_n F (dAt dkL_26 21 rfl) 3 rfl ?_
  refine g_iconst (v := 1) F (dAt dkL_26 22 rfl) (by decide) ?_
  refine g_iadd F (dAt dkL_26 23 rfl) ?_
  refine g_sld F hX (dAt dkL_26 24 rfl) hk1 ?_
  refine g_callV_ic F mi_X5_mend (gm mw_728 rfl) (dAt dkL_26 25 rfl) (rcx_of F rc_Main) [.int (xs ((nI a) + 1).toNatClampNeg)] rfl rfl (by decide) (Nat.le_of_ble_eq_true rfl) (c_X5_mend hJ h1) ?_
  refine g_aload_n F (dAt dkL_26 26 rfl) 2 rfl ?_
  refine g_aload_n F (dAt dkL_26 27 rfl) 0 rfl ?_
  refine g_iload_n F (dAt dkL_26 28 rfl) 3 rfl ?_
  refine g_iconst (v := 1) F (dAt dkL_26 29 rfl) (by decide) ?_
  refine g_iadd F (dAt dkL_27 0 rfl) ?_
  refine g_sld F hX (dAt dkL_27 1 rfl) hk1 ?_
  refine g_callV_im F mi_X6_mend (gm mw_1213 rfl) (dAt dkL_27 2 rfl) (rcx_of F rc_Model) [.int (xs ((nI a) + 1).toNatClampNeg)] rfl rfl (by decide) (Nat.le_of_ble_eq_true rfl) (c_X6_mend hJ h2) ?_
  refine g_eqY F (tgt := 1539) (dAt dkL_27 3 rfl) (by decide) ?_
  exact K _ _ hR2
set_option maxRecDepth 20000 in
theorem law_case27 {X : Cx} {l0 : Launch} {D : va_G} {ad : Nat → Nat} {g : Gv} {b L : Nat} {xs : Nat → Int32} (F : Fx X l0 D ad g code "MillOfDistancesLaw" 1000 4) (hX : XS X b L xs) (hJ : Jad ad) {Rl : Mem → Mem → Prop} {n : Nat} (hs : Stp27 Rl n) {t u : Mem} {a : Nat} (hk0 : inb (nI a) L = true) (hk1 : inb (nI a + 1) L = true) (hk2 : inb (nI a + 2) L = true) (hk3 : inb (nI a + 3) L = true) (hk4 : inb (nI a + 4) L = true) (hk5 : inb (nI a + 5) L = true) (hR : Rl t u) (K : ∀ t u, Rl t u → G X D ad g t u [(0, .ref b), (1, .ref (ad 0)), (2, .ref (ad 39)), (3, .int (nI a))] 1539 []) : G X D ad g t u [(0, .ref b), (1, .ref (ad 0)), (2, .ref (ad 39)), (3, .int (nI a))] 1170 [] := by
  obtain ⟨r, t', u', h1, h2, hR2⟩ := hs t u (xs ((nI a) + 1).toNatClampNeg) (xs ((nI a) + 2).toNatClampNeg) hR
  refine g_aload_n F (dAt dkL_27 6 rfl) 1 rfl ?_
  refine g_aload_n F (dAt dkL_27 7 rfl) 0 rfl ?_
  refine g_iload_n F (dAt dkL_27 8 rfl) 3 rfl ?_
  refine g_iconst (v := 1) F (dAt dkL_27 9 rfl) (by decide) ?_
  refine g_iadd F (dAt dkL_27 10 rfl) ?_
  refine g_sld F hX (dAt dkL_27 11 rfl) hk1 ?_
  refine g_aload_n F (dAt dkL_27 12 rfl) 0 rfl ?_
  refine g_iload_n F (dAt dkL_27 13 rfl) 3 rfl ?_
  refine g_iconst (v := 2) F (dAt dkL_27 14 rfl) (by decide) ?_
  refine g_iadd F (dAt dkL_27 15 rfl) ?_
  refine g_sld F hX (dAt dkL_27 16 rfl) hk2 ?_
  refine g_callV_ic F mi_X5_pinches (gm mw_738 rfl) (dAt dkL_27 17 rfl) (rcx_of F rc_Main) [.int (xs ((nI a) + 1).toNatClampNeg), .int (xs ((nI a) + 2).toNatClampNeg)] rfl rfl (by decide) (Nat.le_of_ble_eq_true rfl) (c_X5_pinches hJ h1) ?_
  refine g_aload_n F (dAt dkL_27 18 rfl) 2 rfl ?_
  refine g_aload_n F (dAt dkL_27 19 rfl) 0 rfl ?_
  refine g_iload_n F (dAt dkL_27 20 rfl) 3 rfl ?_
  refine g_iconst (v := 1) F (dAt dkL_27 21 rfl) (by decide) ?_
  refine g_iadd F (dAt dkL_27 22 rfl) ?_
  refine g_sld F hX (dAt dkL_27 23 rfl) hk1 ?_
  refine g_aload_n F (dAt dkL_27 24 rfl) 0 rfl ?_
  refine g_iload_n F (dAt dkL_27 25 rfl) 3 rfl ?_
  refine g_iconst (v := 2) F (dAt dkL_27 26 rfl) (by decide) ?_
  refine g_iadd F (dAt dkL_27 27 rfl) ?_
  refine g_sld F hX (dAt dkL_27 28 rfl) hk2 ?_
  refine g_callV_im F mi_X6_pinches (gm mw_1217 rfl) (dAt dkL_27 29 rfl) (rcx_of F rc_Model) [.int (xs ((nI a) + 1).toNatClampNeg), .int (xs ((nI a) + 2).toNatClampNeg)] rfl rfl (by decide) (Nat.le_of_ble_eq_true rfl) (c_X6_pinches hJ h2) ?_
  refine g_eqY F (tgt := 1539) (dAt dkL_28 0 rfl) (by decide) ?_
  exact K _ _ hR2
set_option maxRecDepth 20000 in
theorem law_case28 {X : Cx} {l0 : Launch} {D : va_G} {ad : Nat → Nat} {g : Gv} {b L : Nat} {xs : Nat → Int32} (F : Fx X l0 D ad g code "MillOfDistancesLaw" 1000 4) (hX : XS X b L xs) (hJ : Jad ad) {Rl : Mem → Mem → Prop} {n : Nat} (hs : Stp28 Rl n) {t u : Mem} {a : Nat} (hk0 : inb (nI a) L = true) (hk1 : inb (nI a + 1) L = true) (hk2 : inb (nI a + 2) L = true) (hk3 : inb (nI a + 3) L = true) (hk4 : inb (nI a + 4) L = true) (hk5 : inb (nI a + 5) L = true) (hR : Rl t u) (K : ∀ t u, Rl t u → G X D ad g t u [(0, .ref b), (1, .ref (ad 0)), (2, .ref (ad 39)), (3, .int (nI a))] 1539 []) : G X D ad g t u [(0, .ref b), (1, .ref (ad 0)), (2, .ref (ad 39)), (3, .int (nI a))] 1203 [] := by
  obtain ⟨r, t', u', h1, h2, hR2⟩ := hs t u (xs ((nI a) + 1).toNatClampNeg) (xs ((nI a) + 2).toNatClampNeg) hR
  refine g_aload_n F (dAt dkL_28 3 rfl) 1 rfl ?_
  refine g_aload_n F (dAt dkL_28 4 rfl) 0 rfl ?_
  refine g_iload_n F (dAt dkL_28 5 rfl) 3 rfl ?_
  refine g_iconst (v := 1) F (dAt dkL_28 6 rfl) (by decide) ?_
  refine g_iadd F (dAt dkL_28 7 rfl) ?_
  refine g_sld F hX (dAt dkL_28 8 rfl) hk1 ?_
  refine g_aload_n F (dAt dkL_28 9 rfl) 0 rfl ?_
  refine g_iload_n F (dAt dkL_28 10 rfl) 3 rfl ?_
  refine g_iconst (v := 2) F (dAt dkL_28 11 rfl) (by decide) ?_
  refine g_iadd F (dAt dkL_28 12 rfl) ?_
  refine g_sld F hX (dAt dkL_28 13 rfl) hk2 ?_
  refine g_callV_ic F mi_X5_left (gm mw_751 rfl) (dAt dkL_28 14 rfl) (rcx_of F rc_Main) [.int (xs ((nI a) + 1).toNatClampNeg), .int (xs ((nI a) + 2).toNatClampNeg)] rfl rfl (by decide) (Nat.le_of_ble_eq_true rfl) (c_X5_left hJ h1) ?_
  refine g_aload_n F (dAt dkL_28 15 rfl) 2 rfl ?_
  refine g_aload_n F (dAt dkL_28 16 rfl) 0 rfl ?_
  refine g_iload_n F (dAt dkL_28 17 rfl) 3 rfl ?_
  refine g_iconst (v := 1) F (dAt dkL_28 18 rfl) (by decide) ?_
  refine g_iadd F (dAt dkL_28 19 rfl) ?_
  refine g_sld F hX (dAt dkL_28 20 rfl) hk1 ?_
  refine g_aload_n F (dAt dkL_28 21 rfl) 0 rfl ?_
  refine g_iload_n F (dAt dkL_28 22 rfl) 3 rfl ?_
  refine g_iconst (v := 2) F (dAt dkL_28 23 rfl) (by decide) ?_
  refine g_iadd F (dAt dkL_28 24 rfl) ?_
  refine g_sld F hX (dAt dkL_28 25 rfl) hk2 ?_
  refine g_callV_im F mi_X6_left (gm mw_1230 rfl) (dAt dkL_28 26 rfl) (rcx_of F rc_Model) [.int (xs ((nI a) + 1).toNatClampNeg), .int (xs ((nI a) + 2).toNatClampNeg)] rfl rfl (by decide) (Nat.le_of_ble_eq_true rfl) (c_X6_left hJ h2) ?_
  refine g_eqY F (tgt := 1539) (dAt dkL_28 27 rfl) (by decide) ?_
  exact K _ _ hR2
set_option maxRecDepth 20000 in
theorem law_case29 {X : Cx} {l0 : Launch} {D : va_G} {ad : Nat → Nat} {g : Gv} {b L : Nat} {xs : Nat → Int32} (F : Fx X l0 D ad g code "MillOfDistancesLaw" 1000 4) (hX : XS X b L xs) (hJ : Jad ad) {Rl : Mem → Mem → Prop} {n : Nat} (hs : Stp29 Rl n) {t u : Mem} {a : Nat} (hk0 : inb (nI a) L = true) (hk1 : inb (nI a + 1) L = true) (hk2 : inb (nI a + 2) L = true) (hk3 : inb (nI a + 3) L = true) (hk4 : inb (nI a + 4) L = true) (hk5 : inb (nI a + 5) L = true) (hR : Rl t u) (K : ∀ t u, Rl t u → G X D ad g t u [(0, .ref b), (1, .ref (ad 0)), (2, .ref (ad 39)), (3, .int (nI a))] 1539 []) : G X D ad g t u [(0, .ref b), (1, .ref (ad 0)), (2, .ref (ad 39)), (3, .int (nI a))] 1236 [] := by
  obtain ⟨r, t', u', h1, h2, hR2⟩ := hs t u (xs ((nI a) + 1).toNatClampNeg) (xs ((nI a) + 2).toNatClampNeg) hR
  refine g_aload_n F (dAt dkL_29 0 rfl) 1 rfl ?_
  refine g_aload_n F (dAt dkL_29 1 rfl) 0 rfl ?_
  refine g_iload_n F (dAt dkL_29 2 rfl) 3 rfl ?_
  refine g_iconst (v := 1) F (dAt dkL_29 3 rfl) (by decide) ?_
  refine g_iadd F (dAt dkL_29 4 rfl) ?_
  refine g_sld F hX (dAt dkL_29 5 rfl) hk1 ?_
  refine g_aload_n F (dAt dkL_29 6 rfl) 0 rfl ?_
  refine g_iload_n F (dAt dkL_29 7 rfl) 3 rfl ?_
  refine g_iconst (v := 2) F (dAt dkL_29 8 rfl) (by decide) ?_
  refine g_iadd F (dAt dkL_29 9 rfl) ?_
  refine g_sld F hX (dAt dkL_29 10 rfl) hk2 ?_
  refine g_callV_ic F mi_X5_done (gm mw_755 rfl) (dAt dkL_29 11 rfl) (rcx_of F rc_Main) [.int (xs ((nI a) + 1).toNatClampNeg), .int (xs ((nI a) + 2).toNatClampNeg)] rfl rfl (by decide) (Nat.le_of_ble_eq_true rfl) (c_X5_done hJ h1) ?_
  refine g_aload_n F (dAt dkL_29 12 rfl) 2 rfl ?_
  refine g_aload_n F (dAt dkL_29 13 rfl) 0 rfl ?_
  refine g_iload_n F (dAt dkL_29 14 rfl) 3 rfl ?_
  refine g_iconst (v := 1) F (dAt dkL_29 15 rfl) (by decide) ?_
  refine g_iadd F (dAt dkL_29 16 rfl) ?_
  refine g_sld F hX (dAt dkL_29 17 rfl) hk1 ?_
  refine g_aload_n F (dAt dkL_29 18 rfl) 0 rfl ?_
  refine g_iload_n F (dAt dkL_29 19 rfl) 3 rfl ?_
  refine g_iconst (v := 2) F (dAt dkL_29 20 rfl) (by decide) ?_
  refine g_iadd F (dAt dkL_29 21 rfl) ?_
  refine g_sld F hX (dAt dkL_29 22 rfl) hk2 ?_
  refine g_callV_im F mi_X6_done (gm mw_1234 rfl) (dAt dkL_29 23 rfl) (rcx_of F rc_Model) [.int (xs ((nI a) + 1).toNatClampNeg), .int (xs ((nI a) + 2).toNatClampNeg)] rfl rfl (by decide) (Nat.le_of_ble_eq_true rfl) (c_X6_done hJ h2) ?_
  refine g_eqY F (tgt := 1539) (dAt dkL_29 24 rfl) (by decide) ?_
  exact K _ _ hR2
set_option maxRecDepth 20000 in
theorem law_case30 {X : Cx} {l0 : Launch} {D : va_G} {ad : Nat → Nat} {g : Gv} {b L : Nat} {xs : Nat → Int32} (F : Fx X l0 D ad g code "MillOfDistancesLaw" 1000 4) (hX : XS X b L xs) (hJ : Jad ad) {Rl : Mem → Mem → Prop} {n : Nat} (hs : Stp30 Rl n) {t u : Mem} {a : Nat} (hk0 : inb (nI a) L = true) (hk1 : inb (nI a + 1) L = true) (hk2 : inb (nI a + 2) L = true) (hk3 : inb (nI a + 3) L = true) (hk4 : inb (nI a + 4) L = true) (hk5 : inb (nI a + 5) L = true) (hR : Rl t u) (K : ∀ t u, Rl t u → G X D ad g t u [(0, .ref b), (1, .ref (ad 0)), (2, .ref (ad 39)), (3, .int (nI a))] 1539 []) : G X D ad g t u [(0, .ref b), (1, .ref (ad 0)), (2, .ref (ad 39)), (3, .int (nI a))] 1269 [] := by
  obtain ⟨r, t', u', h1, h2, hR2⟩ := hs t u (xs ((nI a) + 1).toNatClampNeg) (xs ((nI a) + 2).toNatClampNeg) hR
  refine g_aload_n F (dAt dkL_29 27 rfl) 1 rfl ?_
  refine g_aload_n F (dAt dkL_29 28 rfl) 0 rfl ?_
  refine g_iload_n F (dAt dkL_29 29 rfl) 3 rfl ?_
  refine g_iconst (v := 1) F (dAt dkL_30 0 rfl) (by decide) ?_
  refine g_iadd F (dAt dkL_30 1 rfl) ?_
  refine g_sld F hX (dAt dkL_30 2 rfl) hk1 ?_
  refine g_aload_n F (dAt dkL_30 3 rfl) 0 rfl ?_
  refine g_iload_n F (dAt dkL_30 4 rfl) 3 rfl ?_
  refine g_iconst (v := 2) F (dAt dkL_30 5 rfl) (by decide) ?_
  refine g_iadd F (dAt dkL_30 6 rfl) ?_
  refine g_sld F hX (dAt dkL_30 7 rfl) hk2 ?_
  refine g_callV_ic F mi_X5_theft (gm mw_759 rfl) (dAt dkL_30 8 rfl) (rcx_of F rc_Main) [.int (xs ((nI a) + 1).toNatClampNeg), .int (xs ((nI a) + 2).toNatClampNeg)] rfl rfl (by decide) (Nat.le_of_ble_eq_true rfl) (c_X5_theft hJ h1) ?_
  refine g_aload_n F (dAt dkL_30 9 rfl) 2 rfl ?_
  refine g_aload_n F (dAt dkL_30 10 rfl) 0 rfl ?_
  refine g_iload_n F (dAt dkL_30 11 rfl) 3 rfl ?_
  refine g_iconst (v := 1) F (dAt dkL_30 12 rfl) (by decide) ?_
  refine g_iadd F (dAt dkL_30 13 rfl) ?_
  refine g_sld F hX (dAt dkL_30 14 rfl) hk1 ?_
  refine g_aload_n F (dAt dkL_30 15 rfl) 0 rfl ?_
  refine g_iload_n F (dAt dkL_30 16 rfl) 3 rfl ?_
  refine g_iconst (v := 2) F (dAt dkL_30 17 rfl) (by decide) ?_
  refine g_iadd F (dAt dkL_30 18 rfl) ?_
  refine g_sld F hX (dAt dkL_30 19 rfl) hk2 ?_
  refine g_callV_im F mi_X6_theft (gm mw_1238 rfl) (dAt dkL_30 20 rfl) (rcx_of F rc_Model) [.int (xs ((nI a) + 1).toNatClampNeg), .int (xs ((nI a) + 2).toNatClampNeg)] rfl rfl (by decide) (Nat.le_of_ble_eq_true rfl) (c_X6_theft hJ h2) ?_
  refine g_eqY F (tgt := 1539) (dAt dkL_30 21 rfl) (by decide) ?_
  exact K _ _ hR2
set_option maxRecDepth 20000 in
theorem law_case31 {X : Cx} {l0 : Launch} {D : va_G} {ad : Nat → Nat} {g : Gv} {b L : Nat} {xs : Nat → Int32} (F : Fx X l0 D ad g code "MillOfDistancesLaw" 1000 4) (hX : XS X b L xs) (hJ : Jad ad) {Rl : Mem → Mem → Prop} {n : Nat} (hs : Stp31 Rl n) {t u : Mem} {a : Nat} (hk0 : inb (nI a) L = true) (hk1 : inb (nI a + 1) L = true) (hk2 : inb (nI a + 2) L = true) (hk3 : inb (nI a + 3) L = true) (hk4 : inb (nI a + 4) L = true) (hk5 : inb (nI a + 5) L = true) (hR : Rl t u) (K : ∀ t u, Rl t u → G X D ad g t u [(0, .ref b), (1, .ref (ad 0)), (2, .ref (ad 39)), (3, .int (nI a))] 1539 []) : G X D ad g t u [(0, .ref b), (1, .ref (ad 0)), (2, .ref (ad 39)), (3, .int (nI a))] 1302 [] := by
  obtain ⟨r, t', u', h1, h2, hR2⟩ := hs t u (xs ((nI a) + 1).toNatClampNeg) (xs ((nI a) + 2).toNatClampNeg) hR
  refine g_aload_n F (dAt dkL_30 24 rfl) 1 rfl ?_
  refine g_aload_n F (dAt dkL_30 25 rfl) 0 rfl ?_
  refine g_iload_n F (dAt dkL_30 26 rfl) 3 rfl ?_
  refine g_iconst (v := 1) F (dAt dkL_30 27 rfl) (by decide) ?_
  refine g_iadd F (dAt dkL_30 28 rfl) ?_
  refine g_sld F hX (dAt dkL_30 29 rfl) hk1 ?_
  refine g_aload_n F (dAt dkL_31 0 rfl) 0 rfl ?_
  refine g_iload_n F (dAt dkL_31 1 rfl) 3 rfl ?_
  refine g_iconst (v := 2) F (dAt dkL_31 2 rfl) (by decide) ?_
  refine g_iadd F (dAt dkL_31 3 rfl) ?_
  refine g_sld F hX (dAt dkL_31 4 rfl) hk2 ?_
  refine g_callV_ic F mi_X5_mill (gm mw_772 rfl) (dAt dkL_31 5 rfl) (rcx_of F rc_Main) [.int (xs ((nI a) + 1).toNatClampNeg), .int (xs ((nI a) + 2).toNatClampNeg)] rfl rfl (by decide) (Nat.le_of_ble_eq_true rfl) (c_X5_mill hJ h1) ?_
  refine g_aload_n F (dAt dkL_31 6 rfl) 2 rfl ?_
  refine g_aload_n F (dAt dkL_31 7 rfl) 0 rfl ?_
  refine g_iload_n F (dAt dkL_31 8 rfl) 3 rfl ?_
  refine g_iconst (v := 1) F (dAt dkL_31 9 rfl) (by decide) ?_
  refine g_iadd F (dAt dkL_31 10 rfl) ?_
  refine g_sld F hX (dAt dkL_31 11 rfl) hk1 ?_
  refine g_aload_n F (dAt dkL_31 12 rfl) 0 rfl ?_
  refine g_iload_n F (dAt dkL_31 13 rfl) 3 rfl ?_
  refine g_iconst (v := 2) F (dAt dkL_31 14 rfl) (by decide) ?_
  refine g_iadd F (dAt dkL_31 15 rfl) ?_
  refine g_sld F hX (dAt dkL_31 16 rfl) hk2 ?_
  refine g_callV_im F mi_X6_mill (gm mw_1242 rfl) (dAt dkL_31 17 rfl) (rcx_of F rc_Model) [.int (xs ((nI a) + 1).toNatClampNeg), .int (xs ((nI a) + 2).toNatClampNeg)] rfl rfl (by decide) (Nat.le_of_ble_eq_true rfl) (c_X6_mill hJ h2) ?_
  refine g_eqY F (tgt := 1539) (dAt dkL_31 18 rfl) (by decide) ?_
  exact K _ _ hR2
set_option maxRecDepth 20000 in
theorem law_case32 {X : Cx} {l0 : Launch} {D : va_G} {ad : Nat → Nat} {g : Gv} {b L : Nat} {xs : Nat → Int32} (F : Fx X l0 D ad g code "MillOfDistancesLaw" 1000 4) (hX : XS X b L xs) (hJ : Jad ad) {Rl : Mem → Mem → Prop} {n : Nat} (hs : Stp32 Rl n) {t u : Mem} {a : Nat} (hk0 : inb (nI a) L = true) (hk1 : inb (nI a + 1) L = true) (hk2 : inb (nI a + 2) L = true) (hk3 : inb (nI a + 3) L = true) (hk4 : inb (nI a + 4) L = true) (hk5 : inb (nI a + 5) L = true) (hR : Rl t u) (K : ∀ t u, Rl t u → G X D ad g t u [(0, .ref b), (1, .ref (ad 0)), (2, .ref (ad 39)), (3, .int (nI a))] 1539 []) : G X D ad g t u [(0, .ref b), (1, .ref (ad 0)), (2, .ref (ad 39)), (3, .int (nI a))] 1335 [] := by
  obtain ⟨r, t', u', h1, h2, hR2⟩ := hs t u (xs ((nI a) + 1).toNatClampNeg) (xs ((nI a) + 2).toNatClampNeg) (xs ((nI a) + 3).toNatClampNeg) hR
  refine g_aload_n F (dAt dkL_31 21 rfl) 1 rfl ?_
  refine g_aload_n F (dAt dkL_31 22 rfl) 0 rfl ?_
  refine g_iload_n F (dAt dkL_31 23 rfl) 3 rfl ?_
  refine g_iconst (v := 1) F (dAt dkL_31 24 rfl) (by decide) ?_
  refine g_iadd F (dAt dkL_31 25 rfl) ?_
  refine g_sld F hX (dAt dkL_31 26 rfl) hk1 ?_
  refine g_aload_n F (dAt dkL_31 27 rfl) 0 rfl ?_
  refine g_iload_n F (dAt dkL_31 28 rfl) 3 rfl ?_
  refine g_iconst (v := 2) F (dAt dkL_31 29 rfl) (by decide) ?_
  refine g_iadd F (dAt dkL_32 0 rfl) ?_
  refine g_sld F hX (dAt dkL_32 1 rfl) hk2 ?_
  refine g_aload_n F (dAt dkL_32 2 rfl) 0 rfl ?_
  refine g_iload_n F (dAt dkL_32 3 rfl) 3 rfl ?_
  refine g_iconst (v := 3) F (dAt dkL_32 4 rfl) (by decide) ?_
  refine g_iadd F (dAt dkL_32 5 rfl) ?_
  refine g_sld F hX (dAt dkL_32 6 rfl) hk3 ?_
  refine g_callV_ic F mi_X5_spread (gm mw_777 rfl) (dAt dkL_32 7 rfl) (rcx_of F rc_Main) [.int (xs ((nI a) + 1).toNatClampNeg), .int (xs ((nI a) + 2).toNatClampNeg), .int (xs ((nI a) + 3).toNatClampNeg)] rfl rfl (by decide) (Nat.le_of_ble_eq_true rfl) (c_X5_spread hJ h1) ?_
  refine g_aload_n F (dAt dkL_32 8 rfl) 2 rfl ?_
  refine g_aload_n F (dAt dkL_32 9 rfl) 0 rfl ?_
  refine g_iload_n F (dAt dkL_32 10 rfl) 3 rfl ?_
  refine g_iconst (v := 1) F (dAt dkL_32 11 rfl) (by decide) ?_
  refine g_iadd F (dAt dkL_32 12 rfl) ?_
  refine g_sld F hX (dAt dkL_32 13 rfl) hk1 ?_
  refine g_aload_n F (dAt dkL_32 14 rfl) 0 rfl ?_
  refine g_iload_n F (dAt dkL_32 15 rfl) 3 rfl ?_
  refine g_iconst (v := 2) F (dAt dkL_32 16 rfl) (by decide) ?_
  refine g_iadd F (dAt dkL_32 17 rfl) ?_
  refine g_sld F hX (dAt dkL_32 18 rfl) hk2 ?_
  refine g_aload_n F (dAt dkL_32 19 rfl) 0 rfl ?_
  refine g_iload_n F (dAt dkL_32 20 rfl) 3 rfl ?_
  refine g_iconst (v := 3) F (dAt dkL_32 21 rfl) (by decide) ?_
  refine g_iadd F (dAt dkL_32 22 rfl) ?_
  refine g_sld F hX (dAt dkL_32 23 rfl) hk3 ?_
  refine g_callV_im F mi_X6_spread (gm mw_1246 rfl) (dAt dkL_32 24 rfl) (rcx_of F rc_Model) [.int (xs ((nI a) + 1).toNatClampNeg), .int (xs ((nI a) + 2).toNatClampNeg), .int (xs ((nI a) + 3).toNatClampNeg)] rfl rfl (by decide) (Nat.le_of_ble_eq_true rfl) (c_X6_spread hJ h2) ?_
  refine g_eqY F (tgt := 1539) (dAt dkL_32 25 rfl) (by decide) ?_
  exact K _ _ hR2
set_option maxRecDepth 20000 in
theorem law_case33 {X : Cx} {l0 : Launch} {D : va_G} {ad : Nat → Nat} {g : Gv} {b L : Nat} {xs : Nat → Int32} (F : Fx X l0 D ad g code "MillOfDistancesLaw" 1000 4) (hX : XS X b L xs) (hJ : Jad ad) {Rl : Mem → Mem → Prop} {n : Nat} (hs : Stp33 Rl n) {t u : Mem} {a : Nat} (hk0 : inb (nI a) L = true) (hk1 : inb (nI a + 1) L = true) (hk2 : inb (nI a + 2) L = true) (hk3 : inb (nI a + 3) L = true) (hk4 : inb (nI a + 4) L = true) (hk5 : inb (nI a + 5) L = true) (hR : Rl t u) (K : ∀ t u, Rl t u → G X D ad g t u [(0, .ref b), (1, .ref (ad 0)), (2, .ref (ad 39)), (3, .int (nI a))] 1539 []) : G X D ad g t u [(0, .ref b), (1, .ref (ad 0)), (2, .ref (ad 39)), (3, .int (nI a))] 1378 [] := by
  obtain ⟨r, t', u', h1, h2, hR2⟩ := hs t u (xs ((nI a) + 1).toNatClampNeg) hR
  refine g_aload_n F (dAt dkL_32 28 rfl) 1 rfl ?_
  refine g_aload_n F (dAt dkL_32 29 rfl) 0 rfl ?_
  refine g_iload_n F (dAt dkL_33 0 rfl) 3 rfl ?_
  refine g_iconst (v := 1) F (dAt dkL_33 1 rfl) (by decide) ?_
  refine g_iadd F (dAt dkL_33 2 rfl) ?_
  refine g_sld F hX (dAt dkL_33 3 rfl) hk1 ?_
  refine g_callV_ic F mi_X5_gale (gm mw_781 rfl) (dAt dkL_33 4 rfl) (rcx_of F rc_Main) [.int (xs ((nI a) + 1).toNatClampNeg)] rfl rfl (by decide) (Nat.le_of_ble_eq_true rfl) (c_X5_gale hJ h1) ?_
  refine g_aload_n F (dAt dkL_33 5 rfl) 2 rfl ?_
  refine g_aload_n F (dAt dkL_33 6 rfl) 0 rfl ?_
  refine g_iload_n F (dAt dkL_33 7 rfl) 3 rfl ?_
  refine g_iconst (v := 1) F (dAt dkL_33 8 rfl) (by decide) ?_
  refine g_iadd F (dAt dkL_33 9 rfl) ?_
  refine g_sld F hX (dAt dkL_33 10 rfl) hk1 ?_
  refine g_callV_im F mi_X6_gale (gm mw_1250 rfl) (dAt dkL_33 11 rfl) (rcx_of F rc_Model) [.int (xs ((nI a) + 1).toNatClampNeg)] rfl rfl (by decide) (Nat.le_of_ble_eq_true rfl) (c_X6_gale hJ h2) ?_
  refine g_eqY F (tgt := 1539) (dAt dkL_33 12 rfl) (by decide) ?_
  exact K _ _ hR2
set_option maxRecDepth 20000 in
theorem law_case34 {X : Cx} {l0 : Launch} {D : va_G} {ad : Nat → Nat} {g : Gv} {b L : Nat} {xs : Nat → Int32} (F : Fx X l0 D ad g code "MillOfDistancesLaw" 1000 4) (hX : XS X b L xs) (hJ : Jad ad) {Rl : Mem → Mem → Prop} {n : Nat} (hs : Stp34 Rl n) {t u : Mem} {a : Nat} (hk0 : inb (nI a) L = true) (hk1 : inb (nI a + 1) L = true) (hk2 : inb (nI a + 2) L = true) (hk3 : inb (nI a + 3) L = true) (hk4 : inb (nI a + 4) L = true) (hk5 : inb (nI a + 5) L = true) (hR : Rl t u) (K : ∀ t u, Rl t u → G X D ad g t u [(0, .ref b), (1, .ref (ad 0)), (2, .ref (ad 39)), (3, .int (nI a))] 1539 []) : G X D ad g t u [(0, .ref b), (1, .ref (ad 0)), (2, .ref (ad 39)), (3, .int (nI a))] 1401 [] := by
  obtain ⟨r, t', u', h1, h2, hR2⟩ := hs t u (xs ((nI a) + 1).toNatClampNeg) hR
  refine g_aload_n F (dAt dkL_33 15 rfl) 1 rfl ?_
  refine g_aload_n F (dAt dkL_33 16 rfl) 0 rfl ?_
  refine g_iload_n F (dAt dkL_33 17 rfl) 3 rfl ?_
  refine g_iconst (v := 1) F (dAt dkL_33 18 rfl) (by decide) ?_
  refine g_iadd F (dAt dkL_33 19 rfl) ?_
  refine g_sld F hX (dAt dkL_33 20 rfl) hk1 ?_
  refine g_callV_ic F mi_X5_seed (gm mw_794 rfl) (dAt dkL_33 21 rfl) (rcx_of F rc_Main) [.int (xs ((nI a) + 1).toNatClampNeg)] rfl rfl (by decide) (Nat.le_of_ble_eq_true rfl) (c_X5_seed hJ h1) ?_
  refine g_aload_n F (dAt dkL_33 22 rfl) 2 rfl ?_
  refine g_aload_n F (dAt dkL_33 23 rfl) 0 rfl ?_
  refine g_iload_n F (dAt dkL_33 24 rfl) 3 rfl ?_
  refine g_iconst (v := 1) F (dAt dkL_33 25 rfl) (by decide) ?_
  refine g_iadd F (dAt dkL_33 26 rfl) ?_
  refine g_sld F hX (dAt dkL_33 27 rfl) hk1 ?_
  refine g_callV_im F mi_X6_seed (gm mw_1259 rfl) (dAt dkL_33 28 rfl) (rcx_of F rc_Model) [.int (xs ((nI a) + 1).toNatClampNeg)] rfl rfl (by decide) (Nat.le_of_ble_eq_true rfl) (c_X6_seed hJ h2) ?_
  refine g_eqY F (tgt := 1539) (dAt dkL_33 29 rfl) (by decide) ?_
  exact K _ _ hR2
set_option maxRecDepth 20000 in
theorem law_case35 {X : Cx} {l0 : Launch} {D : va_G} {ad : Nat → Nat} {g : Gv} {b L : Nat} {xs : Nat → Int32} (F : Fx X l0 D ad g code "MillOfDistancesLaw" 1000 4) (hX : XS X b L xs) (hJ : Jad ad) {Rl : Mem → Mem → Prop} {n : Nat} (hs : Stp35 Rl n) {t u : Mem} {a : Nat} (hk0 : inb (nI a) L = true) (hk1 : inb (nI a + 1) L = true) (hk2 : inb (nI a + 2) L = true) (hk3 : inb (nI a + 3) L = true) (hk4 : inb (nI a + 4) L = true) (hk5 : inb (nI a + 5) L = true) (hR : Rl t u) (K : ∀ t u, Rl t u → G X D ad g t u [(0, .ref b), (1, .ref (ad 0)), (2, .ref (ad 39)), (3, .int (nI a))] 1539 []) : G X D ad g t u [(0, .ref b), (1, .ref (ad 0)), (2, .ref (ad 39)), (3, .int (nI a))] 1424 [] := by
  obtain ⟨r, t', u', h1, h2, hR2⟩ := hs t u (xs ((nI a) + 1).toNatClampNeg) (xs ((nI a) + 2).toNatClampNeg) (xs ((nI a) + 3).toNatClampNeg) hR
  refine g_aload_n F (dAt dkL_34 2 rfl) 1 rfl ?_
  refine g_aload_n F (dAt dkL_34 3 rfl) 0 rfl ?_
  refine g_iload_n F (dAt dkL_34 4 rfl) 3 rfl ?_
  refine g_iconst (v := 1) F (dAt dkL_34 5 rfl) (by decide) ?_
  refine g_iadd F (dAt dkL_34 6 rfl) ?_
  refine g_sld F hX (dAt dkL_34 7 rfl) hk1 ?_
  refine g_aload_n F (dAt dkL_34 8 rfl) 0 rfl ?_
  refine g_iload_n F (dAt dkL_34 9 rfl) 3 rfl ?_
  refine g_iconst (v := 2) F (dAt dkL_34 10 rfl) (by decide) ?_
  refine g_iadd F (dAt dkL_34 11 rfl) ?_
  refine g_sld F hX (dAt dkL_34 12 rfl) hk2 ?_
  refine g_aload_n F (dAt dkL_34 13 rfl) 0 rfl ?_
  refine g_iload_n F (dAt dkL_34 14 rfl) 3 rfl ?_
  refine g_iconst (v := 3) F (dAt dkL_34 15 rfl) (by decide) ?_
  refine g_iadd F (dAt dkL_34 16 rfl) ?_
  refine g_sld F hX (dAt dkL_34 17 rfl) hk3 ?_
  refine g_callV_ic F mi_X5_act (gm mw_798 rfl) (dAt dkL_34 18 rfl) (rcx_of F rc_Main) [.int (xs ((nI a) + 1).toNatClampNeg), .int (xs ((nI a) + 2).toNatClampNeg), .int (xs ((nI a) + 3).toNatClampNeg)] rfl rfl (by decide) (Nat.le_of_ble_eq_true rfl) (c_X5_act hJ h1) ?_
  refine g_aload_n F (dAt dkL_34 19 rfl) 2 rfl ?_
  refine g_aload_n F (dAt dkL_34 20 rfl) 0 rfl ?_
  refine g_iload_n F (dAt dkL_34 21 rfl) 3 rfl ?_
  refine g_iconst (v := 1) F (dAt dkL_34 22 rfl) (by decide) ?_
  refine g_iadd F (dAt dkL_34 23 rfl) ?_
  refine g_sld F hX (dAt dkL_34 24 rfl) hk1 ?_
  refine g_aload_n F (dAt dkL_34 25 rfl) 0 rfl ?_
  refine g_iload_n F (dAt dkL_34 26 rfl) 3 rfl ?_
  refine g_iconst (v := 2) F (dAt dkL_34 27 rfl) (by decide) ?_
  refine g_iadd F (dAt dkL_34 28 rfl) ?_
  refine g_sld F hX (dAt dkL_34 29 rfl) hk2 ?_
  refine g_aload_n F (dAt dkL_35 0 rfl) 0 rfl ?_
  refine g_iload_n F (dAt dkL_35 1 rfl) 3 rfl ?_
  refine g_iconst (v := 3) F (dAt dkL_35 2 rfl) (by decide) ?_
  refine g_iadd F (dAt dkL_35 3 rfl) ?_
  refine g_sld F hX (dAt dkL_35 4 rfl) hk3 ?_
  refine g_callV_im F mi_X6_act (gm mw_1263 rfl) (dAt dkL_35 5 rfl) (rcx_of F rc_Model) [.int (xs ((nI a) + 1).toNatClampNeg), .int (xs ((nI a) + 2).toNatClampNeg), .int (xs ((nI a) + 3).toNatClampNeg)] rfl rfl (by decide) (Nat.le_of_ble_eq_true rfl) (c_X6_act hJ h2) ?_
  refine g_eqY F (tgt := 1539) (dAt dkL_35 6 rfl) (by decide) ?_
  exact K _ _ hR2
set_option maxRecDepth 20000 in
theorem law_case36 {X : Cx} {l0 : Launch} {D : va_G} {ad : Nat → Nat} {g : Gv} {b L : Nat} {xs : Nat → Int32} (F : Fx X l0 D ad g code "MillOfDistancesLaw" 1000 4) (hX : XS X b L xs) (hJ : Jad ad) {Rl : Mem → Mem → Prop} {n : Nat} (hs : Stp36 Rl n) {t u : Mem} {a : Nat} (hk0 : inb (nI a) L = true) (hk1 : inb (nI a + 1) L = true) (hk2 : inb (nI a + 2) L = true) (hk3 : inb (nI a + 3) L = true) (hk4 : inb (nI a + 4) L = true) (hk5 : inb (nI a + 5) L = true) (hR : Rl t u) (K : ∀ t u, Rl t u → G X D ad g t u [(0, .ref b), (1, .ref (ad 0)), (2, .ref (ad 39)), (3, .int (nI a))] 1539 []) : G X D ad g t u [(0, .ref b), (1, .ref (ad 0)), (2, .ref (ad 39)), (3, .int (nI a))] 1467 [] := by
  obtain ⟨r, t', u', h1, h2, hR2⟩ := hs t u (xs ((nI a) + 1).toNatClampNeg) hR
  refine g_aload_n F (dAt dkL_35 9 rfl) 1 rfl ?_
  refine g_aload_n F (dAt dkL_35 10 rfl) 0 rfl ?_
  refine g_iload_n F (dAt dkL_35 11 rfl) 3 rfl ?_
  refine g_iconst (v := 1) F (dAt dkL_35 12 rfl) (by decide) ?_
  refine g_iadd F (dAt dkL_35 13 rfl) ?_
  refine g_sld F hX (dAt dkL_35 14 rfl) hk1 ?_
  refine g_callV_ic F mi_X5_trace (gm mw_827 rfl) (dAt dkL_35 15 rfl) (rcx_of F rc_Main) [.int (xs ((nI a) + 1).toNatClampNeg)] rfl rfl (by decide) (Nat.le_of_ble_eq_true rfl) (c_X5_trace hJ h1) ?_
  refine g_aload_n F (dAt dkL_35 16 rfl) 2 rfl ?_
  refine g_aload_n F (dAt dkL_35 17 rfl) 0 rfl ?_
  refine g_iload_n F (dAt dkL_35 18 rfl) 3 rfl ?_
  refine g_iconst (v := 1) F (dAt dkL_35 19 rfl) (by decide) ?_
  refine g_iadd F (dAt dkL_35 20 rfl) ?_
  refine g_sld F hX (dAt dkL_35 21 rfl) hk1 ?_
  refine g_callV_im F mi_X6_trace (gm mw_1283 rfl) (dAt dkL_35 22 rfl) (rcx_of F rc_Model) [.int (xs ((nI a) + 1).toNatClampNeg)] rfl rfl (by decide) (Nat.le_of_ble_eq_true rfl) (c_X6_trace hJ h2) ?_
  refine g_eqY F (tgt := 1539) (dAt dkL_35 23 rfl) (by decide) ?_
  exact K _ _ hR2
set_option maxRecDepth 20000 in
theorem law_case37 {X : Cx} {l0 : Launch} {D : va_G} {ad : Nat → Nat} {g : Gv} {b L : Nat} {xs : Nat → Int32} (F : Fx X l0 D ad g code "MillOfDistancesLaw" 1000 4) (hX : XS X b L xs) (hJ : Jad ad) {Rl : Mem → Mem → Prop} {n : Nat} (hs : Stp37 Rl n) {t u : Mem} {a : Nat} (hk0 : inb (nI a) L = true) (hk1 : inb (nI a + 1) L = true) (hk2 : inb (nI a + 2) L = true) (hk3 : inb (nI a + 3) L = true) (hk4 : inb (nI a + 4) L = true) (hk5 : inb (nI a + 5) L = true) (hR : Rl t u) (K : ∀ t u, Rl t u → G X D ad g t u [(0, .ref b), (1, .ref (ad 0)), (2, .ref (ad 39)), (3, .int (nI a))] 1539 []) : G X D ad g t u [(0, .ref b), (1, .ref (ad 0)), (2, .ref (ad 39)), (3, .int (nI a))] 1490 [] := by
  obtain ⟨r, t', u', h1, h2, hR2⟩ := hs t u  hR
  refine g_aload_n F (dAt dkL_35 26 rfl) 1 rfl ?_
  refine g_callV_ic F mi_X5_image (gm mw_835 rfl) (dAt dkL_35 27 rfl) (rcx_of F rc_Main) [] rfl rfl (by decide) (Nat.le_of_ble_eq_true rfl) (c_X5_image hJ h1) ?_
  refine g_aload_n F (dAt dkL_35 28 rfl) 2 rfl ?_
  refine g_callV_im F mi_X6_image (gm mw_1287 rfl) (dAt dkL_35 29 rfl) (rcx_of F rc_Model) [] rfl rfl (by decide) (Nat.le_of_ble_eq_true rfl) (c_X6_image hJ h2) ?_
  refine g_eqY F (tgt := 1539) (dAt dkL_36 0 rfl) (by decide) ?_
  exact K _ _ hR2
set_option maxRecDepth 20000 in
theorem law_case38 {X : Cx} {l0 : Launch} {D : va_G} {ad : Nat → Nat} {g : Gv} {b L : Nat} {xs : Nat → Int32} (F : Fx X l0 D ad g code "MillOfDistancesLaw" 1000 4) (hX : XS X b L xs) (hJ : Jad ad) {Rl : Mem → Mem → Prop} {n : Nat} (hs : Stp38 Rl n) {t u : Mem} {a : Nat} (hk0 : inb (nI a) L = true) (hk1 : inb (nI a + 1) L = true) (hk2 : inb (nI a + 2) L = true) (hk3 : inb (nI a + 3) L = true) (hk4 : inb (nI a + 4) L = true) (hk5 : inb (nI a + 5) L = true) (hR : Rl t u) (K : ∀ t u, Rl t u → G X D ad g t u [(0, .ref b), (1, .ref (ad 0)), (2, .ref (ad 39)), (3, .int (nI a))] 1539 []) : G X D ad g t u [(0, .ref b), (1, .ref (ad 0)), (2, .ref (ad 39)), (3, .int (nI a))] 1503 [] := by
  obtain ⟨r, t', u', h1, h2, hR2⟩ := hs t u  hR
  refine g_aload_n F (dAt dkL_36 3 rfl) 1 rfl ?_
  refine g_callV_ic F mi_X5_restore (gm mw_839 rfl) (dAt dkL_36 4 rfl) (rcx_of F rc_Main) [] rfl rfl (by decide) (Nat.le_of_ble_eq_true rfl) (c_X5_restore hJ h1) ?_
  refine g_aload_n F (dAt dkL_36 5 rfl) 2 rfl ?_
  refine g_callV_im F mi_X6_restore (gm mw_1291 rfl) (dAt dkL_36 6 rfl) (rcx_of F rc_Model) [] rfl rfl (by decide) (Nat.le_of_ble_eq_true rfl) (c_X6_restore hJ h2) ?_
  refine g_eqY F (tgt := 1539) (dAt dkL_36 7 rfl) (by decide) ?_
  exact K _ _ hR2
set_option maxRecDepth 20000 in
theorem law_case39 {X : Cx} {l0 : Launch} {D : va_G} {ad : Nat → Nat} {g : Gv} {b L : Nat} {xs : Nat → Int32} (F : Fx X l0 D ad g code "MillOfDistancesLaw" 1000 4) (hX : XS X b L xs) (hJ : Jad ad) {Rl : Mem → Mem → Prop} {n : Nat} (hs : Stp39 Rl n) {t u : Mem} {a : Nat} (hk0 : inb (nI a) L = true) (hk1 : inb (nI a + 1) L = true) (hk2 : inb (nI a + 2) L = true) (hk3 : inb (nI a + 3) L = true) (hk4 : inb (nI a + 4) L = true) (hk5 : inb (nI a + 5) L = true) (hR : Rl t u) (K : ∀ t u, Rl t u → G X D ad g t u [(0, .ref b), (1, .ref (ad 0)), (2, .ref (ad 39)), (3, .int (nI a))] 1539 []) : G X D ad g t u [(0, .ref b), (1, .ref (ad 0)), (2, .ref (ad 39)), (3, .int (nI a))] 1516 [] := by
  obtain ⟨r, t', u', h1, h2, hR2⟩ := hs t u (xs ((nI a) + 1).toNatClampNeg) hR
  refine g_aload_n F (dAt dkL_36 10 rfl) 1 rfl ?_
  refine g_aload_n F (dAt dkL_36 11 rfl) 0 rfl ?_
  refine g_iload_n F (dAt dkL_36 12 rfl) 3 rfl ?_
  refine g_iconst (v := 1) F (dAt dkL_36 13 rfl) (by decide) ?_
  refine g_iadd F (dAt dkL_36 14 rfl) ?_
  refine g_sld F hX (dAt dkL_36 15 rfl) hk1 ?_
  refine g_callV_ic F mi_X5_status (gm mw_843 rfl) (dAt dkL_36 16 rfl) (rcx_of F rc_Main) [.int (xs ((nI a) + 1).toNatClampNeg)] rfl rfl (by decide) (Nat.le_of_ble_eq_true rfl) (c_X5_status hJ h1) ?_
  refine g_aload_n F (dAt dkL_36 17 rfl) 2 rfl ?_
  refine g_aload_n F (dAt dkL_36 18 rfl) 0 rfl ?_
  refine g_iload_n F (dAt dkL_36 19 rfl) 3 rfl ?_
  refine g_iconst (v := 1) F (dAt dkL_36 20 rfl) (by decide) ?_
  refine g_iadd F (dAt dkL_36 21 rfl) ?_
  refine g_sld F hX (dAt dkL_36 22 rfl) hk1 ?_
  refine g_callV_im F mi_X6_status (gm mw_1295 rfl) (dAt dkL_36 23 rfl) (rcx_of F rc_Model) [.int (xs ((nI a) + 1).toNatClampNeg)] rfl rfl (by decide) (Nat.le_of_ble_eq_true rfl) (c_X6_status hJ h2) ?_
  refine g_eqY F (tgt := 1539) (dAt dkL_36 24 rfl) (by decide) ?_
  exact K _ _ hR2
set_option maxRecDepth 20000 in
set_option maxHeartbeats 4000000 in
theorem law_body {X : Cx} {l0 : Launch} {D : va_G} {ad : Nat → Nat} {g : Gv} {b L : Nat} {xs : Nat → Int32} (F : Fx X l0 D ad g code "MillOfDistancesLaw" 1000 4) (hX : XS X b L xs) (hJ : Jad ad) {Rl : Mem → Mem → Prop} {n : Nat} (hs : StpAll Rl n) {t u : Mem} {a : Nat} (hk0 : inb (nI a) L = true) (hk1 : inb (nI a + 1) L = true) (hk2 : inb (nI a + 2) L = true) (hk3 : inb (nI a + 3) L = true) (hk4 : inb (nI a + 4) L = true) (hk5 : inb (nI a + 5) L = true) (hR : Rl t u) (K : ∀ t u, Rl t u → G X D ad g t u [(0, .ref b), (1, .ref (ad 0)), (2, .ref (ad 39)), (3, .int (nI a))] 1539 []) : G X D ad g t u [(0, .ref b), (1, .ref (ad 0)), (2, .ref (ad 39)), (3, .int (nI a))] 27 [] := by
  obtain ⟨s0, s1, s2, s3, s4, s5, s6, s7, s8, s9, s10, s11, s12, s13, s14, s15, s16, s17, s18, s19, s20, s21, s22, s23, s24, s25, s26, s27, s28, s29, s30, s31, s32, s33, s34, s35, s36, s37, s38, s39⟩ := hs
  refine g_aload_n F (dAt dkL_0 16 rfl) 0 rfl ?_
  refine g_iload_n F (dAt dkL_0 17 rfl) 3 rfl ?_
  refine g_sld F hX (dAt dkL_0 18 rfl) hk0 ?_
  refine g_bipush (v := 63) F (dAt dkL_0 19 rfl) (by decide) ?_
  refine g_iand F (dAt dkL_0 20 rfl) ?_
  generalize xs (nI a).toNatClampNeg &&& 63 = x
  refine g_split (x := x) 0 (fun c0 => ?_) (fun c0 => ?_)
  · exact g_tabIn (v := 0) (tgt := 208) (off := 175) F (dAt dkL_0 21 rfl) c0 (by decide) (by decide) rfl (by decide) (law_case0 F hX hJ s0 hk0 hk1 hk2 hk3 hk4 hk5 hR K)
  refine g_split (x := x) 1 (fun c1 => ?_) (fun c1 => ?_)
  · exact g_tabIn (v := 1) (tgt := 251) (off := 218) F (dAt dkL_0 21 rfl) c1 (by decide) (by decide) rfl (by decide) (law_case1 F hX hJ s1 hk0 hk1 hk2 hk3 hk4 hk5 hR K)
  refine g_split (x := x) 2 (fun c2 => ?_) (fun c2 => ?_)
  · exact g_tabIn (v := 2) (tgt := 324) (off := 291) F (dAt dkL_0 21 rfl) c2 (by decide) (by decide) rfl (by decide) (law_case2 F hX hJ s2 hk0 hk1 hk2 hk3 hk4 hk5 hR K)
  refine g_split (x := x) 3 (fun c3 => ?_) (fun c3 => ?_)
  · exact g_tabIn (v := 3) (tgt := 387) (off := 354) F (dAt dkL_0 21 rfl) c3 (by decide) (by decide) rfl (by decide) (law_case3 F hX hJ s3 hk0 hk1 hk2 hk3 hk4 hk5 hR K)
  refine g_split (x := x) 4 (fun c4 => ?_) (fun c4 => ?_)
  · exact g_tabIn (v := 4) (tgt := 421) (off := 388) F (dAt dkL_0 21 rfl) c4 (by decide) (by decide) rfl (by decide) (law_case4 F hX hJ s4 hk0 hk1 hk2 hk3 hk4 hk5 hR K)
  refine g_split (x := x) 5 (fun c5 => ?_) (fun c5 => ?_)
  · exact g_tabIn (v := 5) (tgt := 454) (off := 421) F (dAt dkL_0 21 rfl) c5 (by decide) (by decide) rfl (by decide) (law_case5 F hX hJ s5 hk0 hk1 hk2 hk3 hk4 hk5 hR K)
  refine g_split (x := x) 6 (fun c6 => ?_) (fun c6 => ?_)
  · exact g_tabIn (v := 6) (tgt := 477) (off := 444) F (dAt dkL_0 21 rfl) c6 (by decide) (by decide) rfl (by decide) (law_case6 F hX hJ s6 hk0 hk1 hk2 hk3 hk4 hk5 hR K)
  refine g_split (x := x) 7 (fun c7 => ?_) (fun c7 => ?_)
  · exact g_tabIn (v := 7) (tgt := 510) (off := 477) F (dAt dkL_0 21 rfl) c7 (by decide) (by decide) rfl (by decide) (law_case7 F hX hJ s7 hk0 hk1 hk2 hk3 hk4 hk5 hR K)
  refine g_split (x := x) 8 (fun c8 => ?_) (fun c8 => ?_)
  · exact g_tabIn (v := 8) (tgt := 543) (off := 510) F (dAt dkL_0 21 rfl) c8 (by decide) (by decide) rfl (by decide) (law_case8 F hX hJ s8 hk0 hk1 hk2 hk3 hk4 hk5 hR K)
  refine g_split (x := x) 9 (fun c9 => ?_) (fun c9 => ?_)
  · exact g_tabIn (v := 9) (tgt := 576) (off := 543) F (dAt dkL_0 21 rfl) c9 (by decide) (by decide) rfl (by decide) (law_case9 F hX hJ s9 hk0 hk1 hk2 hk3 hk4 hk5 hR K)
  refine g_split (x := x) 10 (fun c10 => ?_) (fun c10 => ?_)
  · exact g_tabIn (v := 10) (tgt := 619) (off := 586) F (dAt dkL_0 21 rfl) c10 (by decide) (by decide) rfl (by decide) (law_case10 F hX hJ s10 hk0 hk1 hk2 hk3 hk4 hk5 hR K)
  refine g_split (x := x) 11 (fun c11 => ?_) (fun c11 => ?_)
  · exact g_tabIn (v := 11) (tgt := 652) (off := 619) F (dAt dkL_0 21 rfl) c11 (by decide) (by decide) rfl (by decide) (law_case11 F hX hJ s11 hk0 hk1 hk2 hk3 hk4 hk5 hR K)
  refine g_split (x := x) 12 (fun c12 => ?_) (fun c12 => ?_)
  · exact g_tabIn (v := 12) (tgt := 685) (off := 652) F (dAt dkL_0 21 rfl) c12 (by decide) (by decide) rfl (by decide) (law_case12 F hX hJ s12 hk0 hk1 hk2 hk3 hk4 hk5 hR K)
  refine g_split (x := x) 13 (fun c13 => ?_) (fun c13 => ?_)
  · exact g_tabIn (v := 13) (tgt := 708) (off := 675) F (dAt dkL_0 21 rfl) c13 (by decide) (by decide) rfl (by decide) (law_case13 F hX hJ s13 hk0 hk1 hk2 hk3 hk4 hk5 hR K)
  refine g_split (x := x) 14 (fun c14 => ?_) (fun c14 => ?_)
  · exact g_tabIn (v := 14) (tgt := 721) (off := 688) F (dAt dkL_0 21 rfl) c14 (by decide) (by decide) rfl (by decide) (law_case14 F hX hJ s14 hk0 hk1 hk2 hk3 hk4 hk5 hR K)
  refine g_split (x := x) 15 (fun c15 => ?_) (fun c15 => ?_)
  · exact g_tabIn (v := 15) (tgt := 764) (off := 731) F (dAt dkL_0 21 rfl) c15 (by decide) (by decide) rfl (by decide) (law_case15 F hX hJ s15 hk0 hk1 hk2 hk3 hk4 hk5 hR K)
  refine g_split (x := x) 16 (fun c16 => ?_) (fun c16 => ?_)
  · exact g_tabIn (v := 16) (tgt := 797) (off := 764) F (dAt dkL_0 21 rfl) c16 (by decide) (by decide) rfl (by decide) (law_case16 F hX hJ s16 hk0 hk1 hk2 hk3 hk4 hk5 hR K)
  refine g_split (x := x) 17 (fun c17 => ?_) (fun c17 => ?_)
  · exact g_tabIn (v := 17) (tgt := 830) (off := 797) F (dAt dkL_0 21 rfl) c17 (by decide) (by decide) rfl (by decide) (law_case17 F hX hJ s17 hk0 hk1 hk2 hk3 hk4 hk5 hR K)
  refine g_split (x := x) 18 (fun c18 => ?_) (fun c18 => ?_)
  · exact g_tabIn (v := 18) (tgt := 873) (off := 840) F (dAt dkL_0 21 rfl) c18 (by decide) (by decide) rfl (by decide) (law_case18 F hX hJ s18 hk0 hk1 hk2 hk3 hk4 hk5 hR K)
  refine g_split (x := x) 19 (fun c19 => ?_) (fun c19 => ?_)
  · exact g_tabIn (v := 19) (tgt := 906) (off := 873) F (dAt dkL_0 21 rfl) c19 (by decide) (by decide) rfl (by decide) (law_case19 F hX hJ s19 hk0 hk1 hk2 hk3 hk4 hk5 hR K)
  refine g_split (x := x) 20 (fun c20 => ?_) (fun c20 => ?_)
  · exact g_tabIn (v := 20) (tgt := 929) (off := 896) F (dAt dkL_0 21 rfl) c20 (by decide) (by decide) rfl (by decide) (law_case20 F hX hJ s20 hk0 hk1 hk2 hk3 hk4 hk5 hR K)
  refine g_split (x := x) 21 (fun c21 => ?_) (fun c21 => ?_)
  · exact g_tabIn (v := 21) (tgt := 972) (off := 939) F (dAt dkL_0 21 rfl) c21 (by decide) (by decide) rfl (by decide) (law_case21 F hX hJ s21 hk0 hk1 hk2 hk3 hk4 hk5 hR K)
  refine g_split (x := x) 22 (fun c22 => ?_) (fun c22 => ?_)
  · exact g_tabIn (v := 22) (tgt := 985) (off := 952) F (dAt dkL_0 21 rfl) c22 (by decide) (by decide) rfl (by decide) (law_case22 F hX hJ s22 hk0 hk1 hk2 hk3 hk4 hk5 hR K)
  refine g_split (x := x) 23 (fun c23 => ?_) (fun c23 => ?_)
  · exact g_tabIn (v := 23) (tgt := 1038) (off := 1005) F (dAt dkL_0 21 rfl) c23 (by decide) (by decide) rfl (by decide) (law_case23 F hX hJ s23 hk0 hk1 hk2 hk3 hk4 hk5 hR K)
  refine g_split (x := x) 24 (fun c24 => ?_) (fun c24 => ?_)
  · exact g_tabIn (v := 24) (tgt := 1071) (off := 1038) F (dAt dkL_0 21 rfl) c24 (by decide) (by decide) rfl (by decide) (law_case24 F hX hJ s24 hk0 hk1 hk2 hk3 hk4 hk5 hR K)
  refine g_split (x := x) 25 (fun c25 => ?_) (fun c25 => ?_)
  · exact g_tabIn (v := 25) (tgt := 1124) (off := 1091) F (dAt dkL_0 21 rfl) c25 (by decide) (by decide) rfl (by decide) (law_case25 F hX hJ s25 hk0 hk1 hk2 hk3 hk4 hk5 hR K)
  refine g_split (x := x) 26 (fun c26 => ?_) (fun c26 => ?_)
  · exact g_tabIn (v := 26) (tgt := 1147) (off := 1114) F (dAt dkL_0 21 rfl) c26 (by decide) (by decide) rfl (by decide) (law_case26 F hX hJ s26 hk0 hk1 hk2 hk3 hk4 hk5 hR K)
  refine g_split (x := x) 27 (fun c27 => ?_) (fun c27 => ?_)
  · exact g_tabIn (v := 27) (tgt := 1170) (off := 1137) F (dAt dkL_0 21 rfl) c27 (by decide) (by decide) rfl (by decide) (law_case27 F hX hJ s27 hk0 hk1 hk2 hk3 hk4 hk5 hR K)
  refine g_split (x := x) 28 (fun c28 => ?_) (fun c28 => ?_)
  · exact g_tabIn (v := 28) (tgt := 1203) (off := 1170) F (dAt dkL_0 21 rfl) c28 (by decide) (by decide) rfl (by decide) (law_case28 F hX hJ s28 hk0 hk1 hk2 hk3 hk4 hk5 hR K)
  refine g_split (x := x) 29 (fun c29 => ?_) (fun c29 => ?_)
  · exact g_tabIn (v := 29) (tgt := 1236) (off := 1203) F (dAt dkL_0 21 rfl) c29 (by decide) (by decide) rfl (by decide) (law_case29 F hX hJ s29 hk0 hk1 hk2 hk3 hk4 hk5 hR K)
  refine g_split (x := x) 30 (fun c30 => ?_) (fun c30 => ?_)
  · exact g_tabIn (v := 30) (tgt := 1269) (off := 1236) F (dAt dkL_0 21 rfl) c30 (by decide) (by decide) rfl (by decide) (law_case30 F hX hJ s30 hk0 hk1 hk2 hk3 hk4 hk5 hR K)
  refine g_split (x := x) 31 (fun c31 => ?_) (fun c31 => ?_)
  · exact g_tabIn (v := 31) (tgt := 1302) (off := 1269) F (dAt dkL_0 21 rfl) c31 (by decide) (by decide) rfl (by decide) (law_case31 F hX hJ s31 hk0 hk1 hk2 hk3 hk4 hk5 hR K)
  refine g_split (x := x) 32 (fun c32 => ?_) (fun c32 => ?_)
  · exact g_tabIn (v := 32) (tgt := 1335) (off := 1302) F (dAt dkL_0 21 rfl) c32 (by decide) (by decide) rfl (by decide) (law_case32 F hX hJ s32 hk0 hk1 hk2 hk3 hk4 hk5 hR K)
  refine g_split (x := x) 33 (fun c33 => ?_) (fun c33 => ?_)
  · exact g_tabIn (v := 33) (tgt := 1378) (off := 1345) F (dAt dkL_0 21 rfl) c33 (by decide) (by decide) rfl (by decide) (law_case33 F hX hJ s33 hk0 hk1 hk2 hk3 hk4 hk5 hR K)
  refine g_split (x := x) 34 (fun c34 => ?_) (fun c34 => ?_)
  · exact g_tabIn (v := 34) (tgt := 1401) (off := 1368) F (dAt dkL_0 21 rfl) c34 (by decide) (by decide) rfl (by decide) (law_case34 F hX hJ s34 hk0 hk1 hk2 hk3 hk4 hk5 hR K)
  refine g_split (x := x) 35 (fun c35 => ?_) (fun c35 => ?_)
  · exact g_tabIn (v := 35) (tgt := 1424) (off := 1391) F (dAt dkL_0 21 rfl) c35 (by decide) (by decide) rfl (by decide) (law_case35 F hX hJ s35 hk0 hk1 hk2 hk3 hk4 hk5 hR K)
  refine g_split (x := x) 36 (fun c36 => ?_) (fun c36 => ?_)
  · exact g_tabIn (v := 36) (tgt := 1467) (off := 1434) F (dAt dkL_0 21 rfl) c36 (by decide) (by decide) rfl (by decide) (law_case36 F hX hJ s36 hk0 hk1 hk2 hk3 hk4 hk5 hR K)
  refine g_split (x := x) 37 (fun c37 => ?_) (fun c37 => ?_)
  · exact g_tabIn (v := 37) (tgt := 1490) (off := 1457) F (dAt dkL_0 21 rfl) c37 (by decide) (by decide) rfl (by decide) (law_case37 F hX hJ s37 hk0 hk1 hk2 hk3 hk4 hk5 hR K)
  refine g_split (x := x) 38 (fun c38 => ?_) (fun c38 => ?_)
  · exact g_tabIn (v := 38) (tgt := 1503) (off := 1470) F (dAt dkL_0 21 rfl) c38 (by decide) (by decide) rfl (by decide) (law_case38 F hX hJ s38 hk0 hk1 hk2 hk3 hk4 hk5 hR K)
  refine g_split (x := x) 39 (fun c39 => ?_) (fun c39 => ?_)
  · exact g_tabIn (v := 39) (tgt := 1516) (off := 1483) F (dAt dkL_0 21 rfl) c39 (by decide) (by decide) rfl (by decide) (law_case39 F hX hJ s39 hk0 hk1 hk2 hk3 hk4 hk5 hR K)
  refine g_tabOut F (tgt := 1539) (dAt dkL_0 21 rfl) ?_ (by decide) (K t u hR)
  have c0 := lv_neT c0 (a := 0) (by decide)
  have c1 := lv_neT c1 (a := 1) (by decide)
  have c2 := lv_neT c2 (a := 2) (by decide)
  have c3 := lv_neT c3 (a := 3) (by decide)
  have c4 := lv_neT c4 (a := 4) (by decide)
  have c5 := lv_neT c5 (a := 5) (by decide)
  have c6 := lv_neT c6 (a := 6) (by decide)
  have c7 := lv_neT c7 (a := 7) (by decide)
  have c8 := lv_neT c8 (a := 8) (by decide)
  have c9 := lv_neT c9 (a := 9) (by decide)
  have c10 := lv_neT c10 (a := 10) (by decide)
  have c11 := lv_neT c11 (a := 11) (by decide)
  have c12 := lv_neT c12 (a := 12) (by decide)
  have c13 := lv_neT c13 (a := 13) (by decide)
  have c14 := lv_neT c14 (a := 14) (by decide)
  have c15 := lv_neT c15 (a := 15) (by decide)
  have c16 := lv_neT c16 (a := 16) (by decide)
  have c17 := lv_neT c17 (a := 17) (by decide)
  have c18 := lv_neT c18 (a := 18) (by decide)
  have c19 := lv_neT c19 (a := 19) (by decide)
  have c20 := lv_neT c20 (a := 20) (by decide)
  have c21 := lv_neT c21 (a := 21) (by decide)
  have c22 := lv_neT c22 (a := 22) (by decide)
  have c23 := lv_neT c23 (a := 23) (by decide)
  have c24 := lv_neT c24 (a := 24) (by decide)
  have c25 := lv_neT c25 (a := 25) (by decide)
  have c26 := lv_neT c26 (a := 26) (by decide)
  have c27 := lv_neT c27 (a := 27) (by decide)
  have c28 := lv_neT c28 (a := 28) (by decide)
  have c29 := lv_neT c29 (a := 29) (by decide)
  have c30 := lv_neT c30 (a := 30) (by decide)
  have c31 := lv_neT c31 (a := 31) (by decide)
  have c32 := lv_neT c32 (a := 32) (by decide)
  have c33 := lv_neT c33 (a := 33) (by decide)
  have c34 := lv_neT c34 (a := 34) (by decide)
  have c35 := lv_neT c35 (a := 35) (by decide)
  have c36 := lv_neT c36 (a := 36) (by decide)
  have c37 := lv_neT c37 (a := 37) (by decide)
  have c38 := lv_neT c38 (a := 38) (by decide)
  have c39 := lv_neT c39 (a := 39) (by decide)
  omega
theorem law_loop {X : Cx} {l0 : Launch} {D : va_G} {ad : Nat → Nat} {g : Gv} {b L : Nat} {xs : Nat → Int32} (F : Fx X l0 D ad g code "MillOfDistancesLaw" 1000 4) (hX : XS X b L xs) (hJ : Jad ad) (hL : L ≤ 3072) {Rl : Mem → Mem → Prop} {n : Nat} (hs : StpAll Rl n) (hE : ∀ {t u : Mem} {lv : List (Nat × Value)}, G X D ad g t u lv 1546 [.int 1]) : ∀ (k : Nat) (t u : Mem) (a : Nat), L < a + 6 * k + 6 → a ≤ L → Rl t u → G X D ad g t u [(0, .ref b), (1, .ref (ad 0)), (2, .ref (ad 39)), (3, .int (nI a))] 18 [] := by
  intro k
  induction k with
  | zero =>
    intro t u a h1 h2 hR
    refine law_head F hX hJ hL (by omega) (fun h => absurd h (by omega)) ?_
    exact g_iconst (v := 1) F (dAt dkL_36 29 rfl) (by decide) hE
  | succ k ih =>
    intro t u a h1 h2 hR
    refine law_head F hX hJ hL (by omega) (fun h => ?_) (g_iconst (v := 1) F (dAt dkL_36 29 rfl) (by decide) hE)
    have hin : ∀ c : Nat, c < 6 → inb (nI (a + c)) L = true := fun c hc => decide_eq_true (vp_in_nI (by omega) (by omega))
    have e : ∀ c : Nat, nI a + nI c = nI (a + c) := fun c => nI_add a c
    refine law_body F hX hJ hs (hin 0 (by omega)) (by rw [show (1 : Int32) = nI 1 from rfl, e]; exact hin 1 (by omega)) (by rw [show (2 : Int32) = nI 2 from rfl, e]; exact hin 2 (by omega)) (by rw [show (3 : Int32) = nI 3 from rfl, e]; exact hin 3 (by omega)) (by rw [show (4 : Int32) = nI 4 from rfl, e]; exact hin 4 (by omega)) (by rw [show (5 : Int32) = nI 5 from rfl, e]; exact hin 5 (by omega)) hR (fun t u hR => ?_)
    refine g_iinc (lv' := [(3, .int (nI a + 6)), (0, .ref b), (1, .ref (ad 0)), (2, .ref (ad 39))]) F (dAt dkL_36 27 rfl) 3 rfl (w := 6) (by decide) (by decide) rfl ?_
    refine g_goto (tgt := 18) F (dAt dkL_36 28 rfl) (by decide) ?_
    refine g_sub (lv' := [(0, .ref b), (1, .ref (ad 0)), (2, .ref (ad 39)), (3, .int (nI (a + 6)))]) [1, 2, 3, 0] (by rw [← nI_add]; rfl) ?_
    exact ih t u (a + 6) (by omega) (by omega) hR
