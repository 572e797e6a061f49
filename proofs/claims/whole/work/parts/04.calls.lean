abbrev oKp (B : Fin 2) : Nat := 48 + B.val
/-! calls -/
theorem good_of_mem {ws : List Cond} (h : ∀ w ∈ ws, w ∈ gw) : GoodIn gw ws := fun w hw => ⟨h w hw, (good_tbl w (h w hw)).2⟩
def MI (y : MethodName) (cc : ByteArray) (nL : Nat) (ret : Option FieldType) (C : String) (n : Nat) : Prop := Cond.code y cc nL ret ∈ gw ∧ Cond.instanceMethod y ∈ gw ∧ Cond.selects C y y ∈ gw ∧ Cond.initialized C ∈ gw ∧ (y.cls = C ∧ y.cls ≠ "java/lang/invoke/MethodHandle" ∧ y.cls ≠ "java/lang/invoke/VarHandle" ∧ (parseMethodDescriptor y.desc).map (fun d => d.parameters.length) = some n) ∧ nL ≤ 40
def MS (y : MethodName) (cc : ByteArray) (nL : Nat) (ret : Option FieldType) (n : Nat) : Prop := Cond.code y cc nL ret ∈ gw ∧ Cond.static y ∈ gw ∧ Cond.initialized y.cls ∈ gw ∧ (y.cls ≠ "java/lang/invoke/MethodHandle" ∧ y.cls ≠ "java/lang/invoke/VarHandle" ∧ (parseMethodDescriptor y.desc).map (fun d => d.parameters.length) = some n) ∧ nL ≤ 40
def RcX (X : Cx) (D : va_G) (ad : Nat → Nat) (g : Gv) (t u : Mem) (b : Nat) (C : String) : Prop :=
  match X with
  | (_, _, _, _, s, _, _, _, _, _, _, A, _, _, _) => ∀ (H : Heap) (locs : List Loc), va_P D vwCl (wsA ad g t u) H → va_S A s.heap H locs → ∃ cellB : Cell, H[b]? = some cellB ∧ cellB.vm.isStatics = false ∧ s.vm.findClass C = some cellB.cls
def NwX (X : Cx) (w : Cond) : Prop :=
  match X with
  | (_, _, _, _, s, _, _, _, _, _, _, _, _, _, _) => va_Nw w s
theorem pre_blind {D : va_G} {ad : Nat → Nat} {g : Gv} {sz : Nat} {t u : Mem} {dv : List Value} : FrameBlind (va_Pc dv (Pre D ad g sz t u)) := by
  intro a U g' mk q
  obtain ⟨q0, q1, qP, qK, qS⟩ := q
  exact ⟨q0, q1, qP, va_K.moved (u := U) (U := U.calling g' mk a) (Vm.Alike.refl U.vm) qK, Sti.moved (u := U) (U := U.calling g' mk a) (Vm.Alike.refl U.vm) qS.1, Sts.same (u := U) (U := U.calling g' mk a) rfl qS.2⟩
theorem awd_sub {ad : Nat → Nat} {A : Nat → Prop} {H0 H : Heap} {locs : List Loc} (hA : ∀ q, H0.size ≤ q → A q) (hAw : ∀ i, i < 53 → A (ad i)) (hS : va_S A H0 H locs) : ∀ q, Awd ad H.size q → A q := by
  intro q h
  rcases h with ⟨i, hi, rfl⟩ | h
  · exact hAw i hi
  · exact hA q (Nat.le_trans hS.1 h)
theorem pre_of {D : va_G} {ad : Nat → Nat} {g : Gv} {t u : Mem} {dv : List Value} {s : State} {A : Nat → Prop} {H : Heap} {locs : List Loc} (hK : va_K D vwCl (tysG g) s) (hSt : Stt A g s s.heap) (hA : ∀ q, s.heap.size ≤ q → A q) (hAw : ∀ i, i < 53 → A (ad i)) (hP : va_P D vwCl (wsA ad g t u) H) (hS : va_S A s.heap H locs) : ∀ U : State, U.heap = H → s.WarmedH U.vm → va_Pc dv (Pre D ad g H.size t u) dv.toArray U := by
  intro U hU hW
  refine ⟨rfl, by rw [hU], by rw [hU]; exact hP, va_K.moved hW.alike hK, ?_, Sts.warm hW hSt.2⟩
  rw [hU]
  exact ((hSt.1.kept (H1 := H) (fun a ha hn => hS.2.1 a ha hn)).narrow (awd_sub hA hAw hS)).moved hW.alike
section GC
variable {X : Cx} {l0 : Launch} {D : va_G} {ad : Nat → Nat} {g : Gv} {cc : ByteArray} {own : String} {d N : Nat} {t u : Mem} {lv lv' : List (Nat × Value)} {pc q tgt : Nat} {st rest : List Value} {Rt : Type} {Rv : Rt}
theorem rcx_of {o : Nat} {C : String} (F : Fx X l0 D ad g cc own d N) (h : Rc ad g o C) : RcX X D ad g t u (ad o) C := by
  obtain ⟨p, l, e, R, s, m, args, below, meth, c, Q, A, nL, cells, slots⟩ := X
  obtain ⟨ci, q, hc, hq, hw⟩ := h
  obtain ⟨fs, he⟩ := hw t u
  intro H locs hP hS
  have := va_recv F.2.2.2.2.2.1 hP hc he
  rw [hq] at this
  exact this
theorem rcx_str (F : Fx X l0 D ad g cc own d N) (i : Fin 9) : RcX X D ad g t u (g.2.2.1 i.val) "java/lang/String" := by
  obtain ⟨p, l, e, R, s, m, args, below, meth, c, Q, A, nL, cells, slots⟩ := X
  obtain ⟨hx, hb, hml, hown, hts, hK, hJ, hSt, -⟩ := F
  exact fun H locs hP hS => vk_recv hSt.1.2.2.2.1 i.isLt hS
theorem in_wsV {big : List Cond} {own C : String} {idx : Nat} {y : MethodName} {w0 : Cond} (h0 : w0 ∈ big) (h1 : Cond.methodLink own idx y ∈ big) (h2 : Cond.instanceMethod y ∈ big) (h3 : Cond.selects C y y ∈ big) (h4 : Cond.initialized C ∈ big) : ∀ w ∈ wsV own idx C y (w0 :: big), w ∈ big := by
  intro w hw
  unfold wsV at hw
  rcases List.mem_append.mp hw with hw | hw
  · rcases List.mem_cons.mp hw with rfl | hw
    · exact h1
    rcases List.mem_cons.mp hw with rfl | hw
    · exact h2
    rcases List.mem_cons.mp hw with rfl | hw
    · exact h3
    rcases List.mem_cons.mp hw with rfl | hw
    · exact h4
    exact absurd hw List.not_mem_nil
  · rcases List.mem_cons.mp hw with rfl | hw
    · exact h0
    · exact hw
theorem in_wsS {big : List Cond} {own : String} {idx : Nat} {y : MethodName} {w0 : Cond} (h0 : w0 ∈ big) (h1 : Cond.methodLink own idx y ∈ big) (h2 : Cond.static y ∈ big) (h3 : Cond.initialized y.cls ∈ big) : ∀ w ∈ va_wsS own idx y (w0 :: big), w ∈ big := by
  intro w hw
  unfold va_wsS at hw
  rcases List.mem_append.mp hw with hw | hw
  · rcases List.mem_cons.mp hw with rfl | hw
    · exact h1
    rcases List.mem_cons.mp hw with rfl | hw
    · exact h2
    rcases List.mem_cons.mp hw with rfl | hw
    · exact h3
    exact absurd hw List.not_mem_nil
  · rcases List.mem_cons.mp hw with rfl | hw
    · exact h0
    · exact hw
theorem in_wsN {big : List Cond} {w0 : Cond} (h0 : w0 ∈ big) : ∀ w ∈ w0 :: big, w ∈ big := by
  intro w hw
  rcases List.mem_cons.mp hw with rfl | hw
  · exact h0
  · exact hw
theorem wsV_in {idx : Nat} {C : String} {y : MethodName} {ccy : ByteArray} {nLy n : Nat} {ret : Option FieldType} (hm : MI y ccy nLy ret C n) (hl : Cond.methodLink own idx y ∈ gw) : GoodIn gw (wsV own idx C y (.code y ccy nLy ret :: gw)) :=
  good_of_mem (in_wsV hm.1 hl hm.2.1 hm.2.2.1 hm.2.2.2.1)
theorem wsS_in {idx : Nat} {y : MethodName} {ccy : ByteArray} {nLy n : Nat} {ret : Option FieldType} (hm : MS y ccy nLy ret n) (hl : Cond.methodLink own idx y ∈ gw) : GoodIn gw (va_wsS own idx y (.code y ccy nLy ret :: gw)) :=
  good_of_mem (in_wsS hm.1 hl hm.2.1 hm.2.2.1)
theorem wsN_in {y : MethodName} {ccy : ByteArray} {nLy n : Nat} {ret : Option FieldType} (hm : MS y ccy nLy ret n) : GoodIn gw (.code y ccy nLy ret :: gw) :=
  good_of_mem (in_wsN hm.1)
theorem room_ok {nLy dd : Nat} {R : Room} (hn : nLy ≤ 40) (hR : dd + 1 ≤ d) (h : d ≤ R.frames ∧ 64 * d ≤ R.locals) : (rmD dd).frames + 1 ≤ R.frames ∧ 8 + (nLy + 11) + (rmD dd).locals ≤ R.locals :=
  ⟨Nat.le_trans hR h.1, Nat.le_trans (show 8 + (nLy + 11) + 64 * dd ≤ 64 * d by omega) h.2⟩
theorem g_invV_ic {y : MethodName} {ccy : ByteArray} {nLy n dd idx b : Nat} {ret : Option FieldType} {C : String} {fo : Option (Int32 × Mem)} {K : Int32 → Mem → Option Rt} (F : Fx X l0 D ad g cc own d N) (hm : MI y ccy nLy ret C n) (hl : Cond.methodLink own idx y ∈ gw) (hd : Dq cc pc (.invokevirtual idx) 3 q) (hrc : RcX X D ad g t u b C) (As : List Value) (hst : st = As.reverse ++ .ref b :: rest) (hn : As.length = n) (hR : dd + 1 ≤ d) (hrs : (rest.map fun v => v.category).sum ≤ 8) (h : bnd fo K = some Rv) (hC : ∀ r t', fo = some (r, t') → ConI l0 y ccy nLy ret dd (.ref b :: As) D ad g t u t' u r) (k : ∀ r t', K r t' = some Rv → G X D ad g t' u lv q (.int r :: rest)) : G X D ad g t u lv pc st := by
  obtain ⟨r, t', hf, hK⟩ := bnd_some h
  obtain ⟨p, l, e, R, s, m, args, below, meth, c, Q, A, nL, cells, slots⟩ := X
  obtain ⟨hd, rfl⟩ := hd
  obtain ⟨hx, hb, hml, hown, hts, hK0, hJ, hSt, hA, hAw, hRm, hNn, rfl⟩ := F
  subst hst
  intro H locs ls hv hP hS
  refine va_calli (va_runV (Ts := gw) (As := As) (rest := rest) ⟨hx, hb, hml, hown, hts⟩ (hC r t' hf H.size) (cwV n hts (wsV_in hm hl) rfl rfl rfl hm.2.2.2.2.1 (room_ok hm.2.2.2.2.2 hR ⟨hRm.1, hRm.2.1⟩)) ⟨pre_blind, hrc H locs hP hS, pre_of hK0 hSt hA hAw hP hS⟩ rfl hn (show ls.size = nL from hv.1) rfl (lv_room hrs) hd ⟨hRm.2.2.1, hRm.2.2.2⟩) hS (fun q _ h => awd_sub hA hAw hS q h) (awd_sub hA hAw hS) (fun r0 u0 T H1 locs1 hT hvm hpost hB hz hk hS1 => ?_)
  rw [hpost]; exact k r t' hK H1 locs1 ls hv (hT ▸ hB) hS1
theorem g_invV_im {y : MethodName} {ccy : ByteArray} {nLy n dd idx b : Nat} {ret : Option FieldType} {C : String} {fo : Option (Int32 × Mem)} {K : Int32 → Mem → Option Rt} (F : Fx X l0 D ad g cc own d N) (hm : MI y ccy nLy ret C n) (hl : Cond.methodLink own idx y ∈ gw) (hd : Dq cc pc (.invokevirtual idx) 3 q) (hrc : RcX X D ad g t u b C) (As : List Value) (hst : st = As.reverse ++ .ref b :: rest) (hn : As.length = n) (hR : dd + 1 ≤ d) (hrs : (rest.map fun v => v.category).sum ≤ 8) (h : bnd fo K = some Rv) (hC : ∀ r t', fo = some (r, t') → ConI l0 y ccy nLy ret dd (.ref b :: As) D ad g t u t t' r) (k : ∀ r t', K r t' = some Rv → G X D ad g t t' lv q (.int r :: rest)) : G X D ad g t u lv pc st := by
  obtain ⟨r, t', hf, hK⟩ := bnd_some h
  obtain ⟨p, l, e, R, s, m, args, below, meth, c, Q, A, nL, cells, slots⟩ := X
  obtain ⟨hd, rfl⟩ := hd
  obtain ⟨hx, hb, hml, hown, hts, hK0, hJ, hSt, hA, hAw, hRm, hNn, rfl⟩ := F
  subst hst
  intro H locs ls hv hP hS
  refine va_calli (va_runV (Ts := gw) (As := As) (rest := rest) ⟨hx, hb, hml, hown, hts⟩ (hC r t' hf H.size) (cwV n hts (wsV_in hm hl) rfl rfl rfl hm.2.2.2.2.1 (room_ok hm.2.2.2.2.2 hR ⟨hRm.1, hRm.2.1⟩)) ⟨pre_blind, hrc H locs hP hS, pre_of hK0 hSt hA hAw hP hS⟩ rfl hn (show ls.size = nL from hv.1) rfl (lv_room hrs) hd ⟨hRm.2.2.1, hRm.2.2.2⟩) hS (fun q _ h => awd_sub hA hAw hS q h) (awd_sub hA hAw hS) (fun r0 u0 T H1 locs1 hT hvm hpost hB hz hk hS1 => ?_)
  rw [hpost]; exact k r t' hK H1 locs1 ls hv (hT ▸ hB) hS1
theorem g_invV_ip {y : MethodName} {ccy : ByteArray} {nLy n dd idx b : Nat} {ret : Option FieldType} {C : String} {fo : Option Int32} {K : Int32 → Option Rt} (F : Fx X l0 D ad g cc own d N) (hm : MI y ccy nLy ret C n) (hl : Cond.methodLink own idx y ∈ gw) (hd : Dq cc pc (.invokevirtual idx) 3 q) (hrc : RcX X D ad g t u b C) (As : List Value) (hst : st = As.reverse ++ .ref b :: rest) (hn : As.length = n) (hR : dd + 1 ≤ d) (hrs : (rest.map fun v => v.category).sum ≤ 8) (h : bnp fo K = some Rv) (hC : ∀ r, fo = some r → ConI l0 y ccy nLy ret dd (.ref b :: As) D ad g t u t u r) (k : ∀ r, K r = some Rv → G X D ad g t u lv q (.int r :: rest)) : G X D ad g t u lv pc st := by
  obtain ⟨r, hf, hK⟩ := bnp_some h
  obtain ⟨p, l, e, R, s, m, args, below, meth, c, Q, A, nL, cells, slots⟩ := X
  obtain ⟨hd, rfl⟩ := hd
  obtain ⟨hx, hb, hml, hown, hts, hK0, hJ, hSt, hA, hAw, hRm, hNn, rfl⟩ := F
  subst hst
  intro H locs ls hv hP hS
  refine va_calli (va_runV (Ts := gw) (As := As) (rest := rest) ⟨hx, hb, hml, hown, hts⟩ (hC r hf H.size) (cwV n hts (wsV_in hm hl) rfl rfl rfl hm.2.2.2.2.1 (room_ok hm.2.2.2.2.2 hR ⟨hRm.1, hRm.2.1⟩)) ⟨pre_blind, hrc H locs hP hS, pre_of hK0 hSt hA hAw hP hS⟩ rfl hn (show ls.size = nL from hv.1) rfl (lv_room hrs) hd ⟨hRm.2.2.1, hRm.2.2.2⟩) hS (fun q _ h => awd_sub hA hAw hS q h) (awd_sub hA hAw hS) (fun r0 u0 T H1 locs1 hT hvm hpost hB hz hk hS1 => ?_)
  rw [hpost]; exact k r hK H1 locs1 ls hv (hT ▸ hB) hS1
theorem g_invV_lc {y : MethodName} {ccy : ByteArray} {nLy n dd idx b : Nat} {ret : Option FieldType} {C : String} {fo : Option (Int64 × Mem)} {K : Int64 → Mem → Option Rt} (F : Fx X l0 D ad g cc own d N) (hm : MI y ccy nLy ret C n) (hl : Cond.methodLink own idx y ∈ gw) (hd : Dq cc pc (.invokevirtual idx) 3 q) (hrc : RcX X D ad g t u b C) (As : List Value) (hst : st = As.reverse ++ .ref b :: rest) (hn : As.length = n) (hR : dd + 1 ≤ d) (hrs : (rest.map fun v => v.category).sum ≤ 8) (h : bnd fo K = some Rv) (hC : ∀ r t', fo = some (r, t') → ConL l0 y ccy nLy ret dd (.ref b :: As) D ad g t u t' u r) (k : ∀ r t', K r t' = some Rv → G X D ad g t' u lv q (.long r :: rest)) : G X D ad g t u lv pc st := by
  obtain ⟨r, t', hf, hK⟩ := bnd_some h
  obtain ⟨p, l, e, R, s, m, args, below, meth, c, Q, A, nL, cells, slots⟩ := X
  obtain ⟨hd, rfl⟩ := hd
  obtain ⟨hx, hb, hml, hown, hts, hK0, hJ, hSt, hA, hAw, hRm, hNn, rfl⟩ := F
  subst hst
  intro H locs ls hv hP hS
  refine va_calll (va_runV (Ts := gw) (As := As) (rest := rest) ⟨hx, hb, hml, hown, hts⟩ (hC r t' hf H.size) (cwV n hts (wsV_in hm hl) rfl rfl rfl hm.2.2.2.2.1 (room_ok hm.2.2.2.2.2 hR ⟨hRm.1, hRm.2.1⟩)) ⟨pre_blind, hrc H locs hP hS, pre_of hK0 hSt hA hAw hP hS⟩ rfl hn (show ls.size = nL from hv.1) rfl (lv_room hrs) hd ⟨hRm.2.2.1, hRm.2.2.2⟩) hS (fun q _ h => awd_sub hA hAw hS q h) (awd_sub hA hAw hS) (fun r0 u0 T H1 locs1 hT hvm hpost hB hz hk hS1 => ?_)
  rw [hpost]; exact k r t' hK H1 locs1 ls hv (hT ▸ hB) hS1
theorem g_invV_lm {y : MethodName} {ccy : ByteArray} {nLy n dd idx b : Nat} {ret : Option FieldType} {C : String} {fo : Option (Int64 × Mem)} {K : Int64 → Mem → Option Rt} (F : Fx X l0 D ad g cc own d N) (hm : MI y ccy nLy ret C n) (hl : Cond.methodLink own idx y ∈ gw) (hd : Dq cc pc (.invokevirtual idx) 3 q) (hrc : RcX X D ad g t u b C) (As : List Value) (hst : st = As.reverse ++ .ref b :: rest) (hn : As.length = n) (hR : dd + 1 ≤ d) (hrs : (rest.map fun v => v.category).sum ≤ 8) (h : bnd fo K = some Rv) (hC : ∀ r t', fo = some (r, t') → ConL l0 y ccy nLy ret dd (.ref b :: As) D ad g t u t t' r) (k : ∀ r t', K r t' = some Rv → G X D ad g t t' lv q (.long r :: rest)) : G X D ad g t u lv pc st := by
  obtain ⟨r, t', hf, hK⟩ := bnd_some h
  obtain ⟨p, l, e, R, s, m, args, below, meth, c, Q, A, nL, cells, slots⟩ := X
  obtain ⟨hd, rfl⟩ := hd
  obtain ⟨hx, hb, hml, hown, hts, hK0, hJ, hSt, hA, hAw, hRm, hNn, rfl⟩ := F
  subst hst
  intro H locs ls hv hP hS
  refine va_calll (va_runV (Ts := gw) (As := As) (rest := rest) ⟨hx, hb, hml, hown, hts⟩ (hC r t' hf H.size) (cwV n hts (wsV_in hm hl) rfl rfl rfl hm.2.2.2.2.1 (room_ok hm.2.2.2.2.2 hR ⟨hRm.1, hRm.2.1⟩)) ⟨pre_blind, hrc H locs hP hS, pre_of hK0 hSt hA hAw hP hS⟩ rfl hn (show ls.size = nL from hv.1) rfl (lv_room hrs) hd ⟨hRm.2.2.1, hRm.2.2.2⟩) hS (fun q _ h => awd_sub hA hAw hS q h) (awd_sub hA hAw hS) (fun r0 u0 T H1 locs1 hT hvm hpost hB hz hk hS1 => ?_)
  rw [hpost]; exact k r t' hK H1 locs1 ls hv (hT ▸ hB) hS1
theorem g_invV_lp {y : MethodName} {ccy : ByteArray} {nLy n dd idx b : Nat} {ret : Option FieldType} {C : String} {fo : Option Int64} {K : Int64 → Option Rt} (F : Fx X l0 D ad g cc own d N) (hm : MI y ccy nLy ret C n) (hl : Cond.methodLink own idx y ∈ gw) (hd : Dq cc pc (.invokevirtual idx) 3 q) (hrc : RcX X D ad g t u b C) (As : List Value) (hst : st = As.reverse ++ .ref b :: rest) (hn : As.length = n) (hR : dd + 1 ≤ d) (hrs : (rest.map fun v => v.category).sum ≤ 8) (h : bnp fo K = some Rv) (hC : ∀ r, fo = some r → ConL l0 y ccy nLy ret dd (.ref b :: As) D ad g t u t u r) (k : ∀ r, K r = some Rv → G X D ad g t u lv q (.long r :: rest)) : G X D ad g t u lv pc st := by
  obtain ⟨r, hf, hK⟩ := bnp_some h
  obtain ⟨p, l, e, R, s, m, args, below, meth, c, Q, A, nL, cells, slots⟩ := X
  obtain ⟨hd, rfl⟩ := hd
  obtain ⟨hx, hb, hml, hown, hts, hK0, hJ, hSt, hA, hAw, hRm, hNn, rfl⟩ := F
  subst hst
  intro H locs ls hv hP hS
  refine va_calll (va_runV (Ts := gw) (As := As) (rest := rest) ⟨hx, hb, hml, hown, hts⟩ (hC r hf H.size) (cwV n hts (wsV_in hm hl) rfl rfl rfl hm.2.2.2.2.1 (room_ok hm.2.2.2.2.2 hR ⟨hRm.1, hRm.2.1⟩)) ⟨pre_blind, hrc H locs hP hS, pre_of hK0 hSt hA hAw hP hS⟩ rfl hn (show ls.size = nL from hv.1) rfl (lv_room hrs) hd ⟨hRm.2.2.1, hRm.2.2.2⟩) hS (fun q _ h => awd_sub hA hAw hS q h) (awd_sub hA hAw hS) (fun r0 u0 T H1 locs1 hT hvm hpost hB hz hk hS1 => ?_)
  rw [hpost]; exact k r hK H1 locs1 ls hv (hT ▸ hB) hS1
theorem g_invV_vc {y : MethodName} {ccy : ByteArray} {nLy n dd idx b : Nat} {ret : Option FieldType} {C : String} {fo : Option (Unit × Mem)} {K : Unit → Mem → Option Rt} (F : Fx X l0 D ad g cc own d N) (hm : MI y ccy nLy ret C n) (hl : Cond.methodLink own idx y ∈ gw) (hd : Dq cc pc (.invokevirtual idx) 3 q) (hrc : RcX X D ad g t u b C) (As : List Value) (hst : st = As.reverse ++ .ref b :: rest) (hn : As.length = n) (hR : dd + 1 ≤ d) (hrs : (rest.map fun v => v.category).sum ≤ 8) (h : bnd fo K = some Rv) (hC : ∀ r t', fo = some (r, t') → ConV l0 y ccy nLy ret dd (.ref b :: As) D ad g t u t' u) (k : ∀ r t', K r t' = some Rv → G X D ad g t' u lv q (rest)) : G X D ad g t u lv pc st := by
  obtain ⟨r, t', hf, hK⟩ := bnd_some h
  obtain ⟨p, l, e, R, s, m, args, below, meth, c, Q, A, nL, cells, slots⟩ := X
  obtain ⟨hd, rfl⟩ := hd
  obtain ⟨hx, hb, hml, hown, hts, hK0, hJ, hSt, hA, hAw, hRm, hNn, rfl⟩ := F
  subst hst
  intro H locs ls hv hP hS
  refine va_callv (va_runV (Ts := gw) (As := As) (rest := rest) ⟨hx, hb, hml, hown, hts⟩ (hC r t' hf H.size) (cwV n hts (wsV_in hm hl) rfl rfl rfl hm.2.2.2.2.1 (room_ok hm.2.2.2.2.2 hR ⟨hRm.1, hRm.2.1⟩)) ⟨pre_blind, hrc H locs hP hS, pre_of hK0 hSt hA hAw hP hS⟩ rfl hn (show ls.size = nL from hv.1) rfl (lv_room hrs) hd ⟨hRm.2.2.1, hRm.2.2.2⟩) hS (fun q _ h => awd_sub hA hAw hS q h) (awd_sub hA hAw hS) (fun u0 T H1 locs1 hT hvm hpost hB hz hk hS1 => ?_)
  exact k r t' hK H1 locs1 ls hv (hT ▸ hB) hS1
theorem g_invV_vm {y : MethodName} {ccy : ByteArray} {nLy n dd idx b : Nat} {ret : Option FieldType} {C : String} {fo : Option (Unit × Mem)} {K : Unit → Mem → Option Rt} (F : Fx X l0 D ad g cc own d N) (hm : MI y ccy nLy ret C n) (hl : Cond.methodLink own idx y ∈ gw) (hd : Dq cc pc (.invokevirtual idx) 3 q) (hrc : RcX X D ad g t u b C) (As : List Value) (hst : st = As.reverse ++ .ref b :: rest) (hn : As.length = n) (hR : dd + 1 ≤ d) (hrs : (rest.map fun v => v.category).sum ≤ 8) (h : bnd fo K = some Rv) (hC : ∀ r t', fo = some (r, t') → ConV l0 y ccy nLy ret dd (.ref b :: As) D ad g t u t t') (k : ∀ r t', K r t' = some Rv → G X D ad g t t' lv q (rest)) : G X D ad g t u lv pc st := by
  obtain ⟨r, t', hf, hK⟩ := bnd_some h
  obtain ⟨p, l, e, R, s, m, args, below, meth, c, Q, A, nL, cells, slots⟩ := X
  obtain ⟨hd, rfl⟩ := hd
  obtain ⟨hx, hb, hml, hown, hts, hK0, hJ, hSt, hA, hAw, hRm, hNn, rfl⟩ := F
  subst hst
  intro H locs ls hv hP hS
  refine va_callv (va_runV (Ts := gw) (As := As) (rest := rest) ⟨hx, hb, hml, hown, hts⟩ (hC r t' hf H.size) (cwV n hts (wsV_in hm hl) rfl rfl rfl hm.2.2.2.2.1 (room_ok hm.2.2.2.2.2 hR ⟨hRm.1, hRm.2.1⟩)) ⟨pre_blind, hrc H locs hP hS, pre_of hK0 hSt hA hAw hP hS⟩ rfl hn (show ls.size = nL from hv.1) rfl (lv_room hrs) hd ⟨hRm.2.2.1, hRm.2.2.2⟩) hS (fun q _ h => awd_sub hA hAw hS q h) (awd_sub hA hAw hS) (fun u0 T H1 locs1 hT hvm hpost hB hz hk hS1 => ?_)
  exact k r t' hK H1 locs1 ls hv (hT ▸ hB) hS1
theorem g_invV_vp {y : MethodName} {ccy : ByteArray} {nLy n dd idx b : Nat} {ret : Option FieldType} {C : String} {fo : Option Unit} {K : Unit → Option Rt} (F : Fx X l0 D ad g cc own d N) (hm : MI y ccy nLy ret C n) (hl : Cond.methodLink own idx y ∈ gw) (hd : Dq cc pc (.invokevirtual idx) 3 q) (hrc : RcX X D ad g t u b C) (As : List Value) (hst : st = As.reverse ++ .ref b :: rest) (hn : As.length = n) (hR : dd + 1 ≤ d) (hrs : (rest.map fun v => v.category).sum ≤ 8) (h : bnp fo K = some Rv) (hC : ∀ r, fo = some r → ConV l0 y ccy nLy ret dd (.ref b :: As) D ad g t u t u) (k : ∀ r, K r = some Rv → G X D ad g t u lv q (rest)) : G X D ad g t u lv pc st := by
  obtain ⟨r, hf, hK⟩ := bnp_some h
  obtain ⟨p, l, e, R, s, m, args, below, meth, c, Q, A, nL, cells, slots⟩ := X
  obtain ⟨hd, rfl⟩ := hd
  obtain ⟨hx, hb, hml, hown, hts, hK0, hJ, hSt, hA, hAw, hRm, hNn, rfl⟩ := F
  subst hst
  intro H locs ls hv hP hS
  refine va_callv (va_runV (Ts := gw) (As := As) (rest := rest) ⟨hx, hb, hml, hown, hts⟩ (hC r hf H.size) (cwV n hts (wsV_in hm hl) rfl rfl rfl hm.2.2.2.2.1 (room_ok hm.2.2.2.2.2 hR ⟨hRm.1, hRm.2.1⟩)) ⟨pre_blind, hrc H locs hP hS, pre_of hK0 hSt hA hAw hP hS⟩ rfl hn (show ls.size = nL from hv.1) rfl (lv_room hrs) hd ⟨hRm.2.2.1, hRm.2.2.2⟩) hS (fun q _ h => awd_sub hA hAw hS q h) (awd_sub hA hAw hS) (fun u0 T H1 locs1 hT hvm hpost hB hz hk hS1 => ?_)
  exact k r hK H1 locs1 ls hv (hT ▸ hB) hS1
theorem g_invV_qc {S : Type} (fv : S → Option Nat) {y : MethodName} {ccy : ByteArray} {nLy n dd idx b : Nat} {ret : Option FieldType} {C : String} {fo : Option (S × Mem)} {K : S → Mem → Option Rt} (F : Fx X l0 D ad g cc own d N) (hm : MI y ccy nLy ret C n) (hl : Cond.methodLink own idx y ∈ gw) (hd : Dq cc pc (.invokevirtual idx) 3 q) (hrc : RcX X D ad g t u b C) (As : List Value) (hst : st = As.reverse ++ .ref b :: rest) (hn : As.length = n) (hR : dd + 1 ≤ d) (hrs : (rest.map fun v => v.category).sum ≤ 8) (h : bnd fo K = some Rv) (hC : ∀ r t', fo = some (r, t') → ConQ l0 y ccy nLy ret dd (.ref b :: As) D ad g t u t' u (fv r)) (k : ∀ r t', K r t' = some Rv → G X D ad g t' u lv q (va_rf (fv r) :: rest)) : G X D ad g t u lv pc st := by
  obtain ⟨r, t', hf, hK⟩ := bnd_some h
  obtain ⟨p, l, e, R, s, m, args, below, meth, c, Q, A, nL, cells, slots⟩ := X
  obtain ⟨hd, rfl⟩ := hd
  obtain ⟨hx, hb, hml, hown, hts, hK0, hJ, hSt, hA, hAw, hRm, hNn, rfl⟩ := F
  subst hst
  intro H locs ls hv hP hS
  refine va_callq (va_runV (Ts := gw) (As := As) (rest := rest) ⟨hx, hb, hml, hown, hts⟩ (hC r t' hf H.size) (cwV n hts (wsV_in hm hl) rfl rfl rfl hm.2.2.2.2.1 (room_ok hm.2.2.2.2.2 hR ⟨hRm.1, hRm.2.1⟩)) ⟨pre_blind, hrc H locs hP hS, pre_of hK0 hSt hA hAw hP hS⟩ rfl hn (show ls.size = nL from hv.1) rfl (lv_room hrs) hd ⟨hRm.2.2.1, hRm.2.2.2⟩) hS (fun q _ h => awd_sub hA hAw hS q h) (awd_sub hA hAw hS) (fun r0 u0 T H1 locs1 hT hvm hpost hB hz hk hS1 => ?_)
  rw [hpost]; exact k r t' hK H1 locs1 ls hv (hT ▸ hB) hS1
theorem g_invV_qm {S : Type} (fv : S → Option Nat) {y : MethodName} {ccy : ByteArray} {nLy n dd idx b : Nat} {ret : Option FieldType} {C : String} {fo : Option (S × Mem)} {K : S → Mem → Option Rt} (F : Fx X l0 D ad g cc own d N) (hm : MI y ccy nLy ret C n) (hl : Cond.methodLink own idx y ∈ gw) (hd : Dq cc pc (.invokevirtual idx) 3 q) (hrc : RcX X D ad g t u b C) (As : List Value) (hst : st = As.reverse ++ .ref b :: rest) (hn : As.length = n) (hR : dd + 1 ≤ d) (hrs : (rest.map fun v => v.category).sum ≤ 8) (h : bnd fo K = some Rv) (hC : ∀ r t', fo = some (r, t') → ConQ l0 y ccy nLy ret dd (.ref b :: As) D ad g t u t t' (fv r)) (k : ∀ r t', K r t' = some Rv → G X D ad g t t' lv q (va_rf (fv r) :: rest)) : G X D ad g t u lv pc st := by
  obtain ⟨r, t', hf, hK⟩ := bnd_some h
  obtain ⟨p, l, e, R, s, m, args, below, meth, c, Q, A, nL, cells, slots⟩ := X
  obtain ⟨hd, rfl⟩ := hd
  obtain ⟨hx, hb, hml, hown, hts, hK0, hJ, hSt, hA, hAw, hRm, hNn, rfl⟩ := F
  subst hst
  intro H locs ls hv hP hS
  refine va_callq (va_runV (Ts := gw) (As := As) (rest := rest) ⟨hx, hb, hml, hown, hts⟩ (hC r t' hf H.size) (cwV n hts (wsV_in hm hl) rfl rfl rfl hm.2.2.2.2.1 (room_ok hm.2.2.2.2.2 hR ⟨hRm.1, hRm.2.1⟩)) ⟨pre_blind, hrc H locs hP hS, pre_of hK0 hSt hA hAw hP hS⟩ rfl hn (show ls.size = nL from hv.1) rfl (lv_room hrs) hd ⟨hRm.2.2.1, hRm.2.2.2⟩) hS (fun q _ h => awd_sub hA hAw hS q h) (awd_sub hA hAw hS) (fun r0 u0 T H1 locs1 hT hvm hpost hB hz hk hS1 => ?_)
  rw [hpost]; exact k r t' hK H1 locs1 ls hv (hT ▸ hB) hS1
theorem g_invV_qp {S : Type} (fv : S → Option Nat) {y : MethodName} {ccy : ByteArray} {nLy n dd idx b : Nat} {ret : Option FieldType} {C : String} {fo : Option S} {K : S → Option Rt} (F : Fx X l0 D ad g cc own d N) (hm : MI y ccy nLy ret C n) (hl : Cond.methodLink own idx y ∈ gw) (hd : Dq cc pc (.invokevirtual idx) 3 q) (hrc : RcX X D ad g t u b C) (As : List Value) (hst : st = As.reverse ++ .ref b :: rest) (hn : As.length = n) (hR : dd + 1 ≤ d) (hrs : (rest.map fun v => v.category).sum ≤ 8) (h : bnp fo K = some Rv) (hC : ∀ r, fo = some r → ConQ l0 y ccy nLy ret dd (.ref b :: As) D ad g t u t u (fv r)) (k : ∀ r, K r = some Rv → G X D ad g t u lv q (va_rf (fv r) :: rest)) : G X D ad g t u lv pc st := by
  obtain ⟨r, hf, hK⟩ := bnp_some h
  obtain ⟨p, l, e, R, s, m, args, below, meth, c, Q, A, nL, cells, slots⟩ := X
  obtain ⟨hd, rfl⟩ := hd
  obtain ⟨hx, hb, hml, hown, hts, hK0, hJ, hSt, hA, hAw, hRm, hNn, rfl⟩ := F
  subst hst
  intro H locs ls hv hP hS
  refine va_callq (va_runV (Ts := gw) (As := As) (rest := rest) ⟨hx, hb, hml, hown, hts⟩ (hC r hf H.size) (cwV n hts (wsV_in hm hl) rfl rfl rfl hm.2.2.2.2.1 (room_ok hm.2.2.2.2.2 hR ⟨hRm.1, hRm.2.1⟩)) ⟨pre_blind, hrc H locs hP hS, pre_of hK0 hSt hA hAw hP hS⟩ rfl hn (show ls.size = nL from hv.1) rfl (lv_room hrs) hd ⟨hRm.2.2.1, hRm.2.2.2⟩) hS (fun q _ h => awd_sub hA hAw hS q h) (awd_sub hA hAw hS) (fun r0 u0 T H1 locs1 hT hvm hpost hB hz hk hS1 => ?_)
  rw [hpost]; exact k r hK H1 locs1 ls hv (hT ▸ hB) hS1
theorem g_invS_ic {y : MethodName} {ccy : ByteArray} {nLy n dd idx : Nat} {ret : Option FieldType} {fo : Option (Int32 × Mem)} {K : Int32 → Mem → Option Rt} (F : Fx X l0 D ad g cc own d N) (hm : MS y ccy nLy ret n) (hl : Cond.methodLink own idx y ∈ gw) (hd : Dq cc pc (.invokestatic idx) 3 q) (As : List Value) (hst : st = As.reverse ++ rest) (hn : As.length = n) (hR : dd + 1 ≤ d) (hrs : (rest.map fun v => v.category).sum ≤ 8) (h : bnd fo K = some Rv) (hC : ∀ r t', fo = some (r, t') → ConI l0 y ccy nLy ret dd As D ad g t u t' u r) (k : ∀ r t', K r t' = some Rv → G X D ad g t' u lv q (.int r :: rest)) : G X D ad g t u lv pc st := by
  obtain ⟨r, t', hf, hK⟩ := bnd_some h
  obtain ⟨p, l, e, R, s, m, args, below, meth, c, Q, A, nL, cells, slots⟩ := X
  obtain ⟨hd, rfl⟩ := hd
  obtain ⟨hx, hb, hml, hown, hts, hK0, hJ, hSt, hA, hAw, hRm, hNn, rfl⟩ := F
  subst hst
  intro H locs ls hv hP hS
  refine va_calli (va_runS (Ts := gw) (As := As) (rest := rest) ⟨hx, hb, hml, hown, hts⟩ (hC r t' hf H.size) (va_cwS n hts (wsS_in hm hl) rfl rfl rfl hm.2.2.2.1 (room_ok hm.2.2.2.2 hR ⟨hRm.1, hRm.2.1⟩)) ⟨pre_blind, pre_of hK0 hSt hA hAw hP hS⟩ rfl hn (show ls.size = nL from hv.1) rfl (lv_room hrs) hd ⟨hRm.2.2.1, hRm.2.2.2⟩) hS (fun q _ h => awd_sub hA hAw hS q h) (awd_sub hA hAw hS) (fun r0 u0 T H1 locs1 hT hvm hpost hB hz hk hS1 => ?_)
  rw [hpost]; exact k r t' hK H1 locs1 ls hv (hT ▸ hB) hS1
theorem g_invS_im {y : MethodName} {ccy : ByteArray} {nLy n dd idx : Nat} {ret : Option FieldType} {fo : Option (Int32 × Mem)} {K : Int32 → Mem → Option Rt} (F : Fx X l0 D ad g cc own d N) (hm : MS y ccy nLy ret n) (hl : Cond.methodLink own idx y ∈ gw) (hd : Dq cc pc (.invokestatic idx) 3 q) (As : List Value) (hst : st = As.reverse ++ rest) (hn : As.length = n) (hR : dd + 1 ≤ d) (hrs : (rest.map fun v => v.category).sum ≤ 8) (h : bnd fo K = some Rv) (hC : ∀ r t', fo = some (r, t') → ConI l0 y ccy nLy ret dd As D ad g t u t t' r) (k : ∀ r t', K r t' = some Rv → G X D ad g t t' lv q (.int r :: rest)) : G X D ad g t u lv pc st := by
  obtain ⟨r, t', hf, hK⟩ := bnd_some h
  obtain ⟨p, l, e, R, s, m, args, below, meth, c, Q, A, nL, cells, slots⟩ := X
  obtain ⟨hd, rfl⟩ := hd
  obtain ⟨hx, hb, hml, hown, hts, hK0, hJ, hSt, hA, hAw, hRm, hNn, rfl⟩ := F
  subst hst
  intro H locs ls hv hP hS
  refine va_calli (va_runS (Ts := gw) (As := As) (rest := rest) ⟨hx, hb, hml, hown, hts⟩ (hC r t' hf H.size) (va_cwS n hts (wsS_in hm hl) rfl rfl rfl hm.2.2.2.1 (room_ok hm.2.2.2.2 hR ⟨hRm.1, hRm.2.1⟩)) ⟨pre_blind, pre_of hK0 hSt hA hAw hP hS⟩ rfl hn (show ls.size = nL from hv.1) rfl (lv_room hrs) hd ⟨hRm.2.2.1, hRm.2.2.2⟩) hS (fun q _ h => awd_sub hA hAw hS q h) (awd_sub hA hAw hS) (fun r0 u0 T H1 locs1 hT hvm hpost hB hz hk hS1 => ?_)
  rw [hpost]; exact k r t' hK H1 locs1 ls hv (hT ▸ hB) hS1
theorem g_invS_ip {y : MethodName} {ccy : ByteArray} {nLy n dd idx : Nat} {ret : Option FieldType} {fo : Option Int32} {K : Int32 → Option Rt} (F : Fx X l0 D ad g cc own d N) (hm : MS y ccy nLy ret n) (hl : Cond.methodLink own idx y ∈ gw) (hd : Dq cc pc (.invokestatic idx) 3 q) (As : List Value) (hst : st = As.reverse ++ rest) (hn : As.length = n) (hR : dd + 1 ≤ d) (hrs : (rest.map fun v => v.category).sum ≤ 8) (h : bnp fo K = some Rv) (hC : ∀ r, fo = some r → ConI l0 y ccy nLy ret dd As D ad g t u t u r) (k : ∀ r, K r = some Rv → G X D ad g t u lv q (.int r :: rest)) : G X D ad g t u lv pc st := by
  obtain ⟨r, hf, hK⟩ := bnp_some h
  obtain ⟨p, l, e, R, s, m, args, below, meth, c, Q, A, nL, cells, slots⟩ := X
  obtain ⟨hd, rfl⟩ := hd
  obtain ⟨hx, hb, hml, hown, hts, hK0, hJ, hSt, hA, hAw, hRm, hNn, rfl⟩ := F
  subst hst
  intro H locs ls hv hP hS
  refine va_calli (va_runS (Ts := gw) (As := As) (rest := rest) ⟨hx, hb, hml, hown, hts⟩ (hC r hf H.size) (va_cwS n hts (wsS_in hm hl) rfl rfl rfl hm.2.2.2.1 (room_ok hm.2.2.2.2 hR ⟨hRm.1, hRm.2.1⟩)) ⟨pre_blind, pre_of hK0 hSt hA hAw hP hS⟩ rfl hn (show ls.size = nL from hv.1) rfl (lv_room hrs) hd ⟨hRm.2.2.1, hRm.2.2.2⟩) hS (fun q _ h => awd_sub hA hAw hS q h) (awd_sub hA hAw hS) (fun r0 u0 T H1 locs1 hT hvm hpost hB hz hk hS1 => ?_)
  rw [hpost]; exact k r hK H1 locs1 ls hv (hT ▸ hB) hS1
theorem g_invS_lc {y : MethodName} {ccy : ByteArray} {nLy n dd idx : Nat} {ret : Option FieldType} {fo : Option (Int64 × Mem)} {K : Int64 → Mem → Option Rt} (F : Fx X l0 D ad g cc own d N) (hm : MS y ccy nLy ret n) (hl : Cond.methodLink own idx y ∈ gw) (hd : Dq cc pc (.invokestatic idx) 3 q) (As : List Value) (hst : st = As.reverse ++ rest) (hn : As.length = n) (hR : dd + 1 ≤ d) (hrs : (rest.map fun v => v.category).sum ≤ 8) (h : bnd fo K = some Rv) (hC : ∀ r t', fo = some (r, t') → ConL l0 y ccy nLy ret dd As D ad g t u t' u r) (k : ∀ r t', K r t' = some Rv → G X D ad g t' u lv q (.long r :: rest)) : G X D ad g t u lv pc st := by
  obtain ⟨r, t', hf, hK⟩ := bnd_some h
  obtain ⟨p, l, e, R, s, m, args, below, meth, c, Q, A, nL, cells, slots⟩ := X
  obtain ⟨hd, rfl⟩ := hd
  obtain ⟨hx, hb, hml, hown, hts, hK0, hJ, hSt, hA, hAw, hRm, hNn, rfl⟩ := F
  subst hst
  intro H locs ls hv hP hS
  refine va_calll (va_runS (Ts := gw) (As := As) (rest := rest) ⟨hx, hb, hml, hown, hts⟩ (hC r t' hf H.size) (va_cwS n hts (wsS_in hm hl) rfl rfl rfl hm.2.2.2.1 (room_ok hm.2.2.2.2 hR ⟨hRm.1, hRm.2.1⟩)) ⟨pre_blind, pre_of hK0 hSt hA hAw hP hS⟩ rfl hn (show ls.size = nL from hv.1) rfl (lv_room hrs) hd ⟨hRm.2.2.1, hRm.2.2.2⟩) hS (fun q _ h => awd_sub hA hAw hS q h) (awd_sub hA hAw hS) (fun r0 u0 T H1 locs1 hT hvm hpost hB hz hk hS1 => ?_)
  rw [hpost]; exact k r t' hK H1 locs1 ls hv (hT ▸ hB) hS1
theorem g_invS_lm {y : MethodName} {ccy : ByteArray} {nLy n dd idx : Nat} {ret : Option FieldType} {fo : Option (Int64 × Mem)} {K : Int64 → Mem → Option Rt} (F : Fx X l0 D ad g cc own d N) (hm : MS y ccy nLy ret n) (hl : Cond.methodLink own idx y ∈ gw) (hd : Dq cc pc (.invokestatic idx) 3 q) (As : List Value) (hst : st = As.reverse ++ rest) (hn : As.length = n) (hR : dd + 1 ≤ d) (hrs : (rest.map fun v => v.category).sum ≤ 8) (h : bnd fo K = some Rv) (hC : ∀ r t', fo = some (r, t') → ConL l0 y ccy nLy ret dd As D ad g t u t t' r) (k : ∀ r t', K r t' = some Rv → G X D ad g t t' lv q (.long r :: rest)) : G X D ad g t u lv pc st := by
  obtain ⟨r, t', hf, hK⟩ := bnd_some h
  obtain ⟨p, l, e, R, s, m, args, below, meth, c, Q, A, nL, cells, slots⟩ := X
  obtain ⟨hd, rfl⟩ := hd
  obtain ⟨hx, hb, hml, hown, hts, hK0, hJ, hSt, hA, hAw, hRm, hNn, rfl⟩ := F
  subst hst
  intro H locs ls hv hP hS
  refine va_calll (va_runS (Ts := gw) (As := As) (rest := rest) ⟨hx, hb, hml, hown, hts⟩ (hC r t' hf H.size) (va_cwS n hts (wsS_in hm hl) rfl rfl rfl hm.2.2.2.1 (room_ok hm.2.2.2.2 hR ⟨hRm.1, hRm.2.1⟩)) ⟨pre_blind, pre_of hK0 hSt hA hAw hP hS⟩ rfl hn (show ls.size = nL from hv.1) rfl (lv_room hrs) hd ⟨hRm.2.2.1, hRm.2.2.2⟩) hS (fun q _ h => awd_sub hA hAw hS q h) (awd_sub hA hAw hS) (fun r0 u0 T H1 locs1 hT hvm hpost hB hz hk hS1 => ?_)
  rw [hpost]; exact k r t' hK H1 locs1 ls hv (hT ▸ hB) hS1
theorem g_invS_lp {y : MethodName} {ccy : ByteArray} {nLy n dd idx : Nat} {ret : Option FieldType} {fo : Option Int64} {K : Int64 → Option Rt} (F : Fx X l0 D ad g cc own d N) (hm : MS y ccy nLy ret n) (hl : Cond.methodLink own idx y ∈ gw) (hd : Dq cc pc (.invokestatic idx) 3 q) (As : List Value) (hst : st = As.reverse ++ rest) (hn : As.length = n) (hR : dd + 1 ≤ d) (hrs : (rest.map fun v => v.category).sum ≤ 8) (h : bnp fo K = some Rv) (hC : ∀ r, fo = some r → ConL l0 y ccy nLy ret dd As D ad g t u t u r) (k : ∀ r, K r = some Rv → G X D ad g t u lv q (.long r :: rest)) : G X D ad g t u lv pc st := by
  obtain ⟨r, hf, hK⟩ := bnp_some h
  obtain ⟨p, l, e, R, s, m, args, below, meth, c, Q, A, nL, cells, slots⟩ := X
  obtain ⟨hd, rfl⟩ := hd
  obtain ⟨hx, hb, hml, hown, hts, hK0, hJ, hSt, hA, hAw, hRm, hNn, rfl⟩ := F
  subst hst
  intro H locs ls hv hP hS
  refine va_calll (va_runS (Ts := gw) (As := As) (rest := rest) ⟨hx, hb, hml, hown, hts⟩ (hC r hf H.size) (va_cwS n hts (wsS_in hm hl) rfl rfl rfl hm.2.2.2.1 (room_ok hm.2.2.2.2 hR ⟨hRm.1, hRm.2.1⟩)) ⟨pre_blind, pre_of hK0 hSt hA hAw hP hS⟩ rfl hn (show ls.size = nL from hv.1) rfl (lv_room hrs) hd ⟨hRm.2.2.1, hRm.2.2.2⟩) hS (fun q _ h => awd_sub hA hAw hS q h) (awd_sub hA hAw hS) (fun r0 u0 T H1 locs1 hT hvm hpost hB hz hk hS1 => ?_)
  rw [hpost]; exact k r hK H1 locs1 ls hv (hT ▸ hB) hS1
theorem g_invS_vc {y : MethodName} {ccy : ByteArray} {nLy n dd idx : Nat} {ret : Option FieldType} {fo : Option (Unit × Mem)} {K : Unit → Mem → Option Rt} (F : Fx X l0 D ad g cc own d N) (hm : MS y ccy nLy ret n) (hl : Cond.methodLink own idx y ∈ gw) (hd : Dq cc pc (.invokestatic idx) 3 q) (As : List Value) (hst : st = As.reverse ++ rest) (hn : As.length = n) (hR : dd + 1 ≤ d) (hrs : (rest.map fun v => v.category).sum ≤ 8) (h : bnd fo K = some Rv) (hC : ∀ r t', fo = some (r, t') → ConV l0 y ccy nLy ret dd As D ad g t u t' u) (k : ∀ r t', K r t' = some Rv → G X D ad g t' u lv q (rest)) : G X D ad g t u lv pc st := by
  obtain ⟨r, t', hf, hK⟩ := bnd_some h
  obtain ⟨p, l, e, R, s, m, args, below, meth, c, Q, A, nL, cells, slots⟩ := X
  obtain ⟨hd, rfl⟩ := hd
  obtain ⟨hx, hb, hml, hown, hts, hK0, hJ, hSt, hA, hAw, hRm, hNn, rfl⟩ := F
  subst hst
  intro H locs ls hv hP hS
  refine va_callv (va_runS (Ts := gw) (As := As) (rest := rest) ⟨hx, hb, hml, hown, hts⟩ (hC r t' hf H.size) (va_cwS n hts (wsS_in hm hl) rfl rfl rfl hm.2.2.2.1 (room_ok hm.2.2.2.2 hR ⟨hRm.1, hRm.2.1⟩)) ⟨pre_blind, pre_of hK0 hSt hA hAw hP hS⟩ rfl hn (show ls.size = nL from hv.1) rfl (lv_room hrs) hd ⟨hRm.2.2.1, hRm.2.2.2⟩) hS (fun q _ h => awd_sub hA hAw hS q h) (awd_sub hA hAw hS) (fun u0 T H1 locs1 hT hvm hpost hB hz hk hS1 => ?_)
  exact k r t' hK H1 locs1 ls hv (hT ▸ hB) hS1
theorem g_invS_vm {y : MethodName} {ccy : ByteArray} {nLy n dd idx : Nat} {ret : Option FieldType} {fo : Option (Unit × Mem)} {K : Unit → Mem → Option Rt} (F : Fx X l0 D ad g cc own d N) (hm : MS y ccy nLy ret n) (hl : Cond.methodLink own idx y ∈ gw) (hd : Dq cc pc (.invokestatic idx) 3 q) (As : List Value) (hst : st = As.reverse ++ rest) (hn : As.length = n) (hR : dd + 1 ≤ d) (hrs : (rest.map fun v => v.category).sum ≤ 8) (h : bnd fo K = some Rv) (hC : ∀ r t', fo = some (r, t') → ConV l0 y ccy nLy ret dd As D ad g t u t t') (k : ∀ r t', K r t' = some Rv → G X D ad g t t' lv q (rest)) : G X D ad g t u lv pc st := by
  obtain ⟨r, t', hf, hK⟩ := bnd_some h
  obtain ⟨p, l, e, R, s, m, args, below, meth, c, Q, A, nL, cells, slots⟩ := X
  obtain ⟨hd, rfl⟩ := hd
  obtain ⟨hx, hb, hml, hown, hts, hK0, hJ, hSt, hA, hAw, hRm, hNn, rfl⟩ := F
  subst hst
  intro H locs ls hv hP hS
  refine va_callv (va_runS (Ts := gw) (As := As) (rest := rest) ⟨hx, hb, hml, hown, hts⟩ (hC r t' hf H.size) (va_cwS n hts (wsS_in hm hl) rfl rfl rfl hm.2.2.2.1 (room_ok hm.2.2.2.2 hR ⟨hRm.1, hRm.2.1⟩)) ⟨pre_blind, pre_of hK0 hSt hA hAw hP hS⟩ rfl hn (show ls.size = nL from hv.1) rfl (lv_room hrs) hd ⟨hRm.2.2.1, hRm.2.2.2⟩) hS (fun q _ h => awd_sub hA hAw hS q h) (awd_sub hA hAw hS) (fun u0 T H1 locs1 hT hvm hpost hB hz hk hS1 => ?_)
  exact k r t' hK H1 locs1 ls hv (hT ▸ hB) hS1
theorem g_invS_vp {y : MethodName} {ccy : ByteArray} {nLy n dd idx : Nat} {ret : Option FieldType} {fo : Option Unit} {K : Unit → Option Rt} (F : Fx X l0 D ad g cc own d N) (hm : MS y ccy nLy ret n) (hl : Cond.methodLink own idx y ∈ gw) (hd : Dq cc pc (.invokestatic idx) 3 q) (As : List Value) (hst : st = As.reverse ++ rest) (hn : As.length = n) (hR : dd + 1 ≤ d) (hrs : (rest.map fun v => v.category).sum ≤ 8) (h : bnp fo K = some Rv) (hC : ∀ r, fo = some r → ConV l0 y ccy nLy ret dd As D ad g t u t u) (k : ∀ r, K r = some Rv → G X D ad g t u lv q (rest)) : G X D ad g t u lv pc st := by
  obtain ⟨r, hf, hK⟩ := bnp_some h
  obtain ⟨p, l, e, R, s, m, args, below, meth, c, Q, A, nL, cells, slots⟩ := X
  obtain ⟨hd, rfl⟩ := hd
  obtain ⟨hx, hb, hml, hown, hts, hK0, hJ, hSt, hA, hAw, hRm, hNn, rfl⟩ := F
  subst hst
  intro H locs ls hv hP hS
  refine va_callv (va_runS (Ts := gw) (As := As) (rest := rest) ⟨hx, hb, hml, hown, hts⟩ (hC r hf H.size) (va_cwS n hts (wsS_in hm hl) rfl rfl rfl hm.2.2.2.1 (room_ok hm.2.2.2.2 hR ⟨hRm.1, hRm.2.1⟩)) ⟨pre_blind, pre_of hK0 hSt hA hAw hP hS⟩ rfl hn (show ls.size = nL from hv.1) rfl (lv_room hrs) hd ⟨hRm.2.2.1, hRm.2.2.2⟩) hS (fun q _ h => awd_sub hA hAw hS q h) (awd_sub hA hAw hS) (fun u0 T H1 locs1 hT hvm hpost hB hz hk hS1 => ?_)
  exact k r hK H1 locs1 ls hv (hT ▸ hB) hS1
theorem g_invS_qc {S : Type} (fv : S → Option Nat) {y : MethodName} {ccy : ByteArray} {nLy n dd idx : Nat} {ret : Option FieldType} {fo : Option (S × Mem)} {K : S → Mem → Option Rt} (F : Fx X l0 D ad g cc own d N) (hm : MS y ccy nLy ret n) (hl : Cond.methodLink own idx y ∈ gw) (hd : Dq cc pc (.invokestatic idx) 3 q) (As : List Value) (hst : st = As.reverse ++ rest) (hn : As.length = n) (hR : dd + 1 ≤ d) (hrs : (rest.map fun v => v.category).sum ≤ 8) (h : bnd fo K = some Rv) (hC : ∀ r t', fo = some (r, t') → ConQ l0 y ccy nLy ret dd As D ad g t u t' u (fv r)) (k : ∀ r t', K r t' = some Rv → G X D ad g t' u lv q (va_rf (fv r) :: rest)) : G X D ad g t u lv pc st := by
  obtain ⟨r, t', hf, hK⟩ := bnd_some h
  obtain ⟨p, l, e, R, s, m, args, below, meth, c, Q, A, nL, cells, slots⟩ := X
  obtain ⟨hd, rfl⟩ := hd
  obtain ⟨hx, hb, hml, hown, hts, hK0, hJ, hSt, hA, hAw, hRm, hNn, rfl⟩ := F
  subst hst
  intro H locs ls hv hP hS
  refine va_callq (va_runS (Ts := gw) (As := As) (rest := rest) ⟨hx, hb, hml, hown, hts⟩ (hC r t' hf H.size) (va_cwS n hts (wsS_in hm hl) rfl rfl rfl hm.2.2.2.1 (room_ok hm.2.2.2.2 hR ⟨hRm.1, hRm.2.1⟩)) ⟨pre_blind, pre_of hK0 hSt hA hAw hP hS⟩ rfl hn (show ls.size = nL from hv.1) rfl (lv_room hrs) hd ⟨hRm.2.2.1, hRm.2.2.2⟩) hS (fun q _ h => awd_sub hA hAw hS q h) (awd_sub hA hAw hS) (fun r0 u0 T H1 locs1 hT hvm hpost hB hz hk hS1 => ?_)
  rw [hpost]; exact k r t' hK H1 locs1 ls hv (hT ▸ hB) hS1
theorem g_invS_qm {S : Type} (fv : S → Option Nat) {y : MethodName} {ccy : ByteArray} {nLy n dd idx : Nat} {ret : Option FieldType} {fo : Option (S × Mem)} {K : S → Mem → Option Rt} (F : Fx X l0 D ad g cc own d N) (hm : MS y ccy nLy ret n) (hl : Cond.methodLink own idx y ∈ gw) (hd : Dq cc pc (.invokestatic idx) 3 q) (As : List Value) (hst : st = As.reverse ++ rest) (hn : As.length = n) (hR : dd + 1 ≤ d) (hrs : (rest.map fun v => v.category).sum ≤ 8) (h : bnd fo K = some Rv) (hC : ∀ r t', fo = some (r, t') → ConQ l0 y ccy nLy ret dd As D ad g t u t t' (fv r)) (k : ∀ r t', K r t' = some Rv → G X D ad g t t' lv q (va_rf (fv r) :: rest)) : G X D ad g t u lv pc st := by
  obtain ⟨r, t', hf, hK⟩ := bnd_some h
  obtain ⟨p, l, e, R, s, m, args, below, meth, c, Q, A, nL, cells, slots⟩ := X
  obtain ⟨hd, rfl⟩ := hd
  obtain ⟨hx, hb, hml, hown, hts, hK0, hJ, hSt, hA, hAw, hRm, hNn, rfl⟩ := F
  subst hst
  intro H locs ls hv hP hS
  refine va_callq (va_runS (Ts := gw) (As := As) (rest := rest) ⟨hx, hb, hml, hown, hts⟩ (hC r t' hf H.size) (va_cwS n hts (wsS_in hm hl) rfl rfl rfl hm.2.2.2.1 (room_ok hm.2.2.2.2 hR ⟨hRm.1, hRm.2.1⟩)) ⟨pre_blind, pre_of hK0 hSt hA hAw hP hS⟩ rfl hn (show ls.size = nL from hv.1) rfl (lv_room hrs) hd ⟨hRm.2.2.1, hRm.2.2.2⟩) hS (fun q _ h => awd_sub hA hAw hS q h) (awd_sub hA hAw hS) (fun r0 u0 T H1 locs1 hT hvm hpost hB hz hk hS1 => ?_)
  rw [hpost]; exact k r t' hK H1 locs1 ls hv (hT ▸ hB) hS1
theorem g_invS_qp {S : Type} (fv : S → Option Nat) {y : MethodName} {ccy : ByteArray} {nLy n dd idx : Nat} {ret : Option FieldType} {fo : Option S} {K : S → Option Rt} (F : Fx X l0 D ad g cc own d N) (hm : MS y ccy nLy ret n) (hl : Cond.methodLink own idx y ∈ gw) (hd : Dq cc pc (.invokestatic idx) 3 q) (As : List Value) (hst : st = As.reverse ++ rest) (hn : As.length = n) (hR : dd + 1 ≤ d) (hrs : (rest.map fun v => v.category).sum ≤ 8) (h : bnp fo K = some Rv) (hC : ∀ r, fo = some r → ConQ l0 y ccy nLy ret dd As D ad g t u t u (fv r)) (k : ∀ r, K r = some Rv → G X D ad g t u lv q (va_rf (fv r) :: rest)) : G X D ad g t u lv pc st := by
  obtain ⟨r, hf, hK⟩ := bnp_some h
  obtain ⟨p, l, e, R, s, m, args, below, meth, c, Q, A, nL, cells, slots⟩ := X
  obtain ⟨hd, rfl⟩ := hd
  obtain ⟨hx, hb, hml, hown, hts, hK0, hJ, hSt, hA, hAw, hRm, hNn, rfl⟩ := F
  subst hst
  intro H locs ls hv hP hS
  refine va_callq (va_runS (Ts := gw) (As := As) (rest := rest) ⟨hx, hb, hml, hown, hts⟩ (hC r hf H.size) (va_cwS n hts (wsS_in hm hl) rfl rfl rfl hm.2.2.2.1 (room_ok hm.2.2.2.2 hR ⟨hRm.1, hRm.2.1⟩)) ⟨pre_blind, pre_of hK0 hSt hA hAw hP hS⟩ rfl hn (show ls.size = nL from hv.1) rfl (lv_room hrs) hd ⟨hRm.2.2.1, hRm.2.2.2⟩) hS (fun q _ h => awd_sub hA hAw hS q h) (awd_sub hA hAw hS) (fun r0 u0 T H1 locs1 hT hvm hpost hB hz hk hS1 => ?_)
  rw [hpost]; exact k r hK H1 locs1 ls hv (hT ▸ hB) hS1
theorem g_invSN_ip {y : MethodName} {ccy : ByteArray} {nLy n dd idx : Nat} {host : String} {ret : Option FieldType} {fo : Option Int32} {K : Int32 → Option Rt} (F : Fx X l0 D ad g cc own d N) (hm : MS y ccy nLy ret n) (hl : NwX X (.methodLinkNest own idx y host)) (hd : Dq cc pc (.invokestatic idx) 3 q) (As : List Value) (hst : st = As.reverse ++ rest) (hn : As.length = n) (hR : dd + 1 ≤ d) (hrs : (rest.map fun v => v.category).sum ≤ 8) (h : bnp fo K = some Rv) (hC : ∀ r, fo = some r → ConI l0 y ccy nLy ret dd As D ad g t u t u r) (k : ∀ r, K r = some Rv → G X D ad g t u lv q (.int r :: rest)) : G X D ad g t u lv pc st := by
  obtain ⟨r, hf, hK⟩ := bnp_some h
  obtain ⟨p, l, e, R, s, m, args, below, meth, c, Q, A, nL, cells, slots⟩ := X
  obtain ⟨hd, rfl⟩ := hd
  obtain ⟨hx, hb, hml, hown, hts, hK0, hJ, hSt, hA, hAw, hRm, hNn, rfl⟩ := F
  subst hst
  intro H locs ls hv hP hS
  refine va_calli (va_runSN (Ts := gw) (As := As) (rest := rest) ⟨hx, hb, hml, hown, hts⟩ (hC r hf H.size) ⟨va_cnB n hts (wsN_in hm) rfl rfl rfl hl (hts _ hm.2.2.1) hm.2.2.2.1 (room_ok hm.2.2.2.2 hR ⟨hRm.1, hRm.2.1⟩), hts _ hm.2.1, trivial⟩ ⟨pre_blind, pre_of hK0 hSt hA hAw hP hS⟩ rfl hn (show ls.size = nL from hv.1) rfl (lv_room hrs) hd ⟨hRm.2.2.1, hRm.2.2.2⟩) hS (fun q _ h => awd_sub hA hAw hS q h) (awd_sub hA hAw hS) (fun r0 u0 T H1 locs1 hT hvm hpost hB hz hk hS1 => ?_)
  rw [hpost]; exact k r hK H1 locs1 ls hv (hT ▸ hB) hS1
end GC
