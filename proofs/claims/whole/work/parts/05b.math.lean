/-! Math by the rows of the kit -/
section GMa
variable {X : Cx} {l0 : Launch} {D : va_G} {ad : Nat → Nat} {g : Gv} {cc : ByteArray} {own : String} {d N : Nat} {t u : Mem} {lv lv' : List (Nat × Value)} {pc q tgt : Nat} {st rest : List Value} {Rt : Type} {Rv : Rt}
theorem mc_g_mmax : Cond.code Lib.Math.max.name Lib.Math.max.code 2 (some .int) ∈ gw := gm (List.mem_of_getElem? (i := 494) (by decide +kernel)) rfl
theorem ms_g_mmax : Cond.static Lib.Math.max.name ∈ gw := gm (List.mem_of_getElem? (i := 493) (by decide +kernel)) rfl
theorem g_mmax {idx : Nat} {x y : Int32} {K : Int32 → Option Rt} (F : Fx X l0 D ad g cc own d N) (hl : Cond.methodLink own idx Lib.Math.max.name ∈ gw) (hd : Dq cc pc (.invokestatic idx) 3 q) (hr : 1 ≤ d) (hst : (st.map fun v => v.category).sum ≤ 8) (h : bnp (f_J9_max_7cf53 x y) K = some Rv) (k : ∀ r, K r = some Rv → G X D ad g t u lv q (.int r :: st)) : G X D ad g t u lv pc (.int y :: .int x :: st) := by
  obtain ⟨p, l, e, R, s, m, args, below, meth, c, Q, A, nL, cells, slots⟩ := X
  obtain ⟨hd, rfl⟩ := hd
  obtain ⟨hx, hb, hml, hown, hts, hK, hJ, hSt, hA, hAw, hRm, hNn, hl0⟩ := F
  exact fun H locs ls hv hP hS => va_mmax hx hb (hml.trans hv.1.symm) hown (hts _ hl) (hts _ ms_g_mmax) (hts _ (gm mw_79 rfl)) (hts _ mc_g_mmax) (Nat.le_trans hr hRm.1) (Nat.le_trans (show _ + 13 ≤ 64 * d by omega) hRm.2.1) hRm.2.2.1 hRm.2.2.2 hd (k _ h H locs ls hv hP hS)
theorem mc_g_mmin : Cond.code Lib.Math.min.name Lib.Math.min.code 2 (some .int) ∈ gw := gm (List.mem_of_getElem? (i := 541) (by decide +kernel)) rfl
theorem ms_g_mmin : Cond.static Lib.Math.min.name ∈ gw := gm (List.mem_of_getElem? (i := 540) (by decide +kernel)) rfl
theorem g_mmin {idx : Nat} {x y : Int32} {K : Int32 → Option Rt} (F : Fx X l0 D ad g cc own d N) (hl : Cond.methodLink own idx Lib.Math.min.name ∈ gw) (hd : Dq cc pc (.invokestatic idx) 3 q) (hr : 1 ≤ d) (hst : (st.map fun v => v.category).sum ≤ 8) (h : bnp (f_J9_min_7cf53 x y) K = some Rv) (k : ∀ r, K r = some Rv → G X D ad g t u lv q (.int r :: st)) : G X D ad g t u lv pc (.int y :: .int x :: st) := by
  obtain ⟨p, l, e, R, s, m, args, below, meth, c, Q, A, nL, cells, slots⟩ := X
  obtain ⟨hd, rfl⟩ := hd
  obtain ⟨hx, hb, hml, hown, hts, hK, hJ, hSt, hA, hAw, hRm, hNn, hl0⟩ := F
  exact fun H locs ls hv hP hS => va_mmin hx hb (hml.trans hv.1.symm) hown (hts _ hl) (hts _ ms_g_mmin) (hts _ (gm mw_79 rfl)) (hts _ mc_g_mmin) (Nat.le_trans hr hRm.1) (Nat.le_trans (show _ + 13 ≤ 64 * d by omega) hRm.2.1) hRm.2.2.1 hRm.2.2.2 hd (k _ h H locs ls hv hP hS)
theorem mc_g_mabs : Cond.code Lib.Math.abs.name Lib.Math.abs.code 1 (some .int) ∈ gw := gm (List.mem_of_getElem? (i := 516) (by decide +kernel)) rfl
theorem ms_g_mabs : Cond.static Lib.Math.abs.name ∈ gw := gm (List.mem_of_getElem? (i := 515) (by decide +kernel)) rfl
theorem g_mabs {idx : Nat} {x : Int32} {K : Int32 → Option Rt} (F : Fx X l0 D ad g cc own d N) (hl : Cond.methodLink own idx Lib.Math.abs.name ∈ gw) (hd : Dq cc pc (.invokestatic idx) 3 q) (hr : 1 ≤ d) (hst : (st.map fun v => v.category).sum ≤ 8) (h : bnp (f_J9_abs_0f7a4 x) K = some Rv) (k : ∀ r, K r = some Rv → G X D ad g t u lv q (.int r :: st)) : G X D ad g t u lv pc (.int x :: st) := by
  obtain ⟨p, l, e, R, s, m, args, below, meth, c, Q, A, nL, cells, slots⟩ := X
  obtain ⟨hd, rfl⟩ := hd
  obtain ⟨hx, hb, hml, hown, hts, hK, hJ, hSt, hA, hAw, hRm, hNn, hl0⟩ := F
  exact fun H locs ls hv hP hS => va_mabs hx hb (hml.trans hv.1.symm) hown (hts _ hl) (hts _ ms_g_mabs) (hts _ (gm mw_79 rfl)) (hts _ mc_g_mabs) (Nat.le_trans hr hRm.1) (Nat.le_trans (show _ + 13 ≤ 64 * d by omega) hRm.2.1) hRm.2.2.1 hRm.2.2.2 hd (k _ h H locs ls hv hP hS)
theorem mc_g_lmax : Cond.code Lib.MathLoose.max_long.x Lib.MathLoose.max_long.code 4 (some .long) ∈ gw := gm (List.mem_of_getElem? (i := 708) (by decide +kernel)) rfl
theorem ms_g_lmax : Cond.static Lib.MathLoose.max_long.x ∈ gw := gm (List.mem_of_getElem? (i := 707) (by decide +kernel)) rfl
theorem g_lmax {idx : Nat} {x y : Int64} {K : Int64 → Option Rt} (F : Fx X l0 D ad g cc own d N) (hl : Cond.methodLink own idx Lib.MathLoose.max_long.x ∈ gw) (hd : Dq cc pc (.invokestatic idx) 3 q) (hr : 1 ≤ d) (hst : (st.map fun v => v.category).sum ≤ 8) (h : bnp (f_J9_max_f86c9 x y) K = some Rv) (k : ∀ r, K r = some Rv → G X D ad g t u lv q (.long r :: st)) : G X D ad g t u lv pc (.long y :: .long x :: st) := by
  obtain ⟨p, l, e, R, s, m, args, below, meth, c, Q, A, nL, cells, slots⟩ := X
  obtain ⟨hd, rfl⟩ := hd
  obtain ⟨hx, hb, hml, hown, hts, hK, hJ, hSt, hA, hAw, hRm, hNn, hl0⟩ := F
  exact fun H locs ls hv hP hS => va_mmax_long hx hb (hml.trans hv.1.symm) hown (hts _ hl) (hts _ ms_g_lmax) (hts _ (gm mw_79 rfl)) (hts _ mc_g_lmax) (Nat.le_trans hr hRm.1) (Nat.le_trans (show _ + 15 ≤ 64 * d by omega) hRm.2.1) hRm.2.2.1 hRm.2.2.2 hd (k _ h H locs ls hv hP hS)
theorem mc_g_lmin : Cond.code Lib.MathLoose.min_long.x Lib.MathLoose.min_long.code 4 (some .long) ∈ gw := gm (List.mem_of_getElem? (i := 705) (by decide +kernel)) rfl
theorem ms_g_lmin : Cond.static Lib.MathLoose.min_long.x ∈ gw := gm (List.mem_of_getElem? (i := 704) (by decide +kernel)) rfl
theorem g_lmin {idx : Nat} {x y : Int64} {K : Int64 → Option Rt} (F : Fx X l0 D ad g cc own d N) (hl : Cond.methodLink own idx Lib.MathLoose.min_long.x ∈ gw) (hd : Dq cc pc (.invokestatic idx) 3 q) (hr : 1 ≤ d) (hst : (st.map fun v => v.category).sum ≤ 8) (h : bnp (f_J9_min_f86c9 x y) K = some Rv) (k : ∀ r, K r = some Rv → G X D ad g t u lv q (.long r :: st)) : G X D ad g t u lv pc (.long y :: .long x :: st) := by
  obtain ⟨p, l, e, R, s, m, args, below, meth, c, Q, A, nL, cells, slots⟩ := X
  obtain ⟨hd, rfl⟩ := hd
  obtain ⟨hx, hb, hml, hown, hts, hK, hJ, hSt, hA, hAw, hRm, hNn, hl0⟩ := F
  exact fun H locs ls hv hP hS => va_mmin_long hx hb (hml.trans hv.1.symm) hown (hts _ hl) (hts _ ms_g_lmin) (hts _ (gm mw_79 rfl)) (hts _ mc_g_lmin) (Nat.le_trans hr hRm.1) (Nat.le_trans (show _ + 15 ≤ 64 * d by omega) hRm.2.1) hRm.2.2.1 hRm.2.2.2 hd (k _ h H locs ls hv hP hS)
theorem runV16 {p : Program} {l : Launch} {e : Env} {R : Room} {s : State} {m : MethodId} {args : Array Value} {below : List Frame} {meth : Method} {c : Code} {H : Heap} {locs : List Loc} {cells slots : Nat} {y : MethodName} {bytes cc : ByteArray} {maxL nL mc ms n index : Nat} {ret : Option FieldType} {ws : List Cond} {rm : Room} {Pc : Array Value → State → Prop} {Qc : Array Value → State → Outcome → State → Prop} {free : Addr → Prop} {Ts : List Cond} {own C : String} {b : Addr} {As rest : List Value} {g : JFrame}
    (S : CallFix p m c cc nL s args Ts own) (hM : Met l y ws rm Pc Qc mc ms free) (cw : CallW R s args own C index y bytes maxL ret ws rm mc ms n) (h16 : 16 + (maxL + 11) + rm.locals ≤ R.locals) (hp : PreV s H C b Pc As)
    (hg : g.method = m) (hn : As.length = n) (hsize : g.locals.size = nL) (hstack : g.stack = As.reverse ++ .ref b :: rest) (hW : 2 * g.monitorRoom + (rest.map fun v => v.category).sum ≤ 16) (hdg : decode cc g.pc = .ok (.invokevirtual index, 3)) (hf : cells + mc ≤ R.cells ∧ slots + ms ≤ R.slots) :
    va_Run p l e R s m args below meth c H locs cells slots mc ms g rest (Qc (Value.ref b :: As).toArray) (free) := by
  have hK : Back l R p e below s args y 3 16 (PreOf R mc ms Pc) (PostOf Qc mc ms free) := by
    obtain ⟨hrc, hrs, hfr, hlo, hws, hcw, -, hini, -⟩ := cw.1
    exact back_of (bytes := bytes) (maxL := maxL) (ret := ret) hM hp.1 hrc hrs hfr h16 hws hcw (fun a' U hW => word_at hW (Or.inl (by first | rfl | simp [Cond.onTables, Cond.keeps, Cond.steady])) hini)
  obtain ⟨⟨-, -, -, -, -, -, hcode, -, hy, hlen, hl⟩, hin, hse⟩ := cw
  obtain ⟨hx, hb, hml, ho, -⟩ := S
  obtain ⟨-, ⟨cellB, hcB, hoB, hclB⟩, hPc⟩ := hp
  intro T hT X
  obtain ⟨v, vm₁, ⟨U', l2, c2, s2⟩, hW₁, X', ⟨g', mk, t, L, e1, e2, hq, h1, hL, h2, h3⟩, st⟩ := callV X hx (C := C) (bytes := bytes) (maxL := maxL) (ret := ret) ho hl hin hse hcode hy hK (by rw [hT]; exact hcB) hoB hclB hg (hsize.trans hml.symm) (argsL := As) (rest := rest) (fun sig h => hn.trans (hlen sig h)) hstack hW (by rw [hb]; exact hdg)
    (fun vm₁ hW₁ => ⟨hf.1, hf.2, hPc (T.setVm vm₁) hT hW₁⟩)
  dsimp only [Pt.U, Pt.locs, Pt.cells, Pt.slots] at X' e1 e2 h1 h2 h3 st
  subst h1; subst h2; subst h3
  exact ⟨v, (T.setVm vm₁).calling g' mk (Value.ref b :: As).toArray, t, U', L, hT, X', hL, e1, e2, hq, st⟩
theorem room16 {p : Program} {m : MethodId} {pc : Nat} {ls : Array Slot} {rest st : List Value} (h : (st.map fun v => v.category).sum ≤ 16) : 2 * (F0 m pc ls rest).monitorRoom + (st.map fun v => v.category).sum ≤ 16 := by
  show 2 * 0 + _ ≤ 16
  omega
theorem g_invVW_im {y : MethodName} {ccy : ByteArray} {nLy n dd idx b : Nat} {ret : Option FieldType} {C : String} {fo : Option (Int32 × Mem)} {K : Int32 → Mem → Option Rt} (F : Fx X l0 D ad g cc own d N) (hm : MI y ccy nLy ret C n) (hl : Cond.methodLink own idx y ∈ gw) (hd : Dq cc pc (.invokevirtual idx) 3 q) (hrc : RcX X D ad g t u b C) (As : List Value) (hst : st = As.reverse ++ .ref b :: rest) (hn : As.length = n) (hR : dd + 1 ≤ d) (h30 : nLy ≤ 30) (hrs : (rest.map fun v => v.category).sum ≤ 16) (h : bnd fo K = some Rv) (hC : ∀ r t', fo = some (r, t') → ConI l0 y ccy nLy ret dd (.ref b :: As) D ad g t u t t' r) (k : ∀ r t', K r t' = some Rv → G X D ad g t t' lv q (.int r :: rest)) : G X D ad g t u lv pc st := by
  obtain ⟨r, t', hf, hK⟩ := bnd_some h
  obtain ⟨p, l, e, R, s, m, args, below, meth, c, Q, A, nL, cells, slots⟩ := X
  obtain ⟨hd, rfl⟩ := hd
  obtain ⟨hx, hb, hml, hown, hts, hK0, hJ, hSt, hA, hAw, hRm, hNn, rfl⟩ := F
  subst hst
  intro H locs ls hv hP hS
  refine va_calli (runV16 (Ts := gw) (As := As) (rest := rest) ⟨hx, hb, hml, hown, hts⟩ (hC r t' hf H.size) (cwV n hts (wsV_in hm hl) rfl rfl rfl hm.2.2.2.2.1 (room_ok hm.2.2.2.2.2 hR ⟨hRm.1, hRm.2.1⟩)) (Nat.le_trans (show 16 + (nLy + 11) + 64 * dd ≤ 64 * d by omega) hRm.2.1) ⟨pre_blind, hrc H locs hP hS, pre_of hK0 hSt hA hAw hP hS⟩ rfl hn (show ls.size = nL from hv.1) rfl (room16 (p := p) hrs) hd ⟨hRm.2.2.1, hRm.2.2.2⟩) hS (fun q _ h => awd_sub hA hAw hS q h) (awd_sub hA hAw hS) (fun r0 u0 T H1 locs1 hT hvm hpost hB hz hk hS1 => ?_)
  rw [hpost]; exact k r t' hK H1 locs1 ls hv (hT ▸ hB) hS1
end GMa
