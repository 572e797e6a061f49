/-! Math by the rows of the kit -/
section GMa
variable {X : Cx} {l0 : Launch} {D : va_G} {ad : Nat → Nat} {g : Gv} {cc : ByteArray} {own : String} {d N : Nat} {t u : Mem} {lv lv' : List (Nat × Value)} {pc q tgt : Nat} {st rest : List Value} {Rt : Type} {Rv : Rt}
theorem mc_g_mmax : Cond.code Lib.Math.max.name Lib.Math.max.code 2 (some .int) ∈ gw := gm (List.mem_of_getElem? (i := 496) (by decide +kernel)) rfl
theorem ms_g_mmax : Cond.static Lib.Math.max.name ∈ gw := gm (List.mem_of_getElem? (i := 495) (by decide +kernel)) rfl
theorem g_mmax {idx : Nat} {x y : Int32} {K : Int32 → Option Rt} (F : Fx X l0 D ad g cc own d N) (hl : Cond.methodLink own idx Lib.Math.max.name ∈ gw) (hd : Dq cc pc (.invokestatic idx) 3 q) (hr : 1 ≤ d) (hst : (st.map fun v => v.category).sum ≤ 8) (h : bnp (f_J9_max_7cf53 x y) K = some Rv) (k : ∀ r, K r = some Rv → G X D ad g t u lv q (.int r :: st)) : G X D ad g t u lv pc (.int y :: .int x :: st) := by
  obtain ⟨p, l, e, R, s, m, args, below, meth, c, Q, A, nL, cells, slots⟩ := X
  obtain ⟨hd, rfl⟩ := hd
  obtain ⟨hx, hb, hml, hown, hts, hK, hJ, hSt, hA, hAw, hRm, hNn, hl0⟩ := F
  exact fun H locs ls hv hP hS => va_mmax hx hb (hml.trans hv.1.symm) hown (hts _ hl) (hts _ ms_g_mmax) (hts _ (gm mw_79 rfl)) (hts _ mc_g_mmax) (Nat.le_trans hr hRm.1) (Nat.le_trans (show _ + 13 ≤ 64 * d by omega) hRm.2.1) hRm.2.2.1 hRm.2.2.2 hd (k _ h H locs ls hv hP hS)
theorem mc_g_mmin : Cond.code Lib.Math.min.name Lib.Math.min.code 2 (some .int) ∈ gw := gm (List.mem_of_getElem? (i := 543) (by decide +kernel)) rfl
theorem ms_g_mmin : Cond.static Lib.Math.min.name ∈ gw := gm (List.mem_of_getElem? (i := 542) (by decide +kernel)) rfl
theorem g_mmin {idx : Nat} {x y : Int32} {K : Int32 → Option Rt} (F : Fx X l0 D ad g cc own d N) (hl : Cond.methodLink own idx Lib.Math.min.name ∈ gw) (hd : Dq cc pc (.invokestatic idx) 3 q) (hr : 1 ≤ d) (hst : (st.map fun v => v.category).sum ≤ 8) (h : bnp (f_J9_min_7cf53 x y) K = some Rv) (k : ∀ r, K r = some Rv → G X D ad g t u lv q (.int r :: st)) : G X D ad g t u lv pc (.int y :: .int x :: st) := by
  obtain ⟨p, l, e, R, s, m, args, below, meth, c, Q, A, nL, cells, slots⟩ := X
  obtain ⟨hd, rfl⟩ := hd
  obtain ⟨hx, hb, hml, hown, hts, hK, hJ, hSt, hA, hAw, hRm, hNn, hl0⟩ := F
  exact fun H locs ls hv hP hS => va_mmin hx hb (hml.trans hv.1.symm) hown (hts _ hl) (hts _ ms_g_mmin) (hts _ (gm mw_79 rfl)) (hts _ mc_g_mmin) (Nat.le_trans hr hRm.1) (Nat.le_trans (show _ + 13 ≤ 64 * d by omega) hRm.2.1) hRm.2.2.1 hRm.2.2.2 hd (k _ h H locs ls hv hP hS)
theorem mc_g_mabs : Cond.code Lib.Math.abs.name Lib.Math.abs.code 1 (some .int) ∈ gw := gm (List.mem_of_getElem? (i := 518) (by decide +kernel)) rfl
theorem ms_g_mabs : Cond.static Lib.Math.abs.name ∈ gw := gm (List.mem_of_getElem? (i := 517) (by decide +kernel)) rfl
theorem g_mabs {idx : Nat} {x : Int32} {K : Int32 → Option Rt} (F : Fx X l0 D ad g cc own d N) (hl : Cond.methodLink own idx Lib.Math.abs.name ∈ gw) (hd : Dq cc pc (.invokestatic idx) 3 q) (hr : 1 ≤ d) (hst : (st.map fun v => v.category).sum ≤ 8) (h : bnp (f_J9_abs_0f7a4 x) K = some Rv) (k : ∀ r, K r = some Rv → G X D ad g t u lv q (.int r :: st)) : G X D ad g t u lv pc (.int x :: st) := by
  obtain ⟨p, l, e, R, s, m, args, below, meth, c, Q, A, nL, cells, slots⟩ := X
  obtain ⟨hd, rfl⟩ := hd
  obtain ⟨hx, hb, hml, hown, hts, hK, hJ, hSt, hA, hAw, hRm, hNn, hl0⟩ := F
  exact fun H locs ls hv hP hS => va_mabs hx hb (hml.trans hv.1.symm) hown (hts _ hl) (hts _ ms_g_mabs) (hts _ (gm mw_79 rfl)) (hts _ mc_g_mabs) (Nat.le_trans hr hRm.1) (Nat.le_trans (show _ + 13 ≤ 64 * d by omega) hRm.2.1) hRm.2.2.1 hRm.2.2.2 hd (k _ h H locs ls hv hP hS)
theorem mc_g_lmax : Cond.code Lib.MathLoose.max_long.x Lib.MathLoose.max_long.code 4 (some .long) ∈ gw := gm (List.mem_of_getElem? (i := 710) (by decide +kernel)) rfl
theorem ms_g_lmax : Cond.static Lib.MathLoose.max_long.x ∈ gw := gm (List.mem_of_getElem? (i := 709) (by decide +kernel)) rfl
theorem g_lmax {idx : Nat} {x y : Int64} {K : Int64 → Option Rt} (F : Fx X l0 D ad g cc own d N) (hl : Cond.methodLink own idx Lib.MathLoose.max_long.x ∈ gw) (hd : Dq cc pc (.invokestatic idx) 3 q) (hr : 1 ≤ d) (hst : (st.map fun v => v.category).sum ≤ 8) (h : bnp (f_J9_max_f86c9 x y) K = some Rv) (k : ∀ r, K r = some Rv → G X D ad g t u lv q (.long r :: st)) : G X D ad g t u lv pc (.long y :: .long x :: st) := by
  obtain ⟨p, l, e, R, s, m, args, below, meth, c, Q, A, nL, cells, slots⟩ := X
  obtain ⟨hd, rfl⟩ := hd
  obtain ⟨hx, hb, hml, hown, hts, hK, hJ, hSt, hA, hAw, hRm, hNn, hl0⟩ := F
  exact fun H locs ls hv hP hS => va_mmax_long hx hb (hml.trans hv.1.symm) hown (hts _ hl) (hts _ ms_g_lmax) (hts _ (gm mw_79 rfl)) (hts _ mc_g_lmax) (Nat.le_trans hr hRm.1) (Nat.le_trans (show _ + 15 ≤ 64 * d by omega) hRm.2.1) hRm.2.2.1 hRm.2.2.2 hd (k _ h H locs ls hv hP hS)
theorem mc_g_lmin : Cond.code Lib.MathLoose.min_long.x Lib.MathLoose.min_long.code 4 (some .long) ∈ gw := gm (List.mem_of_getElem? (i := 707) (by decide +kernel)) rfl
theorem ms_g_lmin : Cond.static Lib.MathLoose.min_long.x ∈ gw := gm (List.mem_of_getElem? (i := 706) (by decide +kernel)) rfl
theorem g_lmin {idx : Nat} {x y : Int64} {K : Int64 → Option Rt} (F : Fx X l0 D ad g cc own d N) (hl : Cond.methodLink own idx Lib.MathLoose.min_long.x ∈ gw) (hd : Dq cc pc (.invokestatic idx) 3 q) (hr : 1 ≤ d) (hst : (st.map fun v => v.category).sum ≤ 8) (h : bnp (f_J9_min_f86c9 x y) K = some Rv) (k : ∀ r, K r = some Rv → G X D ad g t u lv q (.long r :: st)) : G X D ad g t u lv pc (.long y :: .long x :: st) := by
  obtain ⟨p, l, e, R, s, m, args, below, meth, c, Q, A, nL, cells, slots⟩ := X
  obtain ⟨hd, rfl⟩ := hd
  obtain ⟨hx, hb, hml, hown, hts, hK, hJ, hSt, hA, hAw, hRm, hNn, hl0⟩ := F
  exact fun H locs ls hv hP hS => va_mmin_long hx hb (hml.trans hv.1.symm) hown (hts _ hl) (hts _ ms_g_lmin) (hts _ (gm mw_79 rfl)) (hts _ mc_g_lmin) (Nat.le_trans hr hRm.1) (Nat.le_trans (show _ + 15 ≤ 64 * d by omega) hRm.2.1) hRm.2.2.1 hRm.2.2.2 hd (k _ h H locs ls hv hP hS)
end GMa
