/-! layer 2: spread, yields, mill -/
theorem pinch_ok {S : Ld} (ok : okLd S) {p q : Nat} {z : Int} (hp : p < Sc S) (hq : q < Sc S) (hm : mayS S p q z) : okLd (setW (setF S (Sf S - costN S p q z.natAbs)) p q ((Sw S p q : Int) + z).toNat) := by
  have hf := ok.2.1
  have h0 : okLd (setF S (Sf S - costN S p q z.natAbs)) := ok.setF (by omega)
  have hpq : ¬ p = q := fun e => hm.1 (by rw [e]; exact ok.2.2.2.2.2.2.2.1 q)
  exact h0.setW hp hq hpq (by have := hm.2.2.2.2.2.1; omega)
theorem stp32 {n : Nat} : Stp32 Rel n := fun t u x1 x2 x3 h0 => by
  obtain ⟨S, hl, hm, ok, ho⟩ := id h0
  unfold f_X5_spread f_X6_spread jn_X6_spread_16
  rcases e1 : plc (Sc S) x1 with _ | p
  · rw [hasBoth_n hl ok.1 (.inl e1), bnd_s, if_neg z_nn, isPl_n hm ok.1 e1, bnd_s, if_pos rfl]
    exact fin_no 1 h0 (by decide) (by decide)
  obtain ⟨rfl, hp⟩ := plc_some e1
  rw [isPl_y hm ok.1 hp, bnd_s, if_neg one_ne]
  rcases e2 : plc (Sc S) x2 with _ | q
  · rw [hasBoth_n hl ok.1 (.inr e2), bnd_s, if_neg z_nn, isPl_n hm ok.1 e2, bnd_s, if_neg z_nn]
    exact fin_no 1 h0 (by decide) (by decide)
  obtain ⟨rfl, hq⟩ := plc_some e2
  rw [hasBoth_y hl ok.1 hp hq, bnd_s, if_pos one_ne, isPl_y hm ok.1 hq, bnd_s, if_pos one_ne]
  have hc := ok.1
  by_cases e : mayS S p q x3.toInt
  · rw [(may_y (x := x3) hl ok hp hq).1 e, bnd_s, if_pos one_ne, (mmay_y (x := x3) hm ok hp hq).1 e, bnd_s, if_pos one_ne]
    obtain ⟨t', a1, a2, a3⟩ := pinch_y hl ok hp hq e
    obtain ⟨u', b1, b2, b3, b4, b5⟩ := mpinch_y hm ok hp hq e
    have ok' := pinch_ok ok hp hq e
    rw [a1, bnd_s, b1, bnd_s, btw_y a2 ok'.1 hp hq, bnd_s, ck_t (inb8' (by omega) (by omega)), clamp8' (by omega) (by omega), b2.2.2.2.2.2.2 p q (by omega) (by omega)]
    exact ⟨_, _, _, rfl, rfl, _, a2, b2, ok', ho.fr (fun o hm => a3.1 o (by revert o; decide)) a3.2 (fun o hm => b4 o (by revert o; decide)) b3 (b5 _ (by decide)) (b5 _ (by decide)) (b5 _ (by decide))⟩
  · rw [(may_y (x := x3) hl ok hp hq).2 e, bnd_s, if_neg z_nn, (mmay_y (x := x3) hm ok hp hq).2 e, bnd_s, if_neg z_nn]
    exact fin_no 6 h0 (by decide) (by decide)
theorem roadP_a {t : Mem} {S : Ld} {x1 x2 : Int32} (h : isLd t 0 S) (hc : Sc S ≤ 8) (hx : plc (Sc S) x1 = none ∨ plc (Sc S) x2 = none) : f_X5_roadProblem x1 x2 t = some (-1, t) := by
  unfold f_X5_roadProblem
  rw [hasBoth_n h hc hx, bnd_s, if_neg z_nn]
theorem roadP_y {t : Mem} {S : Ld} {p q : Nat} (h : isLd t 0 S) (ok : okLd S) (hp : p < Sc S) (hq : q < Sc S) : f_X5_roadProblem (nI p) (nI q) t = some (if Sw S p q = 0 then -6 else 0, t) := by
  unfold f_X5_roadProblem
  have := ok.2.2.2.2.2.1 p q
  rw [hasBoth_y h ok.1 hp hq, bnd_s, if_pos one_ne, btw_y h ok.1 hp hq, bnd_s]
  by_cases e : Sw S p q = 0
  · rw [if_pos e, e, if_neg (show ¬ ¬ nI 0 = 0 from z_nn)]
  · rw [if_neg e, if_pos (show ¬ nI (Sw S p q) = 0 from nI_ne (b := 0) (by omega) (by omega) e)]
theorem stp15 {n : Nat} (hn : 5 ≤ n) : Stp15 Rel n := fun t u x1 x2 h0 => by
  obtain ⟨S, hl, hm, ok, ho⟩ := id h0
  unfold f_X5_yields f_X6_yields jn_X6_yields_16
  rcases e1 : plc (Sc S) x1 with _ | p
  · rw [roadP_a hl ok.1 (.inl e1), bnd_s, if_pos (by decide), isPl_n hm ok.1 e1, bnd_s, if_pos rfl]
    exact fin_no 1 h0 (by decide) (by decide)
  obtain ⟨rfl, hp⟩ := plc_some e1
  rw [isPl_y hm ok.1 hp, bnd_s, if_neg one_ne]
  rcases e2 : plc (Sc S) x2 with _ | q
  · rw [roadP_a hl ok.1 (.inr e2), bnd_s, if_pos (by decide), isPl_n hm ok.1 e2, bnd_s, if_neg z_nn]
    exact fin_no 1 h0 (by decide) (by decide)
  obtain ⟨rfl, hq⟩ := plc_some e2
  rw [isPl_y hm ok.1 hq, bnd_s, if_pos one_ne, roadP_y hl ok hp hq, bnd_s, noRoad_y hm ok hp hq, bnd_s]
  by_cases e : Sw S p q = 0
  · rw [if_pos e, if_pos (by decide), bI_1 (decide_eq_true e), if_neg one_ne]
    exact fin_no 6 h0 (by decide) (by decide)
  · rw [if_neg e, if_neg z_nn, bI_0 (by simp [e]), if_pos rfl, yield_y hl ok hp hq hn, bnd_s, myield_y hm ok hp hq hn, bnd_s]
    exact ⟨_, _, _, rfl, rfl, h0⟩
theorem grind_y {t : Mem} {L : Fin 3} {S : Ld} {p q n : Nat} (h : isLd t L S) (ok : okLd S) (hp : p < Sc S) (hq : q < Sc S) (hpq : ¬ p = q) (hn : 5 ≤ n) : ∃ t', f_X1_grindRoad n L (nI p) (nI q) t = some ((), t') ∧ isLd t' L (setW (setF S (min 99999 (Sf S + yieldN S p q))) p q 0) ∧ Fr t t' [oLd L, oRd L] := by
  unfold f_X1_grindRoad
  have hf := ok.2.1
  have hy := yieldN_le ok p q
  have a := h.setF (f := min 99999 (Sf S + yieldN S p q))
  obtain ⟨t', b1, b2, b3⟩ := lay_y (n := 0) a.1 ok.1 hp hq hpq
  refine ⟨t', ?_, b2, (a.2.mono (by intro o ho; simp_all)).trans (b3.mono (by intro o ho; simp_all))⟩
  rw [yield_y h ok hp hq hn, bnd_s, h.2.1, nI_add, show (99999 : Int32) = nI 99999 from rfl, min_nI (by omega) (by omega), bnp_s, ltm_s, show (0 : Int32) = nI 0 from rfl, b1, bnd_s]
theorem mgrind_y {u : Mem} {S : Ld} {p q n : Nat} (h : isMd u S) (ok : okLd S) (hp : p < Sc S) (hq : q < Sc S) (hn : 5 ≤ n) : ∃ u', f_X6_mills n (nI p) (nI q) u = some ((), u') ∧ isMd u' (setW (setF S (min 99999 (Sf S + yieldN S p q))) p q 0) ∧ u'.2 = u.2 ∧ (∀ o, ¬ o ∈ [39, 45] → u'.1 o = u.1 o) ∧ ∀ j, ¬ j = 7 → u'.1 39 j = u.1 39 j := by
  unfold f_X6_mills
  have hf := ok.2.1
  have hc := ok.1
  have hy := yieldN_le ok p q
  have a := h.setF (f := min 99999 (Sf S + yieldN S p q))
  obtain ⟨u', b1, b2, b3⟩ := mlay_y (n := 0) a.1 (show p < 8 by omega) (show q < 8 by omega)
  refine ⟨u', ?_, b2, b3.2.trans a.2.2, ?_, ?_⟩
  · rw [myield_y h ok hp hq hn, bnd_s, h.2.1, nI_add, show (99999 : Int32) = nI 99999 from rfl, min_nI (by omega) (by omega), bnp_s, ltm_s, show (0 : Int32) = nI 0 from rfl, b1, bnd_s]
  · intro o ho
    rw [b3.1 o (by simp_all), a.2.1 o (by simp_all)]
  · intro j hj
    rw [b3.1 39 (by decide), m39 hj]
theorem mill_ok {S : Ld} (ok : okLd S) {p q : Nat} (hp : p < Sc S) (hq : q < Sc S) (hpq : ¬ p = q) : okLd (setW (setF S (min 99999 (Sf S + yieldN S p q))) p q 0) := by
  have h0 : okLd (setF S (min 99999 (Sf S + yieldN S p q))) := ok.setF (by omega)
  exact h0.setW hp hq hpq (by omega)
theorem stp31 {n : Nat} (hn : 5 ≤ n) : Stp31 Rel n := fun t u x1 x2 h0 => by
  obtain ⟨S, hl, hm, ok, ho⟩ := id h0
  unfold f_X5_mill f_X6_mill jn_X6_mill_16
  rcases e1 : plc (Sc S) x1 with _ | p
  · rw [roadP_a hl ok.1 (.inl e1), bnd_s, if_neg (by decide), isPl_n hm ok.1 e1, bnd_s, if_pos rfl]
    exact fin_no 1 h0 (by decide) (by decide)
  obtain ⟨rfl, hp⟩ := plc_some e1
  rw [isPl_y hm ok.1 hp, bnd_s, if_neg one_ne]
  rcases e2 : plc (Sc S) x2 with _ | q
  · rw [roadP_a hl ok.1 (.inr e2), bnd_s, if_neg (by decide), isPl_n hm ok.1 e2, bnd_s, if_neg z_nn]
    exact fin_no 1 h0 (by decide) (by decide)
  obtain ⟨rfl, hq⟩ := plc_some e2
  rw [isPl_y hm ok.1 hq, bnd_s, if_pos one_ne, roadP_y hl ok hp hq, bnd_s, noRoad_y hm ok hp hq, bnd_s]
  by_cases e : Sw S p q = 0
  · rw [if_pos e, if_neg (by decide), bI_1 (decide_eq_true e), if_neg one_ne]
    exact fin_no 6 h0 (by decide) (by decide)
  · have hpq : ¬ p = q := fun e' => e (by rw [e']; exact ok.2.2.2.2.2.2.2.1 q)
    obtain ⟨t', a1, a2, a3⟩ := grind_y hl ok hp hq hpq hn
    obtain ⟨u', b1, b2, b3, b4, b5⟩ := mgrind_y hm ok hp hq hn
    rw [if_neg e, if_pos rfl, bI_0 (by simp [e]), if_pos rfl, a1, bnd_s, b1, bnd_s, a2.2.1, b2.2.1]
    exact ⟨_, _, _, rfl, rfl, _, a2, b2, mill_ok ok hp hq hpq, ho.fr (fun o hm => a3.1 o (by revert o; decide)) a3.2 (fun o hm => b4 o (by revert o; decide)) b3 (b5 _ (by decide)) (b5 _ (by decide)) (b5 _ (by decide))⟩
