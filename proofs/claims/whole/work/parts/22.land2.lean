/-! kinds, yields, pinches -/
def under (k k2 : Nat) : Bool := (k == k2) || (k2 == 0) || (k == 3 && k2 == 1) || (k == 5 && k2 == 2) || (k == 6 && k2 == 4)
def bI (b : Bool) : Int32 := if b = true then 1 else 0
theorem isOf_loop {m : Nat} {L : Fin 3} {x1 : Int32} {t : Mem} {k k2 : Nat} (hk : k ≤ 6) (hk2 : k2 ≤ 6) : iter (bd_X1_isOf_26 (m + 5) L x1 (nI k2)) (m + 5) (nI k, 0, t) = some (bI (under k k2), t) := by
  rcases (show k = 0 ∨ k = 1 ∨ k = 2 ∨ k = 3 ∨ k = 4 ∨ k = 5 ∨ k = 6 by omega) with rfl | rfl | rfl | rfl | rfl | rfl | rfl <;>
  rcases (show k2 = 0 ∨ k2 = 1 ∨ k2 = 2 ∨ k2 = 3 ∨ k2 = 4 ∨ k2 = 5 ∨ k2 = 6 by omega) with rfl | rfl | rfl | rfl | rfl | rfl | rfl <;> rfl
theorem isUnder_loop {m : Nat} {k k2 : Nat} (hk : k ≤ 6) (hk2 : k2 ≤ 6) : f_X6_isUnder (m + 5) (nI k) (nI k2) = some (bI (under k k2)) := by
  rcases (show k = 0 ∨ k = 1 ∨ k = 2 ∨ k = 3 ∨ k = 4 ∨ k = 5 ∨ k = 6 by omega) with rfl | rfl | rfl | rfl | rfl | rfl | rfl <;>
  rcases (show k2 = 0 ∨ k2 = 1 ∨ k2 = 2 ∨ k2 = 3 ∨ k2 = 4 ∨ k2 = 5 ∨ k2 = 6 by omega) with rfl | rfl | rfl | rfl | rfl | rfl | rfl <;> rfl
theorem isOf_y {t : Mem} {L : Fin 3} {S : Ld} {p k2 n : Nat} (h : isLd t L S) (ok : okLd S) (hp : p < Sc S) (hk : k2 ≤ 6) (hn : 5 ≤ n) : f_X1_isOf n L (nI p) (nI k2) t = some (bI (under (Sk S p) k2), t) := by
  have hc := ok.1
  obtain ⟨m, rfl⟩ : ∃ m, n = m + 5 := ⟨n - 5, by omega⟩
  unfold f_X1_isOf
  rw [h.1, if_neg (nI_pos (by omega)), if_neg (nI_ge hp (by omega)), ck_t (inb_nI (by omega) (by decide)), nI_clamp (by omega), h.2.2.2.2.1 p (by omega)]
  exact isOf_loop (ok.2.2.2.1 p) hk
theorem bI_1 {b : Bool} (h : b = true) : bI b = 1 := if_pos h
theorem bI_0 {b : Bool} (h : ¬ b = true) : bI b = 0 := if_neg h
theorem bI_it {Rt : Type} (b : Bool) (U V : Rt) : (if bI b = 0 then U else V) = if b = true then V else U := by
  cases b <;> rfl
theorem bI_itn {Rt : Type} (b : Bool) (U V : Rt) : (if ¬ bI b = 0 then U else V) = if b = true then U else V := by
  cases b <;> rfl
def yieldN (S : Ld) (p q : Nat) : Nat := (fun y => if (under (Sk S p) 2 || under (Sk S q) 2) = true then y / 2 else y) (if (under (Sk S p) 1 || under (Sk S q) 1) = true then Sw S p q - Sw S p q / 4 else Sw S p q)
theorem yieldN_le {S : Ld} (ok : okLd S) (p q : Nat) : yieldN S p q ≤ 999 := by
  have := ok.2.2.2.2.2.1 p q
  unfold yieldN
  dsimp only
  repeat' split
  all_goals omega
theorem yield_y {t : Mem} {L : Fin 3} {S : Ld} {p q n : Nat} (h : isLd t L S) (ok : okLd S) (hp : p < Sc S) (hq : q < Sc S) (hn : 5 ≤ n) : f_X1_yieldOf n L (nI p) (nI q) t = some (nI (yieldN S p q), t) := by
  have hc := ok.1
  have hw := ok.2.2.2.2.2.1 p q
  have i1 : ∀ k2, k2 ≤ 6 → f_X1_isOf n L (nI p) (nI k2) t = some (bI (under (Sk S p) k2), t) := fun k2 hk => isOf_y h ok hp hk hn
  have i2 : ∀ k2, k2 ≤ 6 → f_X1_isOf n L (nI q) (nI k2) t = some (bI (under (Sk S q) k2), t) := fun k2 hk => isOf_y h ok hq hk hn
  have e4 : ∀ y, y ≤ 999 → nI y - nI y / 4 = nI (y - y / 4) := fun y hy => by rw [show (4 : Int32) = nI 4 from rfl, nI_div (by omega) (by omega), nI_sub (Nat.div_le_self _ _)]
  have e2 : ∀ y, y ≤ 999 → nI y / 2 = nI (y / 2) := fun y hy => by rw [show (2 : Int32) = nI 2 from rfl, nI_div (by omega) (by omega)]
  have j31 : ∀ y, y ≤ 999 → jn_X1_yieldOf_31 n L (nI p) (nI q) (nI y) t = some (nI (if (under (Sk S p) 2 || under (Sk S q) 2) = true then y / 2 else y), t) := by
    intro y hy
    unfold jn_X1_yieldOf_31
    rw [show (2 : Int32) = nI 2 from rfl, i1 2 (by omega), bnd_s, bI_itn, i2 2 (by omega), bnd_s, bI_it, ← show (2 : Int32) = nI 2 from rfl, e2 y hy]
    cases under (Sk S p) 2 <;> cases under (Sk S q) 2 <;> rfl
  unfold f_X1_yieldOf jn_X1_yieldOf_25
  rw [btw_y h hc hp hq, bnd_s, show (1 : Int32) = nI 1 from rfl, i1 1 (by omega), bnd_s, bI_itn, i2 1 (by omega), bnd_s, bI_it, e4 _ hw, j31 _ hw, j31 _ (by omega)]
  unfold yieldN
  cases under (Sk S p) 1 <;> cases under (Sk S q) 1 <;> rfl
/-! a pinch of z miles -/
def mayS (S : Ld) (p q : Nat) (z : Int) : Prop := ¬ Sw S p q = 0 ∧ ¬ z = 0 ∧ -998 ≤ z ∧ z ≤ 998 ∧ 1 ≤ (Sw S p q : Int) + z ∧ (Sw S p q : Int) + z ≤ 999 ∧ costN S p q z.natAbs ≤ Sf S
theorem add_toInt {w : Nat} {x : Int32} (hw : w ≤ 9999) (h1 : -100000 ≤ x.toInt) (h2 : x.toInt ≤ 100000) : (nI w + x).toInt = (w : Int) + x.toInt := by
  rw [Int32.toInt_add, nI_toInt (by omega)]
  exact Int.bmod_eq_of_le (by omega) (by omega)
theorem i_lt {x y : Int32} : x < y ↔ x.toInt < y.toInt := Int32.lt_iff_toInt_lt
theorem i_le {x y : Int32} : x ≤ y ↔ x.toInt ≤ y.toInt := Int32.le_iff_toInt_le
theorem i_eq {x y : Int32} : x = y ↔ x.toInt = y.toInt := ⟨fun h => by rw [h], fun h => Int32.toInt_inj.mp h⟩
theorem abs_nI {x : Int32} (h1 : -998 ≤ x.toInt) (h2 : x.toInt ≤ 998) : f_J9_abs_0f7a4 x = some (nI x.toInt.natAbs) := by
  unfold f_J9_abs_0f7a4
  congr 1
  by_cases h : 0 ≤ x
  · rw [if_pos h]
    rw [i_le, Int32.toInt_zero] at h
    rw [i_eq, nI_toInt (by omega)]
    omega
  · rw [if_neg h]
    rw [i_le, Int32.toInt_zero] at h
    rw [i_eq, nI_toInt (by omega), Int32.toInt_sub, Int32.toInt_zero]
    rw [Int.bmod_eq_of_le (by omega) (by omega)]
    omega
theorem may_y {t : Mem} {L : Fin 3} {S : Ld} {p q : Nat} {x : Int32} (h : isLd t L S) (ok : okLd S) (hp : p < Sc S) (hq : q < Sc S) : (mayS S p q x.toInt → f_X1_mayPinch L (nI p) (nI q) x t = some (1, t)) ∧ (¬ mayS S p q x.toInt → f_X1_mayPinch L (nI p) (nI q) x t = some (0, t)) := by
  have hc := ok.1
  have hw := ok.2.2.2.2.2.1 p q
  have hf := ok.2.1
  have z0 : (0 : Int32).toInt = 0 := rfl
  have zm : (-998 : Int32).toInt = -998 := by decide
  have zp : (998 : Int32).toInt = 998 := by decide
  have z1 : (1 : Int32).toInt = 1 := by decide
  have z9 : (999 : Int32).toInt = 999 := by decide
  have e0 : nI (Sw S p q) = 0 ↔ Sw S p q = 0 := by
    rw [show (0 : Int32) = nI 0 from rfl, nI_eq (by omega) (by omega)]
  unfold f_X1_mayPinch mayS
  rw [btw_y h hc hp hq, bnd_s]
  by_cases c1 : Sw S p q = 0
  · rw [if_pos (e0.mpr c1)]
    exact ⟨fun q => absurd c1 q.1, fun _ => rfl⟩
  rw [if_neg (fun q => c1 (e0.mp q))]
  by_cases c2 : x.toInt = 0
  · rw [if_pos (i_eq.mpr (by rw [z0]; exact c2))]
    exact ⟨fun q => absurd c2 q.2.1, fun _ => rfl⟩
  rw [if_neg (fun q => c2 (by rw [i_eq, z0] at q; exact q))]
  by_cases c3 : -998 ≤ x.toInt
  · rw [if_neg (by rw [i_lt, zm]; omega)]
    by_cases c4 : x.toInt ≤ 998
    · rw [if_pos (by rw [i_le, zp]; omega)]
      have ea := add_toInt (w := Sw S p q) (x := x) (by omega) (by omega) (by omega)
      by_cases c5 : 1 ≤ (Sw S p q : Int) + x.toInt
      · rw [if_neg (by rw [i_lt, ea, z1]; omega)]
        by_cases c6 : (Sw S p q : Int) + x.toInt ≤ 999
        · rw [if_neg (by rw [i_lt, ea, z9]; omega), abs_nI c3 c4, bnp_s, cost_y h ok hp hq (by omega), bnd_s, h.2.1]
          have hcl : costN S p q x.toInt.natAbs ≤ 3000 := by
            unfold costN
            exact Nat.max_le.mpr ⟨asksN_le (ok.2.2.2.2.1 p) (by omega), asksN_le (ok.2.2.2.2.1 q) (by omega)⟩
          by_cases c7 : costN S p q x.toInt.natAbs ≤ Sf S
          · rw [if_neg (nI_nlt c7 (by omega))]
            exact ⟨fun _ => rfl, fun q => absurd ⟨c1, c2, c3, c4, c5, c6, c7⟩ q⟩
          · rw [if_pos (nI_lt (by omega) (by omega))]
            exact ⟨fun q => absurd q.2.2.2.2.2.2 c7, fun _ => rfl⟩
        · rw [if_pos (by rw [i_lt, ea, z9]; omega)]
          exact ⟨fun q => absurd q.2.2.2.2.2.1 c6, fun _ => rfl⟩
      · rw [if_pos (by rw [i_lt, ea, z1]; omega)]
        exact ⟨fun q => absurd q.2.2.2.2.1 c5, fun _ => rfl⟩
    · rw [if_neg (by rw [i_le, zp]; omega)]
      exact ⟨fun q => absurd q.2.2.2.1 c4, fun _ => rfl⟩
  · rw [if_pos (by rw [i_lt, zm]; omega)]
    exact ⟨fun q => absurd q.2.2.1 c3, fun _ => rfl⟩
theorem may_n {t : Mem} {L : Fin 3} {S : Ld} {x1 x2 x : Int32} (h : isLd t L S) (hc : Sc S ≤ 8) (hx : plc (Sc S) x1 = none ∨ plc (Sc S) x2 = none) : f_X1_mayPinch L x1 x2 x t = some (0, t) := by
  unfold f_X1_mayPinch
  rw [btw_n h hc hx, bnd_s, if_pos rfl]
theorem isLd.setF {t : Mem} {L : Fin 3} {S : Ld} {f : Nat} (h : isLd t L S) : isLd (uI t (oLd L) 4 (nI f)) L (setF S f) ∧ Fr t (uI t (oLd L) 4 (nI f)) [oLd L] := by
  have hL := L.isLt
  refine ⟨?_, Fr.uA t _ (List.mem_singleton.mpr rfl)⟩
  unfold isLd
  rw [uA_same, uA_ne _ (show ¬ oKn L = oLd L by simp only [oLd, oKn]; omega), uA_ne _ (show ¬ oMk L = oLd L by simp only [oLd, oMk]; omega), uA_ne _ (show ¬ oRd L = oLd L by simp only [oLd, oRd]; omega)]
  exact ⟨(upd_ne _ (by decide)).trans h.1, upd_same _ _ _, (upd_ne _ (by decide)).trans h.2.2.1, (upd_ne _ (by decide)).trans h.2.2.2.1, h.2.2.2.2⟩
theorem pinch_y {t : Mem} {L : Fin 3} {S : Ld} {p q : Nat} {x : Int32} (h : isLd t L S) (ok : okLd S) (hp : p < Sc S) (hq : q < Sc S) (hm : mayS S p q x.toInt) : ∃ t', f_X1_pinch L (nI p) (nI q) x t = some ((), t') ∧ isLd t' L (setW (setF S (Sf S - costN S p q x.toInt.natAbs)) p q ((Sw S p q : Int) + x.toInt).toNat) ∧ Fr t t' [oLd L, oRd L] := by
  have hc := ok.1
  have hw := ok.2.2.2.2.2.1 p q
  obtain ⟨m1, m2, m3, m4, m5, m6, m7⟩ := hm
  have hpq : ¬ p = q := by
    intro e
    subst e
    exact m1 (ok.2.2.2.2.2.2.2.1 p)
  obtain ⟨f1, f2⟩ := h.setF (f := Sf S - costN S p q x.toInt.natAbs)
  obtain ⟨t', l1, l2, l3⟩ := lay_y (n := ((Sw S p q : Int) + x.toInt).toNat) f1 hc hp hq hpq
  refine ⟨t', ?_, l2, (f2.mono (by simp)).trans (l3.mono (by simp))⟩
  unfold f_X1_pinch
  have ea := add_toInt (w := Sw S p q) (x := x) (by omega) (by omega) (by omega)
  have en : nI (Sw S p q) + x = nI ((Sw S p q : Int) + x.toInt).toNat := by
    rw [i_eq, ea, nI_toInt (by omega)]
    omega
  rw [abs_nI m3 m4, bnp_s, cost_y h ok hp hq (by omega), bnd_s, h.2.1, nI_sub m7, ltm_s, btw_y f1 hc hp hq, bnd_s]
  show bnd (f_X1_lay L (nI p) (nI q) (nI (Sw S p q) + x) _) _ = _
  rw [en, l1, bnd_s]
