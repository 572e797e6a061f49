/-! Land: what its methods answer, in numbers -/
theorem one_ne : ¬ (1 : Int32) = 0 := by decide
theorem nI_div {a b : Nat} (ha : a < 2 ^ 31) (hb : b < 2 ^ 31) : nI a / nI b = nI (a / b) := by
  apply Int32.toInt_inj.mp
  rw [Int32.toInt_div, nI_toInt ha, nI_toInt hb, nI_toInt (Nat.lt_of_le_of_lt (Nat.div_le_self _ _) ha)]
  have h1 : ((a : Int).tdiv (b : Int)) = ((a / b : Nat) : Int) := by rw [Int.tdiv_eq_ediv_of_nonneg (by omega)]; rfl
  rw [h1]
  have h2 : a / b ≤ a := Nat.div_le_self _ _
  generalize a / b = d at h2 ⊢
  exact Int.bmod_eq_of_le (by omega) (by omega)
theorem hasBoth_y {t : Mem} {L : Fin 3} {S : Ld} {p q : Nat} (h : isLd t L S) (hc : Sc S ≤ 8) (hp : p < Sc S) (hq : q < Sc S) : f_X1_hasBoth L (nI p) (nI q) t = some (1, t) := by
  unfold f_X1_hasBoth
  rw [h.1, if_neg (nI_pos (by omega)), if_neg (nI_ge hp (by omega)), if_neg (nI_pos (by omega)), if_neg (nI_ge hq (by omega))]
theorem hasBoth_n {t : Mem} {L : Fin 3} {S : Ld} {x1 x2 : Int32} (h : isLd t L S) (hc : Sc S ≤ 8) (hx : plc (Sc S) x1 = none ∨ plc (Sc S) x2 = none) : f_X1_hasBoth L x1 x2 t = some (0, t) := by
  unfold f_X1_hasBoth
  rw [h.1]
  rcases hx with hx | hx
  · rcases plc_none (by omega) hx with h1 | ⟨h1, h2⟩
    · rw [if_pos h1]
    · rw [if_neg h1, if_pos h2]
  · rcases plc_none (by omega) hx with h1 | ⟨h1, h2⟩
    · rw [if_pos h1]; split; rfl; split <;> rfl
    · rw [if_neg h1, if_pos h2]; split; rfl; split <;> rfl
theorem has_y {t : Mem} {L : Fin 3} {S : Ld} {p : Nat} (h : isLd t L S) (hc : Sc S ≤ 8) (hp : p < Sc S) : f_X1_has L (nI p) t = some (1, t) := by
  unfold f_X1_has
  rw [h.1, if_neg (nI_pos (by omega)), if_neg (nI_ge hp (by omega))]
theorem has_n {t : Mem} {L : Fin 3} {S : Ld} {x1 : Int32} (h : isLd t L S) (hc : Sc S ≤ 8) (hx : plc (Sc S) x1 = none) : f_X1_has L x1 t = some (0, t) := by
  unfold f_X1_has
  rw [h.1]
  rcases plc_none (by omega) hx with h1 | ⟨h1, h2⟩
  · rw [if_pos h1]
  · rw [if_neg h1, if_pos h2]
theorem btw_y {t : Mem} {L : Fin 3} {S : Ld} {p q : Nat} (h : isLd t L S) (hc : Sc S ≤ 8) (hp : p < Sc S) (hq : q < Sc S) : f_X1_between L (nI p) (nI q) t = some (nI (Sw S p q), t) := by
  unfold f_X1_between
  rw [h.1, if_neg (nI_pos (by omega)), if_neg (nI_ge hp (by omega)), if_neg (nI_pos (by omega)), if_neg (nI_ge hq (by omega)), ck_t (inb8 (by omega) (by omega)), clamp8 (by omega) (by omega), h.2.2.2.2.2.2 p q (by omega) (by omega)]
theorem btw_n {t : Mem} {L : Fin 3} {S : Ld} {x1 x2 : Int32} (h : isLd t L S) (hc : Sc S ≤ 8) (hx : plc (Sc S) x1 = none ∨ plc (Sc S) x2 = none) : f_X1_between L x1 x2 t = some (0, t) := by
  unfold f_X1_between
  rw [h.1]
  rcases hx with hx | hx
  · rcases plc_none (by omega) hx with h1 | ⟨h1, h2⟩
    · rw [if_pos h1]
    · rw [if_neg h1, if_pos h2]
  · rcases plc_none (by omega) hx with h1 | ⟨h1, h2⟩
    · rw [if_pos h1]; split; rfl; split <;> rfl
    · rw [if_neg h1, if_pos h2]; split; rfl; split <;> rfl
/-- a road of n miles laid, or none -/
def setW (S : Ld) (p q n : Nat) : Ld := (Sc S, Sk S, Sm S, fun i j => if (i = p ∧ j = q) ∨ (i = q ∧ j = p) then n else Sw S i j, Sf S, Sd S, Se S)
def setF (S : Ld) (f : Nat) : Ld := (Sc S, Sk S, Sm S, Sw S, f, Sd S, Se S)
def setD (S : Ld) (d : Nat) : Ld := (Sc S, Sk S, Sm S, Sw S, Sf S, d, Se S)
def setE (S : Ld) (e : Int32) : Ld := (Sc S, Sk S, Sm S, Sw S, Sf S, Sd S, e)
theorem uA_uA (t : Mem) (o : Nat) (f g : Nat → Int32) : uA (uA t o f) o g = uA t o g := by
  unfold uA
  congr 1
  funext i
  by_cases hi : i = o
  · rw [if_pos hi, if_pos hi]
  · rw [if_neg hi, if_neg hi]
    exact if_neg hi
theorem row2 {f : Nat → Int32} {w : Nat → Nat → Nat} {p q n : Nat} (hf : ∀ i j, i < 8 → j < 8 → f (8 * i + j) = nI (w i j)) (hp : p < 8) (hq : q < 8) : ∀ i j, i < 8 → j < 8 → upd (upd f (8 * p + q) (nI n)) (8 * q + p) (nI n) (8 * i + j) = nI (if (i = p ∧ j = q) ∨ (i = q ∧ j = p) then n else w i j) := by
  intro i j hi hj
  by_cases h1 : i = q ∧ j = p
  · rw [h1.1, h1.2, upd_same, if_pos (Or.inr ⟨rfl, rfl⟩)]
  · rw [upd_ne _ (show ¬ 8 * i + j = 8 * q + p by omega)]
    by_cases h2 : i = p ∧ j = q
    · rw [h2.1, h2.2, upd_same, if_pos (Or.inl ⟨rfl, rfl⟩)]
    · rw [upd_ne _ (show ¬ 8 * i + j = 8 * p + q by omega), if_neg (by omega)]
      exact hf i j hi hj
theorem lay_y {t : Mem} {L : Fin 3} {S : Ld} {p q n : Nat} (h : isLd t L S) (hc : Sc S ≤ 8) (hp : p < Sc S) (hq : q < Sc S) (hpq : ¬ p = q) : ∃ t', f_X1_lay L (nI p) (nI q) (nI n) t = some ((), t') ∧ isLd t' L (setW S p q n) ∧ Fr t t' [oRd L] := by
  refine ⟨uA t (oRd L) (upd (upd (t.1 (oRd L)) (8 * p + q) (nI n)) (8 * q + p) (nI n)), ?_, ?_, Fr.uA t _ (List.mem_singleton.mpr rfl)⟩
  · unfold f_X1_lay
    rw [hasBoth_y h hc hp hq, bnd_s, if_neg one_ne, if_neg (fun e => hpq ((nI_eq (by omega) (by omega)).mp e)), ck_t (inb8 (by omega) (by omega)), ltm_s, ck_t (inb8 (by omega) (by omega)), ltm_s, clamp8 (by omega) (by omega), clamp8 (by omega) (by omega)]
    unfold uI
    rw [uA_same, uA_uA]
  · have hn : ∀ o, ¬ o = oRd L → (uA t (oRd L) (upd (upd (t.1 (oRd L)) (8 * p + q) (nI n)) (8 * q + p) (nI n))).1 o = t.1 o := fun o ho => uA_ne _ ho
    have hL := L.isLt
    unfold isLd
    rw [hn (oLd L) (by simp only [oLd, oRd]; omega), hn (oKn L) (by simp only [oKn, oRd]; omega), hn (oMk L) (by simp only [oMk, oRd]; omega), uA_same]
    exact ⟨h.1, h.2.1, h.2.2.1, h.2.2.2.1, h.2.2.2.2.1, h.2.2.2.2.2.1, row2 h.2.2.2.2.2.2 (by omega) (by omega)⟩
theorem okLd.setW {S : Ld} (h : okLd S) {p q n : Nat} (hp : p < Sc S) (hq : q < Sc S) (hpq : ¬ p = q) (hn : n ≤ 999) : okLd (setW S p q n) := by
  obtain ⟨h1, h2, h3, h4, h5, h6, h7, h8, h9⟩ := h
  refine ⟨h1, h2, h3, h4, h5, fun i j => ?_, fun i j => ?_, fun i => ?_, fun i j => ?_⟩
  · show (if (i = p ∧ j = q) ∨ (i = q ∧ j = p) then n else Sw S i j) ≤ 999
    split
    · exact hn
    · exact h6 i j
  · show (if (i = p ∧ j = q) ∨ (i = q ∧ j = p) then n else Sw S i j) = (if (j = p ∧ i = q) ∨ (j = q ∧ i = p) then n else Sw S j i)
    by_cases hc : (i = p ∧ j = q) ∨ (i = q ∧ j = p)
    · rw [if_pos hc, if_pos (by omega)]
    · rw [if_neg hc, if_neg (by omega)]
      exact h7 i j
  · show (if (i = p ∧ i = q) ∨ (i = q ∧ i = p) then n else Sw S i i) = 0
    rw [if_neg (by omega)]
    exact h8 i
  · show ¬ (if (i = p ∧ j = q) ∨ (i = q ∧ j = p) then n else Sw S i j) = 0 → i < Sc S ∧ j < Sc S
    by_cases hc : (i = p ∧ j = q) ∨ (i = q ∧ j = p)
    · intro _
      rcases hc with ⟨rfl, rfl⟩ | ⟨rfl, rfl⟩
      · exact ⟨hp, hq⟩
      · exact ⟨hq, hp⟩
    · rw [if_neg hc]
      exact h9 i j
/-! what a place asks -/
def asksN (k m n : Nat) : Nat := if k = 1 then 2 * n else if k = 2 then n + m else if k = 3 then 3 * n else if k = 4 then n - n / 10 else if k = 5 then 2 * n + m else if k = 6 then n - n / 10 - 1 else n
theorem nI_ne {a b : Nat} (ha : a < 2 ^ 31) (hb : b < 2 ^ 31) (h : ¬ a = b) : ¬ nI a = nI b := fun e => h ((nI_eq ha hb).mp e)
theorem nI_iteq {Rt : Type} {a b : Nat} (ha : a < 2 ^ 31) (hb : b < 2 ^ 31) (U V : Rt) : (if nI a = nI b then U else V) = if a = b then U else V := by
  by_cases h : a = b
  · rw [if_pos h, if_pos (by rw [h])]
  · rw [if_neg h, if_neg (nI_ne ha hb h)]
theorem asks_y {t : Mem} {L : Fin 3} {S : Ld} {p n : Nat} (h : isLd t L S) (ok : okLd S) (hp : p < Sc S) (hn : n ≤ 999) : f_X1_asks L (nI p) (nI n) t = some (nI (asksN (Sk S p) (Sm S p) n), t) := by
  have hc := ok.1
  have hm := ok.2.2.2.2.1 p
  have hk := ok.2.2.2.1 p
  have e10 : nI n - nI n / 10 = nI (n - n / 10) := by
    rw [show (10 : Int32) = nI 10 from rfl, nI_div (by omega) (by omega), nI_sub (Nat.div_le_self _ _)]
  unfold f_X1_asks
  rw [h.1, if_neg (nI_pos (by omega)), if_pos (nI_lt hp (by omega)), ck_t (inb_nI (by omega) (by decide)), lti_s, nI_clamp (by omega), h.2.2.2.2.1 p (by omega)]
  rw [show (1 : Int32) = nI 1 from rfl, show (2 : Int32) = nI 2 from rfl, show (3 : Int32) = nI 3 from rfl, show (4 : Int32) = nI 4 from rfl, show (5 : Int32) = nI 5 from rfl, show (6 : Int32) = nI 6 from rfl]
  rw [nI_iteq (by omega) (by omega), nI_iteq (by omega) (by omega), nI_iteq (by omega) (by omega), nI_iteq (by omega) (by omega), nI_iteq (by omega) (by omega), nI_iteq (by omega) (by omega)]
  unfold asksN
  rw [ck_t (inb_nI (by omega) (by decide)), ck_t (inb_nI (by omega) (by decide)), e10, nI_mul, nI_mul, h.2.2.2.2.2.1 p (by omega), nI_add, nI_add]
  split; rfl
  split; rfl
  split; rfl
  split; rfl
  split; rfl
  split
  · by_cases h1 : 1 ≤ n - n / 10
    · rw [if_pos (nI_le h1 (by omega)), nI_sub h1]
    · rw [if_neg (nI_ge (by omega) (by omega)), show n - n / 10 - 1 = 0 by omega]
      rfl
  · rfl
theorem cost_max {a b : Nat} (ha : a < 2 ^ 31) (hb : b < 2 ^ 31) : f_J9_max_7cf53 (nI a) (nI b) = some (nI (max a b)) := by
  unfold f_J9_max_7cf53
  by_cases h : a < b
  · rw [if_pos (nI_lt h hb), Nat.max_def, if_pos (by omega)]
  · rw [if_neg (nI_nlt (by omega) ha), Nat.max_def]
    by_cases h2 : a ≤ b
    · rw [if_pos h2, show a = b by omega]
    · rw [if_neg h2]
theorem min_nI {a b : Nat} (ha : a < 2 ^ 31) (hb : b < 2 ^ 31) : f_J9_min_7cf53 (nI a) (nI b) = some (nI (min a b)) := by
  unfold f_J9_min_7cf53
  by_cases h : b < a
  · rw [if_pos (nI_lt h ha), Nat.min_def, if_neg (by omega)]
  · rw [if_neg (nI_nlt (by omega) hb), Nat.min_def, if_pos (by omega)]
def costN (S : Ld) (p q n : Nat) : Nat := max (asksN (Sk S p) (Sm S p) n) (asksN (Sk S q) (Sm S q) n)
theorem asksN_le {k m n : Nat} (hm : m ≤ 9) (hn : n ≤ 999) : asksN k m n ≤ 3000 := by
  unfold asksN
  repeat' split
  all_goals omega
theorem cost_y {t : Mem} {L : Fin 3} {S : Ld} {p q n : Nat} (h : isLd t L S) (ok : okLd S) (hp : p < Sc S) (hq : q < Sc S) (hn : n ≤ 999) : f_X1_costOf L (nI p) (nI q) (nI n) t = some (nI (costN S p q n), t) := by
  have a1 := asksN_le (k := Sk S p) (ok.2.2.2.2.1 p) hn
  have a2 := asksN_le (k := Sk S q) (ok.2.2.2.2.1 q) hn
  unfold f_X1_costOf
  rw [asks_y h ok hp hn, bnd_s, asks_y h ok hq hn, bnd_s, cost_max (by omega) (by omega), bnp_s]
  rfl
