/-! layer 2: gale -/
theorem max0 {a b : Nat} (ha : a < 2 ^ 30) (hb : b < 2 ^ 30) : f_J9_max_7cf53 0 (nI a - nI b) = some (nI (a - b)) := by
  by_cases h : b ≤ a
  · rw [nI_sub h]
    have := cost_max (a := 0) (b := a - b) (by omega) (by omega)
    rw [Nat.max_eq_right (Nat.zero_le _)] at this
    exact this
  · have e : (nI a - nI b).toInt = (a : Int) - b := by
      rw [Int32.toInt_sub, nI_toInt (by omega), nI_toInt (by omega), Int.bmod_eq_of_le (by omega) (by omega)]
    rw [show a - b = 0 by omega]
    unfold f_J9_max_7cf53
    rw [if_neg (by rw [i_lt, e]; show ¬ (0 : Int) < _; omega)]
    rfl
