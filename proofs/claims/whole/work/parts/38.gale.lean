/-! layer 2: gale -/
theorem max0 {a b : Nat} (ha : a < 2 ^ 30) (hb : b < 2 ^ 30) : f_J9_max_7cf53 0 (nI a - nI b) = some (nI (a - b)) := by
  by_cases h : b ≤ a
  · rw [nI_sub h]
    have := cost_max (a := 0) (b := a - b) (by omega) (by omega)
    rw [Nat.max_eq_right (Nat.zero_le _)] at this
    exact this
  · have e : (nI a - nI b).toInt = (a : Int) - b := by
      rw [Int32.toInt_sub, nI_toInt (by omega), nI_toInt (by omega), Int.bmod_eq_of_le (by omega) (by omega)]
    rw [show a - b = 0 by omega]
    unfold f_J9_max_7cf53
    rw [if_neg (by rw [i_lt, e]; show ¬ (0 : Int) < _; omega)]
    rfl
def frU (u u' : Mem) : Prop := u'.2 = u.2 ∧ (∀ o, ¬ o ∈ [39, 43, 44, 45] → u'.1 o = u.1 o) ∧ ∀ j, ¬ j ∈ [3, 7, 8, 9] → u'.1 39 j = u.1 39 j
theorem frU.rf (u : Mem) : frU u u := ⟨rfl, fun _ _ => rfl, fun _ _ => rfl⟩
theorem frU.trans {u u1 u2 : Mem} (h : frU u u1) (g : frU u1 u2) : frU u u2 := ⟨g.1.trans h.1, fun o ho => (g.2.1 o ho).trans (h.2.1 o ho), fun j hj => (g.2.2 j hj).trans (h.2.2 j hj)⟩
theorem frU.i39 (u : Mem) {k : Nat} (x : Int32) (h : k ∈ [3, 7, 8, 9]) : frU u (uI u 39 k x) := ⟨rfl, fun o ho => uA_ne _ (fun e => ho (by rw [e]; decide)), fun j hj => m39 (fun e => hj (e ▸ h))⟩
theorem frU.fr {u u' : Mem} (h : Fr u u' [45]) : frU u u' := ⟨h.2, fun o ho => h.1 o (fun g => ho (by rw [List.mem_singleton.mp g]; decide)), fun j _ => congrFun (h.1 39 (by decide)) j⟩
theorem Oth.u {c : Nat} {t u t' u' : Mem} {l : List Nat} (h : Oth c t u) (h1 : Fr t t' l) (h3 : ∀ o, o ∈ keptT → ¬ o ∈ l) (h2 : frU u u') : Oth c t' u' :=
  h.fr (fun o ho => h1.1 o (h3 o ho)) h1.2 (fun o ho => h2.2.1 o (by revert o; decide)) h2.1 (h2.2.2 _ (by decide)) (h2.2.2 _ (by decide)) (h2.2.2 _ (by decide))
theorem setE_c2 (S : Ld) (e f : Int32) : Sc (setE (setE S e) f) = Sc S := rfl
theorem setE_c (S : Ld) (e : Int32) : Sc (setE S e) = Sc S := rfl
theorem setE_w (S : Ld) (e : Int32) : Sw (setE S e) = Sw S := rfl
theorem setW_pq (S : Ld) (p q n : Nat) : Sw (setW S p q n) p q = n := if_pos (.inl ⟨rfl, rfl⟩)
theorem cE_l {t : Mem} {S : Ld} {e : Int32} (h : isLd t 0 (setE S e)) : t.1 (oLd 0) 3 = nI (Sc S) := h.1
theorem cE_m {u : Mem} {S : Ld} {e : Int32} (h : isMd u (setE S e)) : u.1 39 3 = nI (Sc S) := h.1
