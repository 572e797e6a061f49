/-! layer 2: restore -/
def shW (c : Nat) (i : Nat) (t u : Mem) : Prop := ∀ K, K < 8 → shR (if K < i then c else 8) t u K
theorem kepR_old {u u' : Mem} {S : Ld} (h : oldR u S) (e : u'.1 48 = u.1 48) : oldR u' S := by
  unfold oldR
  rw [e]
  exact h
/-- what stands while the shelves are gone through -/
def Rst (S : Ld) (i : Nat) (t u : Mem) : Prop := isLd t 0 S ∧ isMd u S ∧ okLd S ∧ shW (Sc S) i t u ∧ imR t u ∧ (∀ k, k < 8 → t.1 34 k = u.1 46 k) ∧ t.1 35 0 = u.1 39 10 ∧ t.1 37 1 = u.1 39 12 ∧ ∀ j, j < 20 → nI j < t.1 37 1 → t.1 38 j = u.1 47 j
theorem Rst.end {S : Ld} {t u : Mem} (h : Rst S 8 t u) : Rel t u := by
  obtain ⟨a, b, c, d, e⟩ := h
  refine ⟨S, a, b, c, fun K hK => ?_, e⟩
  have := d K hK
  rw [if_pos hK] at this
  exact this
theorem Rst.skip {S : Ld} {i : Nat} {t u : Mem} (h : Rst S i t u) (hs : shR (Sc S) t u i) : Rst S (i + 1) t u := by
  obtain ⟨a, b, c, d, e⟩ := h
  refine ⟨a, b, c, fun K hK => ?_, e⟩
  by_cases e1 : K = i
  · subst e1
    rw [if_pos (by omega)]
    exact hs
  · have := d K hK
    by_cases e2 : K < i
    · rw [if_pos e2] at this
      rw [if_pos (by omega)]
      exact this
    · rw [if_neg e2] at this
      rw [if_neg (by omega)]
      exact this
