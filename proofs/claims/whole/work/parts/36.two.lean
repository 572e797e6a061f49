/-! layer 2: two loops walked together -/
theorem iter_two {S1 S2 R1 R2 : Type} {b1 : (S1 → Option R1) → S1 → Option R1} {b2 : (S2 → Option R2) → S2 → Option R2} (c : Nat) (R : Nat → S1 → S2 → Prop) (P : Option R1 → Option R2 → Prop) (hstep : ∀ i s1 s2, i < c → R i s1 s2 → ∃ s1' s2', (∀ self, b1 self s1 = self s1') ∧ (∀ self, b2 self s2 = self s2') ∧ R (i + 1) s1' s2') (hexit : ∀ s1 s2, R c s1 s2 → ∃ r1 r2, (∀ self, b1 self s1 = r1) ∧ (∀ self, b2 self s2 = r2) ∧ P r1 r2) : ∀ (k i : Nat) (s1 : S1) (s2 : S2), i ≤ c → c - i < k → R i s1 s2 → ∃ r1 r2, iter b1 k s1 = r1 ∧ iter b2 k s2 = r2 ∧ P r1 r2 := by
  intro k
  induction k with
  | zero => intro i s1 s2 _ h; omega
  | succ k ih =>
    intro i s1 s2 hi hk hR
    by_cases e : i = c
    · subst e
      obtain ⟨r1, r2, h1, h2, h3⟩ := hexit s1 s2 hR
      exact ⟨r1, r2, h1 _, h2 _, h3⟩
    · obtain ⟨s1', s2', h1, h2, h3⟩ := hstep i s1 s2 (by omega) hR
      obtain ⟨r1, r2, g1, g2, g3⟩ := ih (i + 1) s1' s2' (by omega) (by omega) h3
      exact ⟨r1, r2, (h1 _).trans g1, (h2 _).trans g2, g3⟩
