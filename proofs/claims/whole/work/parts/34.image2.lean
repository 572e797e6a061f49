/-! layer 2: image -/
def gA (u : Mem) (o : Nat) : Nat → Mem
  | 0 => u
  | i + 1 => uI (uI (gA u o i) 43 i (u.1 o i)) 44 i (u.1 o (8 + i))
def gB (u : Mem) (o : Nat) : Nat → Mem
  | 0 => u
  | i + 1 => uI (gB u o i) 45 i (u.1 o (16 + i))
theorem gA_y (u : Mem) (o : Nat) : ∀ i, i ≤ 8 → Fr u (gA u o i) [43, 44] ∧ ∀ j, j < i → (gA u o i).1 43 j = u.1 o j ∧ (gA u o i).1 44 j = u.1 o (8 + j) := by
  intro i
  induction i with
  | zero => exact fun _ => ⟨Fr.rf _ _, fun j hj => absurd hj (Nat.not_lt_zero j)⟩
  | succ i ih =>
    intro hi
    obtain ⟨a, b⟩ := ih (by omega)
    refine ⟨(a.trans (Fr.uA _ _ (by simp))).trans (Fr.uA _ _ (by simp)), fun j hj => ?_⟩
    unfold gA uI
    rw [uA_ne (i := 43) (o := 44) _ (by decide), uA_same, uA_same, uA_ne (i := 44) (o := 43) _ (by decide)]
    by_cases e : j = i
    · rw [e, upd_same, upd_same]
      exact ⟨rfl, rfl⟩
    · rw [upd_ne _ e, upd_ne _ e]
      exact b j (by omega)
theorem gB_y (u : Mem) (o : Nat) : ∀ i, i ≤ 64 → Fr u (gB u o i) [45] ∧ ∀ j, j < i → (gB u o i).1 45 j = u.1 o (16 + j) := by
  intro i
  induction i with
  | zero => exact fun _ => ⟨Fr.rf _ _, fun j hj => absurd hj (Nat.not_lt_zero j)⟩
  | succ i ih =>
    intro hi
    obtain ⟨a, b⟩ := ih (by omega)
    refine ⟨a.trans (Fr.uA _ _ (by simp)), fun j hj => ?_⟩
    unfold gB uI
    rw [uA_same]
    by_cases e : j = i
    · rw [e, upd_same]
    · rw [upd_ne _ e, b j (by omega)]
theorem again_end (n : Nat) (B : Fin 2) (w : Mem) (self : Int32 × Mem → Option (Unit × Mem)) : bd_X6_again_37 n B self (nI 64, w) = some ((), uI (uI (uI (uI w 39 3 (w.1 (oKp B) 80)) 39 7 (w.1 (oKp B) 81)) 39 8 (w.1 (oKp B) 82)) 39 9 (w.1 (oKp B) 83)) := by
  have o39 : ¬ oKp B = 39 := by
    have := B.isLt
    simp only [oKp]
    omega
  have w1 : ∀ (w : Mem) (k : Nat) (x : Int32), (uI w 39 k x).1 (oKp B) = w.1 (oKp B) := fun w k x => by unfold uI; rw [uA_ne _ o39]
  unfold bd_X6_again_37
  dsimp only
  rw [if_pos (by decide), ck_t (by decide), ltm_s, ck_t (by decide), ltm_s, ck_t (by decide), ltm_s, ck_t (by decide), ltm_s]
  simp only [w1]
  rfl
