/-! layer 2: all calls, and the start -/
def S_0 : Ld := (0, fun _ => 0, fun _ => 0, fun _ _ => 0, 0, 0, 1)
theorem hold_0 : ∀ K : Fin 8, hold0 K.val = -1 := by decide +kernel
theorem rel_0 : Rel tI uI0 := by
  refine ⟨S_0, ⟨rfl, rfl, rfl, rfl, fun _ _ => rfl, fun _ _ => rfl, fun _ _ _ _ => rfl⟩, ⟨rfl, rfl, rfl, rfl, fun _ _ => rfl, fun _ _ => rfl, fun _ _ _ _ => rfl⟩, ⟨by decide, by decide, by decide, fun _ => Nat.zero_le _, fun _ => Nat.zero_le _, fun _ _ => Nat.zero_le _, fun _ _ => rfl, fun _ => rfl, fun _ _ h => absurd rfl h⟩, fun K hK => .inl ⟨?_, ?_, ?_⟩, .inl ⟨rfl, rfl⟩, fun _ _ => rfl, rfl, rfl, fun j _ h => ?_⟩
  · have : ∀ K : Fin 8, tI.1 (18 + K.val) 2 = -1 := by decide +kernel
    exact this ⟨K, hK⟩
  · have : ∀ K : Fin 8, tI.1 (18 + K.val) 3 = -1 := by decide +kernel
    exact this ⟨K, hK⟩
  · exact hold_0 ⟨K, hK⟩
  · have e : tI.1 37 1 = nI 0 := rfl
    rw [e, nI_lt' (by omega) (by omega)] at h
    omega
theorem step_all : ∃ (Rl : Mem → Mem → Prop) (n : Nat), StpAll Rl n ∧ Rl tI uI0 := by
  obtain ⟨N, hN⟩ : ∃ N : Nat, N = 20000 := ⟨_, rfl⟩
  refine ⟨Rel, N, ?_, rel_0⟩
  have a1 : 8 < N := by omega
  have a2 : 64 < N := by omega
  have a3 : 160 < N := by omega
  have a4 : 999 < N := by omega
  have a5 : 10010 < N := by omega
  have a6 : 1000 < N := by omega
  have a7 : 100 < N := by omega
  have a8 : 60 < N := by omega
  have a9 : 5 ≤ N := by omega
  exact ⟨stp0 a3, stp1, stp2 a3, stp3, stp4, stp5, stp6 a1, stp7 a1, stp8 a1, stp9, stp10, stp11, stp12 a6, stp13, stp14, stp15 a9, stp16 a1, stp17 a1, stp18 a1, stp19 a1, stp20 a2, stp21 a2, stp22 a4, stp23 a1, stp24 a5, stp25 a1, stp26 a2, stp27 a2, stp28 a2, stp29 a2, stp30 a7, stp31 a9, stp32, stp33 a8, stp34, stp35, stp36, stp37 a2, stp38 a2, stp39 a2⟩
