/-! layer 2: a land kept and taken again -/
theorem cpy0 {f g : Nat → Int32} {c k : Nat} (h : k < c) : va_cpy f g 0 0 c k = f k := by
  show (if 0 ≤ k ∧ k < 0 + c then f (0 + (k - 0)) else g k) = f k
  rw [if_pos (by omega), Nat.zero_add, Nat.sub_zero]
theorem become_y {t : Mem} {L M : Fin 3} {S : Ld} (h : isLd t M S) (hne : ¬ L = M) : ∃ t', f_X1_becomeAs L M t = some ((), t') ∧ isLd t' L S ∧ Fr t t' [oLd L, oKn L, oMk L, oRd L] := by
  have hL := L.isLt
  have hM := M.isLt
  have hv : ¬ L.val = M.val := fun e => hne (Fin.ext e)
  have z8 : (8 : Int32).toNatClampNeg = 8 := rfl
  have z64 : (64 : Int32).toNatClampNeg = 64 := rfl
  have z0 : (0 : Int32).toNatClampNeg = 0 := rfl
  refine ⟨_, rfl, ?_, ?_⟩
  · unfold isLd uI
    rw [z8, z64, z0]
    have m1 : ∀ o, o = oLd M ∨ o = oKn M ∨ o = oMk M ∨ o = oRd M → ¬ o = oLd L ∧ ¬ o = oKn L ∧ ¬ o = oMk L ∧ ¬ o = oRd L := by
      intro o ho
      simp only [oLd, oKn, oMk, oRd] at ho ⊢
      omega
    have n1 : ¬ oKn L = oLd L := by simp only [oLd, oKn]; omega
    have n2 : ¬ oMk L = oLd L := by simp only [oLd, oMk]; omega
    have n3 : ¬ oRd L = oLd L := by simp only [oLd, oRd]; omega
    have n4 : ¬ oKn L = oMk L := by simp only [oKn, oMk]; omega
    have n5 : ¬ oKn L = oRd L := by simp only [oKn, oRd]; omega
    have n6 : ¬ oMk L = oRd L := by simp only [oMk, oRd]; omega
    have a1 := m1 (oLd M) (.inl rfl)
    have a2 := m1 (oKn M) (.inr (.inl rfl))
    have a3 := m1 (oMk M) (.inr (.inr (.inl rfl)))
    have a4 := m1 (oRd M) (.inr (.inr (.inr rfl)))
    simp only [uA_same, uA_ne _ n1, uA_ne _ n2, uA_ne _ n3, uA_ne _ n4, uA_ne _ n5, uA_ne _ n6, uA_ne _ a1.1, uA_ne _ a1.2.1, uA_ne _ a1.2.2.1, uA_ne _ a1.2.2.2, uA_ne _ a2.1, uA_ne _ a2.2.1, uA_ne _ a2.2.2.1, uA_ne _ a2.2.2.2, uA_ne _ a3.1, uA_ne _ a3.2.1, uA_ne _ a3.2.2.1, uA_ne _ a3.2.2.2, uA_ne _ a4.1, uA_ne _ a4.2.1, uA_ne _ a4.2.2.1, uA_ne _ a4.2.2.2]
    refine ⟨?_, ?_, ?_, ?_, fun i hi => ?_, fun i hi => ?_, fun p q hp hq => ?_⟩
    · rw [upd_ne _ (by decide), upd_ne _ (by decide), upd_ne _ (by decide), upd_same]; exact h.1
    · rw [upd_ne _ (by decide), upd_ne _ (by decide), upd_same]; exact h.2.1
    · rw [upd_ne _ (by decide), upd_same]; exact h.2.2.1
    · rw [upd_same]; exact h.2.2.2.1
    · rw [cpy0 hi]; exact h.2.2.2.2.1 i hi
    · rw [cpy0 hi]; exact h.2.2.2.2.2.1 i hi
    · rw [cpy0 (by omega)]; exact h.2.2.2.2.2.2 p q hp hq
  · exact ((((((Fr.uA t _ (by simp)).trans (Fr.uA _ _ (by simp))).trans (Fr.uA _ _ (by simp))).trans (Fr.uA _ _ (by simp))).trans (Fr.uA _ _ (by simp))).trans (Fr.uA _ _ (by simp))).trans (Fr.uA _ _ (by simp))
def kepR (o : Nat) (u : Mem) (S : Ld) : Prop := (∀ i, i < 8 → u.1 o i = nI (Sk S i)) ∧ (∀ i, i < 8 → u.1 o (8 + i) = nI (Sm S i)) ∧ (∀ p q, p < 8 → q < 8 → u.1 o (16 + (8 * p + q)) = nI (Sw S p q)) ∧ u.1 o 80 = nI (Sc S) ∧ u.1 o 81 = nI (Sf S) ∧ u.1 o 82 = nI (Sd S) ∧ u.1 o 83 = Se S
theorem kep_old {u : Mem} {S : Ld} : kepR 48 u S ↔ oldR u S := Iff.rfl
def kA (u : Mem) (o : Nat) : Nat → Mem
  | 0 => u
  | i + 1 => uI (uI (kA u o i) o i (u.1 43 i)) o (8 + i) (u.1 44 i)
def kB (u : Mem) (o : Nat) : Nat → Mem
  | 0 => u
  | i + 1 => uI (kB u o i) o (16 + i) (u.1 45 i)
theorem kA_y (u : Mem) {o : Nat} (ho : o = 48 ∨ o = 49) : ∀ i, i ≤ 8 → Fr u (kA u o i) [o] ∧ ∀ j, j < i → (kA u o i).1 o j = u.1 43 j ∧ (kA u o i).1 o (8 + j) = u.1 44 j := by
  intro i
  induction i with
  | zero => exact fun _ => ⟨Fr.rf _ _, fun j hj => absurd hj (Nat.not_lt_zero j)⟩
  | succ i ih =>
    intro hi
    obtain ⟨a, b⟩ := ih (by omega)
    refine ⟨(a.trans (Fr.uA _ _ (by simp))).trans (Fr.uA _ _ (by simp)), fun j hj => ?_⟩
    unfold kA uI
    rw [uA_same, uA_same, upd_ne _ (show ¬ j = 8 + i by omega)]
    by_cases e : j = i
    · rw [e, upd_same, upd_same]
      exact ⟨rfl, rfl⟩
    · rw [upd_ne _ e, upd_ne _ (show ¬ 8 + j = 8 + i by omega), upd_ne _ (show ¬ 8 + j = i by omega)]
      exact b j (by omega)
theorem kB_y (u : Mem) {o : Nat} (ho : o = 48 ∨ o = 49) : ∀ i, i ≤ 64 → Fr u (kB u o i) [o] ∧ (∀ j, j < i → (kB u o i).1 o (16 + j) = u.1 45 j) ∧ ∀ j, j < 16 → (kB u o i).1 o j = u.1 o j := by
  intro i
  induction i with
  | zero => exact fun _ => ⟨Fr.rf _ _, fun j hj => absurd hj (Nat.not_lt_zero j), fun _ _ => rfl⟩
  | succ i ih =>
    intro hi
    obtain ⟨a, b, c⟩ := ih (by omega)
    refine ⟨a.trans (Fr.uA _ _ (by simp)), fun j hj => ?_, fun j hj => ?_⟩
    · unfold kB uI
      rw [uA_same]
      by_cases e : j = i
      · rw [e, upd_same]
      · rw [upd_ne _ (by omega), b j (by omega)]
    · unfold kB uI
      rw [uA_same, upd_ne _ (by omega), c j hj]
theorem keep_y {u : Mem} {S : Ld} {B : Fin 2} {n : Nat} (hn : 64 < n) (h : isMd u S) : ∃ u', f_X6_keep n B u = some ((), u') ∧ kepR (oKp B) u' S ∧ Fr u u' [oKp B] := by
  have ho : oKp B = 48 ∨ oKp B = 49 := by
    have := B.isLt
    simp only [oKp]
    omega
  generalize hO : oKp B = o at ho
  have hA := kA_y u ho
  have a8 := hA 8 (Nat.le_refl _)
  have o39 : ¬ 39 = o := by omega
  have o43 : ¬ 43 = o := by omega
  have o44 : ¬ 44 = o := by omega
  have o45 : ¬ 45 = o := by omega
  have hB := kB_y (kA u o 8) ho
  have b64 := hB 64 (Nat.le_refl _)
  have f39 : (kB (kA u o 8) o 64).1 39 = u.1 39 := (b64.1.1 39 (by simp [o39])).trans (a8.1.1 39 (by simp [o39]))
  refine ⟨uI (uI (uI (uI (kB (kA u o 8) o 64) o 80 (u.1 39 3)) o 81 (u.1 39 7)) o 82 (u.1 39 8)) o 83 (u.1 39 9), ?_, ?_, ?_⟩
  · unfold f_X6_keep
    refine iter_up0 8 (fun i => (nI i, kA u o i)) _ rfl (by omega) ?_ ?_
    · intro self i hi
      unfold bd_X6_keep_2
      dsimp only
      have f43 : (kA u o i).1 43 = u.1 43 := (hA i (by omega)).1.1 43 (by simp [o43])
      have f44 : (uI (kA u o i) o i (u.1 43 i)).1 44 = u.1 44 := by
        unfold uI; rw [uA_ne _ o44]; exact (hA i (by omega)).1.1 44 (by simp [o44])
      rw [if_neg (by rw [show (8 : Int32) = nI 8 from rfl, nI_le' (by omega) (by omega)]; omega), hO, show (8 : Int32) + nI i = nI (8 + i) from nI_add 8 i, ck_t (inb_nI (by omega) (by decide)), ck_t (inb_nI (by omega) (by decide)), nI_clamp (by omega), nI_clamp (by omega), f43, ltm_s, f44, ck_t (inb_nI (by omega) (by decide)), ck_t (inb_nI (by omega) (by decide)), ltm_s, nI_s]
      rfl
    · intro self
      unfold bd_X6_keep_2
      dsimp only
      rw [if_pos (by decide)]
      refine iter_up0 64 (fun i => (nI i, kB (kA u o 8) o i)) _ rfl (by omega) ?_ ?_
      · intro self i hi
        unfold bd_X6_keep_37
        dsimp only
        have f45 : (kB (kA u o 8) o i).1 45 = (kA u o 8).1 45 := (hB i (by omega)).1.1 45 (by simp [o45])
        rw [if_neg (by rw [show (64 : Int32) = nI 64 from rfl, nI_le' (by omega) (by omega)]; omega), hO, show (16 : Int32) + nI i = nI (16 + i) from nI_add 16 i, ck_t (inb_nI (by omega) (by decide)), ck_t (inb_nI (by omega) (by decide)), nI_clamp (by omega), nI_clamp (by omega), f45, ltm_s, nI_s]
        rfl
      · intro self
        unfold bd_X6_keep_37
        dsimp only
        have w1 : ∀ (w : Mem) (k : Nat) (x : Int32), (uI w o k x).1 39 = w.1 39 := fun w k x => by unfold uI; rw [uA_ne _ o39]
        rw [if_pos (by decide), hO, ck_t (by decide), ltm_s, ck_t (by decide), ltm_s, ck_t (by decide), ltm_s, ck_t (by decide), ltm_s]
        rw [w1, w1, w1, w1, w1, w1, f39]
        rfl
  · unfold kepR uI
    rw [uA_same, uA_same, uA_same, uA_same]
    refine ⟨fun i hi => ?_, fun i hi => ?_, fun p q hp hq => ?_, ?_, ?_, ?_, ?_⟩
    · rw [upd_ne _ (by omega), upd_ne _ (by omega), upd_ne _ (by omega), upd_ne _ (by omega), b64.2.2 i (by omega), (a8.2 i hi).1, h.2.2.2.2.1 i hi]
    · rw [upd_ne _ (by omega), upd_ne _ (by omega), upd_ne _ (by omega), upd_ne _ (by omega), b64.2.2 (8 + i) (by omega), (a8.2 i hi).2, h.2.2.2.2.2.1 i hi]
    · rw [upd_ne _ (by omega), upd_ne _ (by omega), upd_ne _ (by omega), upd_ne _ (by omega), b64.2.1 (8 * p + q) (by omega), a8.1.1 45 (by simp [o45]), h.2.2.2.2.2.2 p q hp hq]
    · rw [upd_ne _ (by decide), upd_ne _ (by decide), upd_ne _ (by decide), upd_same, h.1]
    · rw [upd_ne _ (by decide), upd_ne _ (by decide), upd_same, h.2.1]
    · rw [upd_ne _ (by decide), upd_same, h.2.2.1]
    · rw [upd_same, h.2.2.2.1]
  · exact ((((a8.1.trans b64.1).trans (Fr.uA _ _ (by simp))).trans (Fr.uA _ _ (by simp))).trans (Fr.uA _ _ (by simp))).trans (Fr.uA _ _ (by simp))
