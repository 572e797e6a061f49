/-! layer 2: image -/
def gA (u : Mem) (o : Nat) : Nat → Mem
  | 0 => u
  | i + 1 => uI (uI (gA u o i) 43 i (u.1 o i)) 44 i (u.1 o (8 + i))
def gB (u : Mem) (o : Nat) : Nat → Mem
  | 0 => u
  | i + 1 => uI (gB u o i) 45 i (u.1 o (16 + i))
theorem gA_y (u : Mem) (o : Nat) : ∀ i, i ≤ 8 → Fr u (gA u o i) [43, 44] ∧ ∀ j, j < i → (gA u o i).1 43 j = u.1 o j ∧ (gA u o i).1 44 j = u.1 o (8 + j) := by
  intro i
  induction i with
  | zero => exact fun _ => ⟨Fr.rf _ _, fun j hj => absurd hj (Nat.not_lt_zero j)⟩
  | succ i ih =>
    intro hi
    obtain ⟨a, b⟩ := ih (by omega)
    refine ⟨(a.trans (Fr.uA _ _ (by simp))).trans (Fr.uA _ _ (by simp)), fun j hj => ?_⟩
    unfold gA uI
    rw [uA_ne (i := 43) (o := 44) _ (by decide), uA_same, uA_same, uA_ne (i := 44) (o := 43) _ (by decide)]
    by_cases e : j = i
    · rw [e, upd_same, upd_same]
      exact ⟨rfl, rfl⟩
    · rw [upd_ne _ e, upd_ne _ e]
      exact b j (by omega)
theorem gB_y (u : Mem) (o : Nat) : ∀ i, i ≤ 64 → Fr u (gB u o i) [45] ∧ ∀ j, j < i → (gB u o i).1 45 j = u.1 o (16 + j) := by
  intro i
  induction i with
  | zero => exact fun _ => ⟨Fr.rf _ _, fun j hj => absurd hj (Nat.not_lt_zero j)⟩
  | succ i ih =>
    intro hi
    obtain ⟨a, b⟩ := ih (by omega)
    refine ⟨a.trans (Fr.uA _ _ (by simp)), fun j hj => ?_⟩
    unfold gB uI
    rw [uA_same]
    by_cases e : j = i
    · rw [e, upd_same]
    · rw [upd_ne _ e, b j (by omega)]
theorem again_end (n : Nat) (B : Fin 2) (w : Mem) (self : Int32 × Mem → Option (Unit × Mem)) : bd_X6_again_37 n B self (nI 64, w) = some ((), uI (uI (uI (uI w 39 3 (w.1 (oKp B) 80)) 39 7 (w.1 (oKp B) 81)) 39 8 (w.1 (oKp B) 82)) 39 9 (w.1 (oKp B) 83)) := by
  have o39 : ¬ oKp B = 39 := by
    have := B.isLt
    simp only [oKp]
    omega
  have w1 : ∀ (w : Mem) (k : Nat) (x : Int32), (uI w 39 k x).1 (oKp B) = w.1 (oKp B) := fun w k x => by unfold uI; rw [uA_ne _ o39]
  unfold bd_X6_again_37
  dsimp only
  rw [if_pos (by decide), ck_t (by decide), ltm_s, ck_t (by decide), ltm_s, ck_t (by decide), ltm_s, ck_t (by decide), ltm_s]
  simp only [w1]
  rfl
theorem again_y {u : Mem} {S : Ld} {B : Fin 2} {n : Nat} (hn : 64 < n) (h : kepR (oKp B) u S) : ∃ u', f_X6_again n B u = some ((), u') ∧ isMd u' S ∧ u'.2 = u.2 ∧ (∀ o, ¬ o ∈ [39, 43, 44, 45] → u'.1 o = u.1 o) ∧ ∀ j, ¬ j ∈ [3, 7, 8, 9] → u'.1 39 j = u.1 39 j := by
  have ho : oKp B = 48 ∨ oKp B = 49 := by
    have := B.isLt
    simp only [oKp]
    omega
  generalize hO : oKp B = o at ho h
  have hA := gA_y u o
  have a8 := hA 8 (Nat.le_refl _)
  have o39 : ¬ o = 39 := by omega
  have o43 : ¬ o = 43 := by omega
  have o44 : ¬ o = 44 := by omega
  have o45 : ¬ o = 45 := by omega
  have hB := gB_y (gA u o 8) o
  have b64 := hB 64 (Nat.le_refl _)
  have fo : (gB (gA u o 8) o 64).1 o = u.1 o := (b64.1.1 o (by simp [o45])).trans (a8.1.1 o (by simp [o43, o44]))
  have f39 : (gB (gA u o 8) o 64).1 39 = u.1 39 := (b64.1.1 39 (by simp)).trans (a8.1.1 39 (by simp))
  refine ⟨uI (uI (uI (uI (gB (gA u o 8) o 64) 39 3 (u.1 o 80)) 39 7 (u.1 o 81)) 39 8 (u.1 o 82)) 39 9 (u.1 o 83), ?_, ?_, ?_, ?_, ?_⟩
  · unfold f_X6_again
    refine iter_up0 8 (fun i => (nI i, gA u o i)) _ rfl (by omega) ?_ ?_
    · intro self i hi
      unfold bd_X6_again_2
      dsimp only
      have f43 : (gA u o i).1 o = u.1 o := (hA i (by omega)).1.1 o (by simp [o43, o44])
      have f44 : (uI (gA u o i) 43 i (u.1 o i)).1 o = u.1 o := by
        unfold uI; rw [uA_ne _ o43]; exact f43
      rw [if_neg (by rw [show (8 : Int32) = nI 8 from rfl, nI_le' (by omega) (by omega)]; omega), hO, show (8 : Int32) + nI i = nI (8 + i) from nI_add 8 i, ck_t (inb_nI (by omega) (by decide)), ck_t (inb_nI (by omega) (by decide)), nI_clamp (by omega), nI_clamp (by omega), f43, ltm_s, f44, ck_t (inb_nI (by omega) (by decide)), ck_t (inb_nI (by omega) (by decide)), ltm_s, nI_s]
      rfl
    · intro self
      unfold bd_X6_again_2
      dsimp only
      rw [if_pos (by decide)]
      refine iter_up0 64 (fun i => (nI i, gB (gA u o 8) o i)) _ rfl (by omega) ?_ ?_
      · intro self i hi
        unfold bd_X6_again_37
        dsimp only
        have f45 : (gB (gA u o 8) o i).1 o = (gA u o 8).1 o := (hB i (by omega)).1.1 o (by simp [o45])
        rw [if_neg (by rw [show (64 : Int32) = nI 64 from rfl, nI_le' (by omega) (by omega)]; omega), hO, show (16 : Int32) + nI i = nI (16 + i) from nI_add 16 i, ck_t (inb_nI (by omega) (by decide)), ck_t (inb_nI (by omega) (by decide)), nI_clamp (by omega), nI_clamp (by omega), f45, ltm_s, nI_s]
        rfl
      · intro self
        show bd_X6_again_37 n B self (nI 64, gB (gA u o 8) o 64) = _
        rw [again_end, hO, fo]
  · unfold isMd uI
    rw [uA_same, uA_same, uA_same, uA_same]
    refine ⟨?_, ?_, ?_, ?_, fun i hi => ?_, fun i hi => ?_, fun p q hp hq => ?_⟩
    · rw [upd_ne _ (by decide), upd_ne _ (by decide), upd_ne _ (by decide), upd_same, h.2.2.2.1]
    · rw [upd_ne _ (by decide), upd_ne _ (by decide), upd_same, h.2.2.2.2.1]
    · rw [upd_ne _ (by decide), upd_same, h.2.2.2.2.2.1]
    · rw [upd_same, h.2.2.2.2.2.2]
    · rw [uA_ne _ (by decide), uA_ne _ (by decide), uA_ne _ (by decide), uA_ne _ (by decide), b64.1.1 43 (by simp), (a8.2 i hi).1, h.1 i hi]
    · rw [uA_ne _ (by decide), uA_ne _ (by decide), uA_ne _ (by decide), uA_ne _ (by decide), b64.1.1 44 (by simp), (a8.2 i hi).2, h.2.1 i hi]
    · rw [uA_ne _ (by decide), uA_ne _ (by decide), uA_ne _ (by decide), uA_ne _ (by decide), b64.2 (8 * p + q) (by omega), a8.1.1 o (by simp [o43, o44]), h.2.2.1 p q hp hq]
  · have u2 : ∀ (w : Mem) (a k : Nat) (x : Int32), (uI w a k x).2 = w.2 := fun _ _ _ _ => rfl
    rw [u2, u2, u2, u2, b64.1.2, a8.1.2]
  · intro j hj
    have hq : ¬ j = 39 ∧ ¬ j = 43 ∧ ¬ j = 44 ∧ ¬ j = 45 := by simpa using hj
    unfold uI
    rw [uA_ne _ hq.1, uA_ne _ hq.1, uA_ne _ hq.1, uA_ne _ hq.1, b64.1.1 j (by simp [hq.2.2.2]), a8.1.1 j (by simp [hq.2.1, hq.2.2.1])]
  · intro j hj
    have hq : ¬ j = 3 ∧ ¬ j = 7 ∧ ¬ j = 8 ∧ ¬ j = 9 := by simpa using hj
    rw [m39 hq.2.2.2, m39 hq.2.2.1, m39 hq.2.1, m39 hq.1, f39]
theorem isLd.rows' {t t' : Mem} {S : Ld} (h : isLd t 0 S) (h1 : ∀ o, ¬ o ∈ [0, 3, 6, 9, 12] → t'.1 o = t.1 o) : isLd t' 0 S := by
  unfold isLd
  rw [h1 (oLd 0) (by decide), h1 (oKn 0) (by decide), h1 (oMk 0) (by decide), h1 (oRd 0) (by decide)]
  exact h
theorem isMd.rowsB {u u' : Mem} {S : Ld} (h : isMd u S) (h1 : ∀ o, ¬ o ∈ [39, 48] → u'.1 o = u.1 o) (h2 : ∀ j, ¬ j = 14 → u'.1 39 j = u.1 39 j) : isMd u' S := by
  unfold isMd
  rw [h1 43 (by decide), h1 44 (by decide), h1 45 (by decide), h2 3 (by decide), h2 7 (by decide), h2 8 (by decide), h2 9 (by decide)]
  exact h
theorem stp37 {n : Nat} (hn : 64 < n) : Stp37 Rel n := fun t u h0 => by
  obtain ⟨S, hl, hm, ok, ho⟩ := id h0
  unfold f_X5_image f_X6_image
  obtain ⟨t1, a1, a2, a3⟩ := become_y (L := 2) (M := 0) hl (by decide)
  have hm1 : isMd (uI u 39 14 1) S := by
    unfold isMd uI
    rw [uA_same, uA_ne _ (by decide), uA_ne _ (by decide), uA_ne _ (by decide), upd_ne _ (by decide), upd_ne _ (by decide), upd_ne _ (by decide), upd_ne _ (by decide)]
    exact hm
  obtain ⟨u1, b1, b2, b3⟩ := keep_y (B := 0) hn hm1
  have c1 : ∀ j, ¬ j = 14 → u1.1 39 j = u.1 39 j := fun j hj => by rw [b3.1 39 (by decide), m39 hj]
  have c14 : u1.1 39 14 = 1 := by
    rw [b3.1 39 (by decide)]
    unfold uI
    rw [uA_same, upd_same]
  have c2 : ∀ o, ¬ o ∈ [39, 48] → u1.1 o = u.1 o := fun o hh => by
    rw [b3.1 o (by simp only [oKp]; simp_all)]
    unfold uI
    rw [uA_ne _ (by simp_all)]
  have d1 : ∀ o, ¬ o ∈ [0, 3, 6, 9, 12] → (uI t1 0 9 1).1 o = t.1 o := fun o hh => by
    unfold uI
    rw [uA_ne _ (by simp_all), a3.1 o (by simp only [oLd, oKn, oMk, oRd]; simp_all)]
  have hl1 : isLd t1 0 S := hl.fr a3 (by decide) (by decide) (by decide) (by decide)
  rw [a1, bnd_s, ltm_s, ltm_s, b1, bnd_s, c1 3 (by decide), hm.1, show (uI t1 0 9 1).1 (oLd 0) 3 = nI (Sc S) by unfold uI; rw [uA_ne _ (by decide)]; exact hl1.1]
  refine ⟨_, _, _, rfl, rfl, S, ?_, ?_, ok, ?_, ?_, ?_⟩
  · exact hl.rows' d1
  · exact hm.rowsB c2 c1
  · exact fun K hK => (ho.1 K hK).fr (d1 _ (by revert K hK; decide)) a3.2 (c2 40 (by decide)) (c2 41 (by decide)) b3.2
  · refine .inr ⟨?_, c14, S, ?_, b2, ok⟩
    · unfold uI; rw [uA_same, upd_same]
    · have hF : Fr t1 (uI t1 0 9 1) [0] := Fr.uA t1 _ (by simp)
      exact a2.fr hF (by decide) (by decide) (by decide) (by decide)
  · rw [d1 34 (by decide), d1 35 (by decide), d1 37 (by decide), d1 38 (by decide), c2 46 (by decide), c2 47 (by decide), c1 10 (by decide), c1 12 (by decide)]
    exact ho.2.2
