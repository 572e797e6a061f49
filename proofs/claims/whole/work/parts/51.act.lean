/-! layer 2: acts (printed by wip/whole/gen/act.py) -/
def tT (t : Mem) (K M A : Int32) (l : List Int32) : Prop := t.1 37 1 = nI l.length ∧ t.1 37 2 = K ∧ t.1 37 3 = M ∧ t.1 37 4 = A ∧ ∀ j, j < l.length → t.1 38 j = l.getD j 0
def tU (u : Mem) (l : List Int32) : Prop := u.1 39 12 = nI l.length ∧ ∀ j, j < l.length → u.1 47 j = l.getD j 0
theorem getD_end (l : List Int32) (b : Int32) (j : Nat) : (l ++ [b]).getD j 0 = if j < l.length then l.getD j 0 else if j = l.length then b else 0 := by
  by_cases h : j < l.length
  · rw [if_pos h]
    simp [List.getD, List.getElem?_append, h]
  · rw [if_neg h]
    by_cases e : j = l.length
    · rw [if_pos e]
      simp [List.getD, List.getElem?_append, e]
    · rw [if_neg e]
      simp [List.getD, List.getElem?_append, h]
      rw [List.getElem?_eq_none (by simp; omega)]
      rfl
theorem len_end (l : List Int32) (b : Int32) : (l ++ [b]).length = l.length + 1 := by simp
theorem n20 {i : Nat} (h : i < 20) : ¬ (20 : Int32) ≤ nI i := by
  rw [show (20 : Int32) = nI 20 from rfl, nI_le' (by omega) (by omega)]; omega
theorem note_b {t : Mem} {K M A b : Int32} {l : List Int32} (h : tT t K M A l) (hl : l.length < 20) : ∃ t', f_X0_noteBody b t = some ((), t') ∧ tT t' K M A (l ++ [b]) ∧ Fr t t' [37, 38] := by
  obtain ⟨h1, h2, h3, h4, h5⟩ := h
  have e4 : (uI t 38 l.length b).1 37 1 = nI l.length := by
    unfold uI
    rw [uA_ne _ (show ¬ 37 = 38 by decide)]; exact h1
  refine ⟨uI (uI t 38 l.length b) 37 1 (nI (l.length + 1)), ?_, ?_, (Fr.uI t _ _ (by decide)).trans (Fr.uI _ _ _ (by decide))⟩
  · unfold f_X0_noteBody
    rw [h1, if_neg (n20 hl), ck_t (inb_nI hl (by decide)), nI_clamp (by omega), ltm_s, e4, nI_s, ltm_s]
  · have k : ∀ i, ¬ i = 1 → (uI (uI t 38 l.length b) 37 1 (nI (l.length + 1))).1 37 i = t.1 37 i := by
      intro i hi
      rw [uI_same, upd_ne _ hi]
      unfold uI
      rw [uA_ne _ (show ¬ 37 = 38 by decide)]
    refine ⟨?_, (k 2 (by decide)).trans h2, (k 3 (by decide)).trans h3, (k 4 (by decide)).trans h4, fun j hj => ?_⟩
    · rw [uI_same, upd_same, len_end]
    · rw [len_end] at hj
      rw [getD_end]
      show (uA (uI t 38 l.length b) 37 _).1 38 j = _
      rw [uA_ne _ (show ¬ 38 = 37 by decide), uI_same]
      by_cases e : j = l.length
      · rw [e, upd_same, if_neg (by omega), if_pos rfl]
      · rw [upd_ne _ e, if_pos (by omega)]; exact h5 j (by omega)
def frT (u u' : Mem) : Prop := u'.2 = u.2 ∧ (∀ o, ¬ o ∈ [39, 47] → u'.1 o = u.1 o) ∧ ∀ j, ¬ j = 12 → u'.1 39 j = u.1 39 j
theorem frT.trans {u u1 u2 : Mem} (h : frT u u1) (g : frT u1 u2) : frT u u2 := ⟨g.1.trans h.1, fun o ho => (g.2.1 o ho).trans (h.2.1 o ho), fun j hj => (g.2.2 j hj).trans (h.2.2 j hj)⟩
theorem mran_y {u : Mem} {b : Int32} {l : List Int32} (h : tU u l) (hl : l.length < 20) : ∃ u', f_X6_ran b u = some ((), u') ∧ tU u' (l ++ [b]) ∧ frT u u' := by
  obtain ⟨h1, h5⟩ := h
  have e4 : (uI u 47 l.length b).1 39 12 = nI l.length := by
    unfold uI
    rw [uA_ne _ (show ¬ 39 = 47 by decide)]; exact h1
  refine ⟨uI (uI u 47 l.length b) 39 12 (nI (l.length + 1)), ?_, ⟨?_, fun j hj => ?_⟩, rfl, fun o ho => ?_, fun j hj => ?_⟩
  · unfold f_X6_ran
    rw [h1, if_neg (n20 hl), ck_t (inb_nI hl (by decide)), nI_clamp (by omega), ltm_s, e4, nI_s, ltm_s]
  · rw [uI_same, upd_same, len_end]
  · rw [len_end] at hj
    rw [getD_end]
    show (uA (uI u 47 l.length b) 39 _).1 47 j = _
    rw [uA_ne _ (show ¬ 47 = 39 by decide), uI_same]
    by_cases e : j = l.length
    · rw [e, upd_same, if_neg (by omega), if_pos rfl]
    · rw [upd_ne _ e, if_pos (by omega)]; exact h5 j (by omega)
  · unfold uI
    rw [uA_ne _ (show ¬ o = 39 from fun e => ho (by rw [e]; decide)), uA_ne _ (show ¬ o = 47 from fun e => ho (by rw [e]; decide))]
  · rw [uI_same, upd_ne _ hj]
    unfold uI
    rw [uA_ne _ (show ¬ 39 = 47 by decide)]
def rnS (k : Nat) (fr ac K M A : Int32) (f : Int32 → Int32) (bs : List Int32) : Prop := ∀ (t : Mem) (l : List Int32) (x : Int32) (d : Nat), d + k ≤ 30 → l.length + bs.length ≤ 20 → tT t K M A l → ∃ t', f_X0_run k fr ac x (nI d) t = some (f x, t') ∧ tT t' K M A (l ++ bs) ∧ Fr t t' [37, 38]
theorem le40 {d : Nat} (h : d ≤ 30) : nI d ≤ (40 : Int32) := by
  rw [show (40 : Int32) = nI 40 from rfl, nI_le' (by omega) (by omega)]; omega
theorem app_c (l bs : List Int32) (b : Int32) : (l ++ [b]) ++ bs = l ++ (b :: bs) := by simp
theorem ka_10 : f_X5_kindAbove (((10 : Int32) / 10) - 1) = some (-1) := by decide +kernel
theorem ka_11 : f_X5_kindAbove (((11 : Int32) / 10) - 1) = some (-1) := by decide +kernel
theorem ka_12 : f_X5_kindAbove (((12 : Int32) / 10) - 1) = some (-1) := by decide +kernel
theorem rn_10 {k : Nat} {fr ac K M A : Int32} (hb : f_X0_bodyFrom 12 fr ac = some 10) : rnS (k + 1) fr ac K M A (fun x => x + M) [10] := by
  intro t l x d hd hl hT
  have hl' : l.length + 1 ≤ 20 := hl
  obtain ⟨t4, a1, a2, a3⟩ := note_b (b := 10) hT (by omega)
  refine ⟨t4, ?_, a2, a3⟩
  simp only [f_X0_run]
  rw [hb, bnp_s, if_neg (by decide), if_pos (le40 (by omega)), a1, bnd_s, ka_10, bnp_s, if_pos rfl, a2.2.2.1]
theorem rn_11 {k : Nat} {fr ac K M A : Int32} {f : Int32 → Int32} {bs : List Int32} (hb : f_X0_bodyFrom 12 fr ac = some 11) (hr : rnS k K 0 K M A f bs) : rnS (k + 1) fr ac K M A (fun x => f x * 2) (11 :: bs) := by
  intro t l x d hd hl hT
  rw [List.length_cons] at hl
  obtain ⟨t4, a1, a2, a3⟩ := note_b (b := 11) hT (by omega)
  obtain ⟨t5, b1, b2, b3⟩ := hr t4 (l ++ [11]) x (d + 1) (by omega) (by rw [len_end]; omega) a2
  refine ⟨t5, ?_, by rw [app_c] at b2; exact b2, a3.trans b3⟩
  simp only [f_X0_run]
  rw [hb, bnp_s, if_neg (by decide), if_pos (le40 (by omega)), a1, bnd_s, ka_11, bnp_s, if_neg (by decide), if_pos rfl, a2.2.1, nI_s, b1, bnd_s]
theorem rn_12 {k : Nat} {fr ac K M A : Int32} {f g : Int32 → Int32} {bs cs : List Int32} (hb : f_X0_bodyFrom 12 fr ac = some 12) (hr : rnS k K 1 K M A f bs) (hq : rnS k K 0 K M A g cs) : rnS (k + 1) fr ac K M A (fun x => f x ^^^ g (x - A)) (12 :: (bs ++ cs)) := by
  intro t l x d hd hl hT
  rw [List.length_cons] at hl
  obtain ⟨t4, a1, a2, a3⟩ := note_b (b := 12) hT (by omega)
  rw [List.length_append] at hl
  obtain ⟨t5, b1, b2, b3⟩ := hr t4 (l ++ [12]) x (d + 1) (by omega) (by rw [len_end]; omega) a2
  rw [app_c] at b2
  obtain ⟨t6, c1, c2, c3⟩ := hq t5 (l ++ (12 :: bs)) (x - A) (d + 1) (by omega) (by rw [List.length_append, List.length_cons]; omega) b2
  refine ⟨t6, ?_, by rw [List.append_assoc] at c2; exact c2, (a3.trans b3).trans c3⟩
  simp only [f_X0_run]
  rw [hb, bnp_s, if_neg (by decide), if_pos (le40 (by omega)), a1, bnd_s, ka_12, bnp_s, if_neg (by decide), if_neg (by decide), if_pos rfl, a2.2.1, nI_s, b1, bnd_s, b2.2.1, b2.2.2.2.1, c1, bnd_s]
theorem rn_20 {k : Nat} {fr ac K M A y : Int32} {f : Int32 → Int32} {bs : List Int32} (hb : f_X0_bodyFrom 12 fr ac = some 20) (hy : f_X5_kindAbove (((20 : Int32) / 10) - 1) = some y) (hr : rnS k y 0 K M A f bs) : rnS (k + 1) fr ac K M A (fun x => f x + A) (20 :: bs) := by
  intro t l x d hd hl hT
  rw [List.length_cons] at hl
  obtain ⟨t4, a1, a2, a3⟩ := note_b (b := 20) hT (by omega)
  obtain ⟨t5, b1, b2, b3⟩ := hr t4 (l ++ [20]) x (d + 1) (by omega) (by rw [len_end]; omega) a2
  refine ⟨t5, ?_, by rw [app_c] at b2; exact b2, a3.trans b3⟩
  simp only [f_X0_run]
  rw [hb, bnp_s, if_neg (by decide), if_pos (le40 (by omega)), a1, bnd_s, hy, bnp_s, if_neg (by decide), if_neg (by decide), if_neg (by decide), if_pos rfl, nI_s, b1, bnd_s, b2.2.2.2.1]
theorem rn_30 {k : Nat} {fr ac K M A y : Int32} {f : Int32 → Int32} {bs : List Int32} (hb : f_X0_bodyFrom 12 fr ac = some 30) (hy : f_X5_kindAbove (((30 : Int32) / 10) - 1) = some y) (hr : rnS k y 1 K M A f bs) : rnS (k + 1) fr ac K M A (fun x => f x * 3) (30 :: bs) := by
  intro t l x d hd hl hT
  rw [List.length_cons] at hl
  obtain ⟨t4, a1, a2, a3⟩ := note_b (b := 30) hT (by omega)
  obtain ⟨t5, b1, b2, b3⟩ := hr t4 (l ++ [30]) x (d + 1) (by omega) (by rw [len_end]; omega) a2
  refine ⟨t5, ?_, by rw [app_c] at b2; exact b2, a3.trans b3⟩
  simp only [f_X0_run]
  rw [hb, bnp_s, if_neg (by decide), if_pos (le40 (by omega)), a1, bnd_s, hy, bnp_s, if_neg (by decide), if_neg (by decide), if_neg (by decide), if_neg (by decide), if_pos rfl, nI_s, b1, bnd_s]
theorem rn_40 {k : Nat} {fr ac K M A y : Int32} {f : Int32 → Int32} {bs : List Int32} (hb : f_X0_bodyFrom 12 fr ac = some 40) (hy : f_X5_kindAbove (((40 : Int32) / 10) - 1) = some y) (hr : rnS k y 1 K M A f bs) : rnS (k + 1) fr ac K M A (fun x => f (x + 1)) (40 :: bs) := by
  intro t l x d hd hl hT
  rw [List.length_cons] at hl
  obtain ⟨t4, a1, a2, a3⟩ := note_b (b := 40) hT (by omega)
  obtain ⟨t5, b1, b2, b3⟩ := hr t4 (l ++ [40]) (x + 1) (d + 1) (by omega) (by rw [len_end]; omega) a2
  refine ⟨t5, ?_, by rw [app_c] at b2; exact b2, a3.trans b3⟩
  simp only [f_X0_run]
  rw [hb, bnp_s, if_neg (by decide), if_pos (le40 (by omega)), a1, bnd_s, hy, bnp_s, if_neg (by decide), if_neg (by decide), if_neg (by decide), if_neg (by decide), if_neg (by decide), if_pos rfl, nI_s, b1, bnd_s]
theorem rn_50 {k : Nat} {fr ac K M A y : Int32} {f : Int32 → Int32} {bs : List Int32} (hb : f_X0_bodyFrom 12 fr ac = some 50) (hy : f_X5_kindAbove (((50 : Int32) / 10) - 1) = some y) (hr : rnS k y 2 K M A f bs) : rnS (k + 1) fr ac K M A (fun x => -(f x)) (50 :: bs) := by
  intro t l x d hd hl hT
  rw [List.length_cons] at hl
  obtain ⟨t4, a1, a2, a3⟩ := note_b (b := 50) hT (by omega)
  obtain ⟨t5, b1, b2, b3⟩ := hr t4 (l ++ [50]) x (d + 1) (by omega) (by rw [len_end]; omega) a2
  refine ⟨t5, ?_, by rw [app_c] at b2; exact b2, a3.trans b3⟩
  simp only [f_X0_run]
  rw [hb, bnp_s, if_neg (by decide), if_pos (le40 (by omega)), a1, bnd_s, hy, bnp_s, if_neg (by decide), if_neg (by decide), if_neg (by decide), if_neg (by decide), if_neg (by decide), if_neg (by decide), if_pos rfl, nI_s, b1, bnd_s]
theorem rn_51 {k : Nat} {fr ac K M A y : Int32} {f : Int32 → Int32} {bs : List Int32} (hb : f_X0_bodyFrom 12 fr ac = some 51) (hy : f_X5_kindAbove (((51 : Int32) / 10) - 1) = some y) (hr : rnS k y 0 K M A f bs) : rnS (k + 1) fr ac K M A (fun x => f x - M) (51 :: bs) := by
  intro t l x d hd hl hT
  rw [List.length_cons] at hl
  obtain ⟨t4, a1, a2, a3⟩ := note_b (b := 51) hT (by omega)
  obtain ⟨t5, b1, b2, b3⟩ := hr t4 (l ++ [51]) x (d + 1) (by omega) (by rw [len_end]; omega) a2
  refine ⟨t5, ?_, by rw [app_c] at b2; exact b2, a3.trans b3⟩
  simp only [f_X0_run]
  rw [hb, bnp_s, if_neg (by decide), if_pos (le40 (by omega)), a1, bnd_s, hy, bnp_s, if_neg (by decide), if_neg (by decide), if_neg (by decide), if_neg (by decide), if_neg (by decide), if_neg (by decide), if_neg (by decide), if_pos rfl, nI_s, b1, bnd_s, b2.2.2.1]
theorem rn_60 {k : Nat} {fr ac K M A y : Int32} {f : Int32 → Int32} {bs : List Int32} (hb : f_X0_bodyFrom 12 fr ac = some 60) (hy : f_X5_kindAbove (((60 : Int32) / 10) - 1) = some y) (hr : rnS k y 2 K M A f bs) : rnS (k + 1) fr ac K M A (fun x => f x ^^^ 5) (60 :: bs) := by
  intro t l x d hd hl hT
  rw [List.length_cons] at hl
  obtain ⟨t4, a1, a2, a3⟩ := note_b (b := 60) hT (by omega)
  obtain ⟨t5, b1, b2, b3⟩ := hr t4 (l ++ [60]) x (d + 1) (by omega) (by rw [len_end]; omega) a2
  refine ⟨t5, ?_, by rw [app_c] at b2; exact b2, a3.trans b3⟩
  simp only [f_X0_run]
  rw [hb, bnp_s, if_neg (by decide), if_pos (le40 (by omega)), a1, bnd_s, hy, bnp_s, if_neg (by decide), if_neg (by decide), if_neg (by decide), if_neg (by decide), if_neg (by decide), if_neg (by decide), if_neg (by decide), if_neg (by decide), if_pos rfl, nI_s, b1, bnd_s]
theorem rn_70 {k : Nat} {fr ac K M A y : Int32} {f : Int32 → Int32} {bs : List Int32} (hb : f_X0_bodyFrom 12 fr ac = some 70) (hy : f_X5_kindAbove (((70 : Int32) / 10) - 1) = some y) (hr : rnS k y 0 K M A f bs) : rnS (k + 1) fr ac K M A (fun x => f x * 2) (70 :: bs) := by
  intro t l x d hd hl hT
  rw [List.length_cons] at hl
  obtain ⟨t4, a1, a2, a3⟩ := note_b (b := 70) hT (by omega)
  obtain ⟨t5, b1, b2, b3⟩ := hr t4 (l ++ [70]) x (d + 1) (by omega) (by rw [len_end]; omega) a2
  refine ⟨t5, ?_, by rw [app_c] at b2; exact b2, a3.trans b3⟩
  simp only [f_X0_run]
  rw [hb, bnp_s, if_neg (by decide), if_pos (le40 (by omega)), a1, bnd_s, hy, bnp_s, if_neg (by decide), if_neg (by decide), if_neg (by decide), if_neg (by decide), if_neg (by decide), if_neg (by decide), if_neg (by decide), if_neg (by decide), if_neg (by decide), if_pos rfl, nI_s, b1, bnd_s]
theorem rn_71 {k : Nat} {fr ac K M A y : Int32} {f : Int32 → Int32} {bs : List Int32} (hb : f_X0_bodyFrom 12 fr ac = some 71) (hy : f_X5_kindAbove (((71 : Int32) / 10) - 1) = some y) (hr : rnS k y 1 K M A f bs) : rnS (k + 1) fr ac K M A (fun x => f (x - A)) (71 :: bs) := by
  intro t l x d hd hl hT
  rw [List.length_cons] at hl
  obtain ⟨t4, a1, a2, a3⟩ := note_b (b := 71) hT (by omega)
  obtain ⟨t5, b1, b2, b3⟩ := hr t4 (l ++ [71]) (x - A) (d + 1) (by omega) (by rw [len_end]; omega) a2
  refine ⟨t5, ?_, by rw [app_c] at b2; exact b2, a3.trans b3⟩
  simp only [f_X0_run]
  rw [hb, bnp_s, if_neg (by decide), if_pos (le40 (by omega)), a1, bnd_s, hy, bnp_s, if_neg (by decide), if_neg (by decide), if_neg (by decide), if_neg (by decide), if_neg (by decide), if_neg (by decide), if_neg (by decide), if_neg (by decide), if_neg (by decide), if_neg (by decide), a2.2.2.2.1, nI_s, b1, bnd_s]
theorem run_0_0 (M A : Int32) : rnS 12 0 0 0 M A (fun x => (x + M)) [10] := (rn_10 (show f_X0_bodyFrom 12 0 0 = some 10 by decide +kernel))
theorem run_0_1 (M A : Int32) : rnS 12 0 1 0 M A (fun x => ((x + M) * 2)) [11, 10] := (rn_11 (show f_X0_bodyFrom 12 0 1 = some 11 by decide +kernel) (rn_10 (show f_X0_bodyFrom 12 0 0 = some 10 by decide +kernel)))
theorem run_0_2 (M A : Int32) : rnS 12 0 2 0 M A (fun x => (((x + M) * 2) ^^^ ((x - A) + M))) [12, 11, 10, 10] := (rn_12 (show f_X0_bodyFrom 12 0 2 = some 12 by decide +kernel) (rn_11 (show f_X0_bodyFrom 12 0 1 = some 11 by decide +kernel) (rn_10 (show f_X0_bodyFrom 12 0 0 = some 10 by decide +kernel))) (rn_10 (show f_X0_bodyFrom 12 0 0 = some 10 by decide +kernel)))
theorem run_1_0 (M A : Int32) : rnS 12 1 0 1 M A (fun x => ((x + M) + A)) [20, 10] := (rn_20 (show f_X0_bodyFrom 12 1 0 = some 20 by decide +kernel) (show f_X5_kindAbove (((20 : Int32) / 10) - 1) = some 0 by decide +kernel) (rn_10 (show f_X0_bodyFrom 12 0 0 = some 10 by decide +kernel)))
theorem run_1_1 (M A : Int32) : rnS 12 1 1 1 M A (fun x => (((x + M) + A) * 2)) [11, 20, 10] := (rn_11 (show f_X0_bodyFrom 12 1 1 = some 11 by decide +kernel) (rn_20 (show f_X0_bodyFrom 12 1 0 = some 20 by decide +kernel) (show f_X5_kindAbove (((20 : Int32) / 10) - 1) = some 0 by decide +kernel) (rn_10 (show f_X0_bodyFrom 12 0 0 = some 10 by decide +kernel))))
theorem run_1_2 (M A : Int32) : rnS 12 1 2 1 M A (fun x => ((((x + M) + A) * 2) ^^^ (((x - A) + M) + A))) [12, 11, 20, 10, 20, 10] := (rn_12 (show f_X0_bodyFrom 12 1 2 = some 12 by decide +kernel) (rn_11 (show f_X0_bodyFrom 12 1 1 = some 11 by decide +kernel) (rn_20 (show f_X0_bodyFrom 12 1 0 = some 20 by decide +kernel) (show f_X5_kindAbove (((20 : Int32) / 10) - 1) = some 0 by decide +kernel) (rn_10 (show f_X0_bodyFrom 12 0 0 = some 10 by decide +kernel)))) (rn_20 (show f_X0_bodyFrom 12 1 0 = some 20 by decide +kernel) (show f_X5_kindAbove (((20 : Int32) / 10) - 1) = some 0 by decide +kernel) (rn_10 (show f_X0_bodyFrom 12 0 0 = some 10 by decide +kernel))))
theorem run_2_0 (M A : Int32) : rnS 12 2 0 2 M A (fun x => (x + M)) [10] := (rn_10 (show f_X0_bodyFrom 12 2 0 = some 10 by decide +kernel))
theorem run_2_1 (M A : Int32) : rnS 12 2 1 2 M A (fun x => (((x + M) * 2) * 3)) [30, 11, 10] := (rn_30 (show f_X0_bodyFrom 12 2 1 = some 30 by decide +kernel) (show f_X5_kindAbove (((30 : Int32) / 10) - 1) = some 0 by decide +kernel) (rn_11 (show f_X0_bodyFrom 12 0 1 = some 11 by decide +kernel) (rn_10 (show f_X0_bodyFrom 12 2 0 = some 10 by decide +kernel))))
theorem run_2_2 (M A : Int32) : rnS 12 2 2 2 M A (fun x => ((((x + M) * 2) * 3) ^^^ ((x - A) + M))) [12, 30, 11, 10, 10] := (rn_12 (show f_X0_bodyFrom 12 2 2 = some 12 by decide +kernel) (rn_30 (show f_X0_bodyFrom 12 2 1 = some 30 by decide +kernel) (show f_X5_kindAbove (((30 : Int32) / 10) - 1) = some 0 by decide +kernel) (rn_11 (show f_X0_bodyFrom 12 0 1 = some 11 by decide +kernel) (rn_10 (show f_X0_bodyFrom 12 2 0 = some 10 by decide +kernel)))) (rn_10 (show f_X0_bodyFrom 12 2 0 = some 10 by decide +kernel)))
theorem run_3_0 (M A : Int32) : rnS 12 3 0 3 M A (fun x => ((x + M) + A)) [20, 10] := (rn_20 (show f_X0_bodyFrom 12 3 0 = some 20 by decide +kernel) (show f_X5_kindAbove (((20 : Int32) / 10) - 1) = some 0 by decide +kernel) (rn_10 (show f_X0_bodyFrom 12 0 0 = some 10 by decide +kernel)))
theorem run_3_1 (M A : Int32) : rnS 12 3 1 3 M A (fun x => ((((x + 1) + M) + A) * 2)) [40, 11, 20, 10] := (rn_40 (show f_X0_bodyFrom 12 3 1 = some 40 by decide +kernel) (show f_X5_kindAbove (((40 : Int32) / 10) - 1) = some 1 by decide +kernel) (rn_11 (show f_X0_bodyFrom 12 1 1 = some 11 by decide +kernel) (rn_20 (show f_X0_bodyFrom 12 3 0 = some 20 by decide +kernel) (show f_X5_kindAbove (((20 : Int32) / 10) - 1) = some 0 by decide +kernel) (rn_10 (show f_X0_bodyFrom 12 0 0 = some 10 by decide +kernel)))))
theorem run_3_2 (M A : Int32) : rnS 12 3 2 3 M A (fun x => (((((x + 1) + M) + A) * 2) ^^^ (((x - A) + M) + A))) [12, 40, 11, 20, 10, 20, 10] := (rn_12 (show f_X0_bodyFrom 12 3 2 = some 12 by decide +kernel) (rn_40 (show f_X0_bodyFrom 12 3 1 = some 40 by decide +kernel) (show f_X5_kindAbove (((40 : Int32) / 10) - 1) = some 1 by decide +kernel) (rn_11 (show f_X0_bodyFrom 12 1 1 = some 11 by decide +kernel) (rn_20 (show f_X0_bodyFrom 12 3 0 = some 20 by decide +kernel) (show f_X5_kindAbove (((20 : Int32) / 10) - 1) = some 0 by decide +kernel) (rn_10 (show f_X0_bodyFrom 12 0 0 = some 10 by decide +kernel))))) (rn_20 (show f_X0_bodyFrom 12 3 0 = some 20 by decide +kernel) (show f_X5_kindAbove (((20 : Int32) / 10) - 1) = some 0 by decide +kernel) (rn_10 (show f_X0_bodyFrom 12 0 0 = some 10 by decide +kernel))))
theorem run_4_0 (M A : Int32) : rnS 12 4 0 4 M A (fun x => ((x + M) - M)) [51, 10] := (rn_51 (show f_X0_bodyFrom 12 4 0 = some 51 by decide +kernel) (show f_X5_kindAbove (((51 : Int32) / 10) - 1) = some 0 by decide +kernel) (rn_10 (show f_X0_bodyFrom 12 0 0 = some 10 by decide +kernel)))
theorem run_4_1 (M A : Int32) : rnS 12 4 1 4 M A (fun x => (((x + M) - M) * 2)) [11, 51, 10] := (rn_11 (show f_X0_bodyFrom 12 4 1 = some 11 by decide +kernel) (rn_51 (show f_X0_bodyFrom 12 4 0 = some 51 by decide +kernel) (show f_X5_kindAbove (((51 : Int32) / 10) - 1) = some 0 by decide +kernel) (rn_10 (show f_X0_bodyFrom 12 0 0 = some 10 by decide +kernel))))
theorem run_4_2 (M A : Int32) : rnS 12 4 2 4 M A (fun x => (-((((x + M) - M) * 2) ^^^ (((x - A) + M) - M)))) [50, 12, 11, 51, 10, 51, 10] := (rn_50 (show f_X0_bodyFrom 12 4 2 = some 50 by decide +kernel) (show f_X5_kindAbove (((50 : Int32) / 10) - 1) = some 0 by decide +kernel) (rn_12 (show f_X0_bodyFrom 12 0 2 = some 12 by decide +kernel) (rn_11 (show f_X0_bodyFrom 12 4 1 = some 11 by decide +kernel) (rn_51 (show f_X0_bodyFrom 12 4 0 = some 51 by decide +kernel) (show f_X5_kindAbove (((51 : Int32) / 10) - 1) = some 0 by decide +kernel) (rn_10 (show f_X0_bodyFrom 12 0 0 = some 10 by decide +kernel)))) (rn_51 (show f_X0_bodyFrom 12 4 0 = some 51 by decide +kernel) (show f_X5_kindAbove (((51 : Int32) / 10) - 1) = some 0 by decide +kernel) (rn_10 (show f_X0_bodyFrom 12 0 0 = some 10 by decide +kernel)))))
theorem run_5_0 (M A : Int32) : rnS 12 5 0 5 M A (fun x => (x + M)) [10] := (rn_10 (show f_X0_bodyFrom 12 5 0 = some 10 by decide +kernel))
theorem run_5_1 (M A : Int32) : rnS 12 5 1 5 M A (fun x => (((x + M) * 2) * 3)) [30, 11, 10] := (rn_30 (show f_X0_bodyFrom 12 5 1 = some 30 by decide +kernel) (show f_X5_kindAbove (((30 : Int32) / 10) - 1) = some 0 by decide +kernel) (rn_11 (show f_X0_bodyFrom 12 0 1 = some 11 by decide +kernel) (rn_10 (show f_X0_bodyFrom 12 5 0 = some 10 by decide +kernel))))
theorem run_5_2 (M A : Int32) : rnS 12 5 2 5 M A (fun x => (((((x + M) * 2) * 3) ^^^ ((x - A) + M)) ^^^ 5)) [60, 12, 30, 11, 10, 10] := (rn_60 (show f_X0_bodyFrom 12 5 2 = some 60 by decide +kernel) (show f_X5_kindAbove (((60 : Int32) / 10) - 1) = some 2 by decide +kernel) (rn_12 (show f_X0_bodyFrom 12 2 2 = some 12 by decide +kernel) (rn_30 (show f_X0_bodyFrom 12 5 1 = some 30 by decide +kernel) (show f_X5_kindAbove (((30 : Int32) / 10) - 1) = some 0 by decide +kernel) (rn_11 (show f_X0_bodyFrom 12 0 1 = some 11 by decide +kernel) (rn_10 (show f_X0_bodyFrom 12 5 0 = some 10 by decide +kernel)))) (rn_10 (show f_X0_bodyFrom 12 5 0 = some 10 by decide +kernel))))
theorem run_6_0 (M A : Int32) : rnS 12 6 0 6 M A (fun x => (((x + M) - M) * 2)) [70, 51, 10] := (rn_70 (show f_X0_bodyFrom 12 6 0 = some 70 by decide +kernel) (show f_X5_kindAbove (((70 : Int32) / 10) - 1) = some 4 by decide +kernel) (rn_51 (show f_X0_bodyFrom 12 4 0 = some 51 by decide +kernel) (show f_X5_kindAbove (((51 : Int32) / 10) - 1) = some 0 by decide +kernel) (rn_10 (show f_X0_bodyFrom 12 0 0 = some 10 by decide +kernel))))
theorem run_6_1 (M A : Int32) : rnS 12 6 1 6 M A (fun x => (((((x - A) + M) - M) * 2) * 2)) [71, 11, 70, 51, 10] := (rn_71 (show f_X0_bodyFrom 12 6 1 = some 71 by decide +kernel) (show f_X5_kindAbove (((71 : Int32) / 10) - 1) = some 4 by decide +kernel) (rn_11 (show f_X0_bodyFrom 12 4 1 = some 11 by decide +kernel) (rn_70 (show f_X0_bodyFrom 12 6 0 = some 70 by decide +kernel) (show f_X5_kindAbove (((70 : Int32) / 10) - 1) = some 4 by decide +kernel) (rn_51 (show f_X0_bodyFrom 12 4 0 = some 51 by decide +kernel) (show f_X5_kindAbove (((51 : Int32) / 10) - 1) = some 0 by decide +kernel) (rn_10 (show f_X0_bodyFrom 12 0 0 = some 10 by decide +kernel))))))
theorem run_6_2 (M A : Int32) : rnS 12 6 2 6 M A (fun x => (-((((((x - A) + M) - M) * 2) * 2) ^^^ ((((x - A) + M) - M) * 2)))) [50, 12, 71, 11, 70, 51, 10, 70, 51, 10] := (rn_50 (show f_X0_bodyFrom 12 6 2 = some 50 by decide +kernel) (show f_X5_kindAbove (((50 : Int32) / 10) - 1) = some 0 by decide +kernel) (rn_12 (show f_X0_bodyFrom 12 0 2 = some 12 by decide +kernel) (rn_71 (show f_X0_bodyFrom 12 6 1 = some 71 by decide +kernel) (show f_X5_kindAbove (((71 : Int32) / 10) - 1) = some 4 by decide +kernel) (rn_11 (show f_X0_bodyFrom 12 4 1 = some 11 by decide +kernel) (rn_70 (show f_X0_bodyFrom 12 6 0 = some 70 by decide +kernel) (show f_X5_kindAbove (((70 : Int32) / 10) - 1) = some 4 by decide +kernel) (rn_51 (show f_X0_bodyFrom 12 4 0 = some 51 by decide +kernel) (show f_X5_kindAbove (((51 : Int32) / 10) - 1) = some 0 by decide +kernel) (rn_10 (show f_X0_bodyFrom 12 0 0 = some 10 by decide +kernel)))))) (rn_70 (show f_X0_bodyFrom 12 6 0 = some 70 by decide +kernel) (show f_X5_kindAbove (((70 : Int32) / 10) - 1) = some 4 by decide +kernel) (rn_51 (show f_X0_bodyFrom 12 4 0 = some 51 by decide +kernel) (show f_X5_kindAbove (((51 : Int32) / 10) - 1) = some 0 by decide +kernel) (rn_10 (show f_X0_bodyFrom 12 0 0 = some 10 by decide +kernel))))))
def mS (F : Int32 → Mem → Option (Int32 × Mem)) (p : Nat) (K A : Int32) (f : Int32 → Int32) (bs : List Int32) : Prop := ∀ (u : Mem) (l : List Int32) (x : Int32), l.length + bs.length ≤ 20 → u.1 43 p = K → u.1 44 p = A → tU u l → ∃ u', F x u = some (f x, u') ∧ tU u' (l ++ bs) ∧ frT u u'
theorem frT.k {u u' : Mem} (h : frT u u') {p : Nat} {K : Int32} (e : u.1 43 p = K) : u'.1 43 p = K := (congrFun (h.2.1 43 (by decide)) p).trans e
theorem frT.a {u u' : Mem} (h : frT u u') {p : Nat} {K : Int32} (e : u.1 44 p = K) : u'.1 44 p = K := (congrFun (h.2.1 44 (by decide)) p).trans e
theorem mgr_0 {p : Nat} (hp : p < 8) (A : Int32) : mS (f_X6_grinds (nI p)) p 0 A (fun x => (x + nI p)) [10] := by
  intro u l x hl hk ha hT
  obtain ⟨u1, a1, b1, c1⟩ := mran_y (b := 10) hT (by simp only [List.length_append, List.length_cons, List.length_nil] at hl ⊢; omega)
  have k1 := c1.k hk
  have w1 := c1.a ha
  refine ⟨u1, ?_, by simpa using b1, c1⟩
  unfold f_X6_grinds jn_X6_grinds_19 jn_X6_grinds_30 jn_X6_grinds_36 jn_X6_grinds_46 jn_X6_grinds_52
  rw [ck_t (inb_nI hp (by decide)), nI_clamp (by omega), hk, if_pos (by decide), if_neg (by decide), if_pos (by decide), if_neg (by decide), if_pos (by decide), a1, bnd_s, if_neg (by decide), if_pos (by decide), if_pos (by decide), if_pos (by decide)]
theorem mgr_1 {p : Nat} (hp : p < 8) (A : Int32) : mS (f_X6_grinds (nI p)) p 1 A (fun x => ((x + nI p) + A)) [20, 10] := by
  intro u l x hl hk ha hT
  obtain ⟨u1, a1, b1, c1⟩ := mran_y (b := 20) hT (by simp only [List.length_append, List.length_cons, List.length_nil] at hl ⊢; omega)
  have k1 := c1.k hk
  have w1 := c1.a ha
  obtain ⟨u2, a2, b2, c2⟩ := mran_y (b := 10) b1 (by simp only [List.length_append, List.length_cons, List.length_nil] at hl ⊢; omega)
  have k2 := c2.k k1
  have w2 := c2.a w1
  refine ⟨u2, ?_, by simpa using b2, (c1.trans c2)⟩
  unfold f_X6_grinds jn_X6_grinds_19 jn_X6_grinds_30 jn_X6_grinds_36 jn_X6_grinds_46 jn_X6_grinds_52
  rw [ck_t (inb_nI hp (by decide)), nI_clamp (by omega), hk, if_pos (by decide), if_neg (by decide), if_pos (by decide), if_pos (by decide), a1, bnd_s, a2, bnd_s, if_pos (by decide), ck_t (inb_nI hp (by decide)), w2]
theorem mgr_2 {p : Nat} (hp : p < 8) (A : Int32) : mS (f_X6_grinds (nI p)) p 2 A (fun x => (x + nI p)) [10] := by
  intro u l x hl hk ha hT
  obtain ⟨u1, a1, b1, c1⟩ := mran_y (b := 10) hT (by simp only [List.length_append, List.length_cons, List.length_nil] at hl ⊢; omega)
  have k1 := c1.k hk
  have w1 := c1.a ha
  refine ⟨u1, ?_, by simpa using b1, c1⟩
  unfold f_X6_grinds jn_X6_grinds_19 jn_X6_grinds_30 jn_X6_grinds_36 jn_X6_grinds_46 jn_X6_grinds_52
  rw [ck_t (inb_nI hp (by decide)), nI_clamp (by omega), hk, if_pos (by decide), if_neg (by decide), if_pos (by decide), if_neg (by decide), if_pos (by decide), a1, bnd_s, if_neg (by decide), if_pos (by decide), if_pos (by decide), if_pos (by decide)]
theorem mgr_3 {p : Nat} (hp : p < 8) (A : Int32) : mS (f_X6_grinds (nI p)) p 3 A (fun x => ((x + nI p) + A)) [20, 10] := by
  intro u l x hl hk ha hT
  obtain ⟨u1, a1, b1, c1⟩ := mran_y (b := 20) hT (by simp only [List.length_append, List.length_cons, List.length_nil] at hl ⊢; omega)
  have k1 := c1.k hk
  have w1 := c1.a ha
  obtain ⟨u2, a2, b2, c2⟩ := mran_y (b := 10) b1 (by simp only [List.length_append, List.length_cons, List.length_nil] at hl ⊢; omega)
  have k2 := c2.k k1
  have w2 := c2.a w1
  refine ⟨u2, ?_, by simpa using b2, (c1.trans c2)⟩
  unfold f_X6_grinds jn_X6_grinds_19 jn_X6_grinds_30 jn_X6_grinds_36 jn_X6_grinds_46 jn_X6_grinds_52
  rw [ck_t (inb_nI hp (by decide)), nI_clamp (by omega), hk, if_pos (by decide), if_neg (by decide), if_pos (by decide), if_neg (by decide), if_neg (by decide), a1, bnd_s, a2, bnd_s, if_neg (by decide), if_neg (by decide), ck_t (inb_nI hp (by decide)), w2]
theorem mgr_4 {p : Nat} (hp : p < 8) (A : Int32) : mS (f_X6_grinds (nI p)) p 4 A (fun x => ((x + nI p) - nI p)) [51, 10] := by
  intro u l x hl hk ha hT
  obtain ⟨u1, a1, b1, c1⟩ := mran_y (b := 51) hT (by simp only [List.length_append, List.length_cons, List.length_nil] at hl ⊢; omega)
  have k1 := c1.k hk
  have w1 := c1.a ha
  obtain ⟨u2, a2, b2, c2⟩ := mran_y (b := 10) b1 (by simp only [List.length_append, List.length_cons, List.length_nil] at hl ⊢; omega)
  have k2 := c2.k k1
  have w2 := c2.a w1
  refine ⟨u2, ?_, by simpa using b2, (c1.trans c2)⟩
  unfold f_X6_grinds jn_X6_grinds_19 jn_X6_grinds_30 jn_X6_grinds_36 jn_X6_grinds_46 jn_X6_grinds_52
  rw [ck_t (inb_nI hp (by decide)), nI_clamp (by omega), hk, if_pos (by decide), if_pos (by decide), a1, bnd_s, if_neg (by decide), if_pos (by decide), a2, bnd_s, if_neg (by decide), if_pos (by decide), if_neg (by decide)]
theorem mgr_5 {p : Nat} (hp : p < 8) (A : Int32) : mS (f_X6_grinds (nI p)) p 5 A (fun x => (x + nI p)) [10] := by
  intro u l x hl hk ha hT
  obtain ⟨u1, a1, b1, c1⟩ := mran_y (b := 10) hT (by simp only [List.length_append, List.length_cons, List.length_nil] at hl ⊢; omega)
  have k1 := c1.k hk
  have w1 := c1.a ha
  refine ⟨u1, ?_, by simpa using b1, c1⟩
  unfold f_X6_grinds jn_X6_grinds_19 jn_X6_grinds_30 jn_X6_grinds_36 jn_X6_grinds_46 jn_X6_grinds_52
  rw [ck_t (inb_nI hp (by decide)), nI_clamp (by omega), hk, if_pos (by decide), if_neg (by decide), if_pos (by decide), if_neg (by decide), if_pos (by decide), a1, bnd_s, if_neg (by decide), if_pos (by decide), if_pos (by decide), if_pos (by decide)]
theorem mgr_6 {p : Nat} (hp : p < 8) (A : Int32) : mS (f_X6_grinds (nI p)) p 6 A (fun x => (((x + nI p) - nI p) * 2)) [70, 51, 10] := by
  intro u l x hl hk ha hT
  obtain ⟨u1, a1, b1, c1⟩ := mran_y (b := 70) hT (by simp only [List.length_append, List.length_cons, List.length_nil] at hl ⊢; omega)
  have k1 := c1.k hk
  have w1 := c1.a ha
  obtain ⟨u2, a2, b2, c2⟩ := mran_y (b := 51) b1 (by simp only [List.length_append, List.length_cons, List.length_nil] at hl ⊢; omega)
  have k2 := c2.k k1
  have w2 := c2.a w1
  obtain ⟨u3, a3, b3, c3⟩ := mran_y (b := 10) b2 (by simp only [List.length_append, List.length_cons, List.length_nil] at hl ⊢; omega)
  have k3 := c3.k k2
  have w3 := c3.a w2
  refine ⟨u3, ?_, by simpa using b3, ((c1.trans c2).trans c3)⟩
  unfold f_X6_grinds jn_X6_grinds_19 jn_X6_grinds_30 jn_X6_grinds_36 jn_X6_grinds_46 jn_X6_grinds_52
  rw [ck_t (inb_nI hp (by decide)), nI_clamp (by omega), hk, if_neg (by decide), a1, bnd_s, if_neg (by decide), if_neg (by decide), a2, bnd_s, if_neg (by decide), if_pos (by decide), a3, bnd_s, if_neg (by decide), if_pos (by decide), if_pos (by decide), if_neg (by decide)]
theorem mst_0 {p : Nat} (hp : p < 8) (A : Int32) : mS (f_X6_strews (nI p)) p 0 A (fun x => ((x + nI p) * 2)) [11, 10] := by
  intro u l x hl hk ha hT
  obtain ⟨u1, a1, b1, c1⟩ := mran_y (b := 11) hT (by simp only [List.length_append, List.length_cons, List.length_nil] at hl ⊢; omega)
  have k1 := c1.k hk
  have w1 := c1.a ha
  obtain ⟨v, g1, g2, g3⟩ := mgr_0 hp A u1 _ x (by simp only [List.length_append, List.length_cons, List.length_nil] at hl ⊢; omega) k1 w1 b1
  refine ⟨v, ?_, by simpa using g2, c1.trans g3⟩
  unfold f_X6_strews jn_X6_strews_32 jn_X6_strews_48 jn_X6_strews_58 jn_X6_strews_64
  rw [ck_t (inb_nI hp (by decide)), nI_clamp (by omega), hk, if_pos (by decide), if_pos (by decide), if_neg (by decide), if_pos (by decide), a1, bnd_s, g1, bnd_s, if_neg (by decide), if_pos (by decide)]
theorem mst_1 {p : Nat} (hp : p < 8) (A : Int32) : mS (f_X6_strews (nI p)) p 1 A (fun x => (((x + nI p) + A) * 2)) [11, 20, 10] := by
  intro u l x hl hk ha hT
  obtain ⟨u1, a1, b1, c1⟩ := mran_y (b := 11) hT (by simp only [List.length_append, List.length_cons, List.length_nil] at hl ⊢; omega)
  have k1 := c1.k hk
  have w1 := c1.a ha
  obtain ⟨v, g1, g2, g3⟩ := mgr_1 hp A u1 _ x (by simp only [List.length_append, List.length_cons, List.length_nil] at hl ⊢; omega) k1 w1 b1
  refine ⟨v, ?_, by simpa using g2, c1.trans g3⟩
  unfold f_X6_strews jn_X6_strews_32 jn_X6_strews_48 jn_X6_strews_58 jn_X6_strews_64
  rw [ck_t (inb_nI hp (by decide)), nI_clamp (by omega), hk, if_pos (by decide), if_pos (by decide), if_neg (by decide), if_pos (by decide), a1, bnd_s, g1, bnd_s, if_neg (by decide), if_pos (by decide)]
theorem mst_2 {p : Nat} (hp : p < 8) (A : Int32) : mS (f_X6_strews (nI p)) p 2 A (fun x => (((x + nI p) * 2) * 3)) [30, 11, 10] := by
  intro u l x hl hk ha hT
  obtain ⟨u1, a1, b1, c1⟩ := mran_y (b := 30) hT (by simp only [List.length_append, List.length_cons, List.length_nil] at hl ⊢; omega)
  have k1 := c1.k hk
  have w1 := c1.a ha
  obtain ⟨u2, a2, b2, c2⟩ := mran_y (b := 11) b1 (by simp only [List.length_append, List.length_cons, List.length_nil] at hl ⊢; omega)
  have k2 := c2.k k1
  have w2 := c2.a w1
  obtain ⟨v, g1, g2, g3⟩ := mgr_2 hp A u2 _ x (by simp only [List.length_append, List.length_cons, List.length_nil] at hl ⊢; omega) k2 w2 b2
  refine ⟨v, ?_, by simpa using g2, (c1.trans c2).trans g3⟩
  unfold f_X6_strews jn_X6_strews_32 jn_X6_strews_48 jn_X6_strews_58 jn_X6_strews_64
  rw [ck_t (inb_nI hp (by decide)), nI_clamp (by omega), hk, if_pos (by decide), if_pos (by decide), if_pos (by decide), a1, bnd_s, a2, bnd_s, g1, bnd_s, if_pos (by decide)]
theorem mst_3 {p : Nat} (hp : p < 8) (A : Int32) : mS (f_X6_strews (nI p)) p 3 A (fun x => ((((x + 1) + nI p) + A) * 2)) [40, 11, 20, 10] := by
  intro u l x hl hk ha hT
  obtain ⟨u1, a1, b1, c1⟩ := mran_y (b := 40) hT (by simp only [List.length_append, List.length_cons, List.length_nil] at hl ⊢; omega)
  have k1 := c1.k hk
  have w1 := c1.a ha
  obtain ⟨u2, a2, b2, c2⟩ := mran_y (b := 11) b1 (by simp only [List.length_append, List.length_cons, List.length_nil] at hl ⊢; omega)
  have k2 := c2.k k1
  have w2 := c2.a w1
  obtain ⟨v, g1, g2, g3⟩ := mgr_3 hp A u2 _ (x + 1) (by simp only [List.length_append, List.length_cons, List.length_nil] at hl ⊢; omega) k2 w2 b2
  refine ⟨v, ?_, by simpa using g2, (c1.trans c2).trans g3⟩
  unfold f_X6_strews jn_X6_strews_32 jn_X6_strews_48 jn_X6_strews_58 jn_X6_strews_64
  rw [ck_t (inb_nI hp (by decide)), nI_clamp (by omega), hk, if_pos (by decide), if_neg (by decide), a1, bnd_s, if_neg (by decide), if_pos (by decide), a2, bnd_s, g1, bnd_s, if_neg (by decide), if_pos (by decide)]
theorem mst_4 {p : Nat} (hp : p < 8) (A : Int32) : mS (f_X6_strews (nI p)) p 4 A (fun x => (((x + nI p) - nI p) * 2)) [11, 51, 10] := by
  intro u l x hl hk ha hT
  obtain ⟨u1, a1, b1, c1⟩ := mran_y (b := 11) hT (by simp only [List.length_append, List.length_cons, List.length_nil] at hl ⊢; omega)
  have k1 := c1.k hk
  have w1 := c1.a ha
  obtain ⟨v, g1, g2, g3⟩ := mgr_4 hp A u1 _ x (by simp only [List.length_append, List.length_cons, List.length_nil] at hl ⊢; omega) k1 w1 b1
  refine ⟨v, ?_, by simpa using g2, c1.trans g3⟩
  unfold f_X6_strews jn_X6_strews_32 jn_X6_strews_48 jn_X6_strews_58 jn_X6_strews_64
  rw [ck_t (inb_nI hp (by decide)), nI_clamp (by omega), hk, if_pos (by decide), if_pos (by decide), if_neg (by decide), if_pos (by decide), a1, bnd_s, g1, bnd_s, if_neg (by decide), if_pos (by decide)]
theorem mst_5 {p : Nat} (hp : p < 8) (A : Int32) : mS (f_X6_strews (nI p)) p 5 A (fun x => (((x + nI p) * 2) * 3)) [30, 11, 10] := by
  intro u l x hl hk ha hT
  obtain ⟨u1, a1, b1, c1⟩ := mran_y (b := 30) hT (by simp only [List.length_append, List.length_cons, List.length_nil] at hl ⊢; omega)
  have k1 := c1.k hk
  have w1 := c1.a ha
  obtain ⟨u2, a2, b2, c2⟩ := mran_y (b := 11) b1 (by simp only [List.length_append, List.length_cons, List.length_nil] at hl ⊢; omega)
  have k2 := c2.k k1
  have w2 := c2.a w1
  obtain ⟨v, g1, g2, g3⟩ := mgr_5 hp A u2 _ x (by simp only [List.length_append, List.length_cons, List.length_nil] at hl ⊢; omega) k2 w2 b2
  refine ⟨v, ?_, by simpa using g2, (c1.trans c2).trans g3⟩
  unfold f_X6_strews jn_X6_strews_32 jn_X6_strews_48 jn_X6_strews_58 jn_X6_strews_64
  rw [ck_t (inb_nI hp (by decide)), nI_clamp (by omega), hk, if_pos (by decide), if_pos (by decide), if_neg (by decide), if_neg (by decide), a1, bnd_s, a2, bnd_s, g1, bnd_s, if_neg (by decide), if_neg (by decide)]
theorem mst_6 {p : Nat} (hp : p < 8) (A : Int32) : mS (f_X6_strews (nI p)) p 6 A (fun x => (((((x - A) + nI p) - nI p) * 2) * 2)) [71, 11, 70, 51, 10] := by
  intro u l x hl hk ha hT
  obtain ⟨u1, a1, b1, c1⟩ := mran_y (b := 71) hT (by simp only [List.length_append, List.length_cons, List.length_nil] at hl ⊢; omega)
  have k1 := c1.k hk
  have w1 := c1.a ha
  obtain ⟨u2, a2, b2, c2⟩ := mran_y (b := 11) b1 (by simp only [List.length_append, List.length_cons, List.length_nil] at hl ⊢; omega)
  have k2 := c2.k k1
  have w2 := c2.a w1
  obtain ⟨v, g1, g2, g3⟩ := mgr_6 hp A u2 _ (x - A) (by simp only [List.length_append, List.length_cons, List.length_nil] at hl ⊢; omega) k2 w2 b2
  refine ⟨v, ?_, by simpa using g2, (c1.trans c2).trans g3⟩
  unfold f_X6_strews jn_X6_strews_32 jn_X6_strews_48 jn_X6_strews_58 jn_X6_strews_64
  rw [ck_t (inb_nI hp (by decide)), nI_clamp (by omega), hk, if_neg (by decide), a1, bnd_s, ck_t (inb_nI hp (by decide)), w1, lti_s, if_pos (by decide), if_neg (by decide), if_pos (by decide), a2, bnd_s, g1, bnd_s, if_neg (by decide), if_pos (by decide)]
theorem mbl_0 {p : Nat} (hp : p < 8) (A : Int32) : mS (f_X6_blows (nI p)) p 0 A (fun x => (((x + nI p) * 2) ^^^ ((x - A) + nI p))) [12, 11, 10, 10] := by
  intro u l x hl hk ha hT
  obtain ⟨u1, a1, b1, c1⟩ := mran_y (b := 12) hT (by simp only [List.length_append, List.length_cons, List.length_nil] at hl ⊢; omega)
  have k1 := c1.k hk
  have w1 := c1.a ha
  obtain ⟨v, g1, g2, g3⟩ := mst_0 hp A u1 _ x (by simp only [List.length_append, List.length_cons, List.length_nil] at hl ⊢; omega) k1 w1 b1
  obtain ⟨z, h1, h2, h3⟩ := mgr_0 hp A v _ (x - A) (by simp only [List.length_append, List.length_cons, List.length_nil] at hl ⊢; omega) (g3.k k1) (g3.a w1) g2
  refine ⟨z, ?_, by simpa using h2, (c1.trans g3).trans h3⟩
  unfold f_X6_blows jn_X6_blows_18 jn_X6_blows_24 jn_X6_blows_35
  rw [ck_t (inb_nI hp (by decide)), nI_clamp (by omega), hk, if_neg (by decide), if_pos (by decide), if_pos (by decide), a1, bnd_s, g1, bnd_s, ck_t (inb_nI hp (by decide)), g3.a w1, h1, bnd_s, if_neg (by decide), if_pos (by decide), if_pos (by decide)]
theorem mbl_1 {p : Nat} (hp : p < 8) (A : Int32) : mS (f_X6_blows (nI p)) p 1 A (fun x => ((((x + nI p) + A) * 2) ^^^ (((x - A) + nI p) + A))) [12, 11, 20, 10, 20, 10] := by
  intro u l x hl hk ha hT
  obtain ⟨u1, a1, b1, c1⟩ := mran_y (b := 12) hT (by simp only [List.length_append, List.length_cons, List.length_nil] at hl ⊢; omega)
  have k1 := c1.k hk
  have w1 := c1.a ha
  obtain ⟨v, g1, g2, g3⟩ := mst_1 hp A u1 _ x (by simp only [List.length_append, List.length_cons, List.length_nil] at hl ⊢; omega) k1 w1 b1
  obtain ⟨z, h1, h2, h3⟩ := mgr_1 hp A v _ (x - A) (by simp only [List.length_append, List.length_cons, List.length_nil] at hl ⊢; omega) (g3.k k1) (g3.a w1) g2
  refine ⟨z, ?_, by simpa using h2, (c1.trans g3).trans h3⟩
  unfold f_X6_blows jn_X6_blows_18 jn_X6_blows_24 jn_X6_blows_35
  rw [ck_t (inb_nI hp (by decide)), nI_clamp (by omega), hk, if_neg (by decide), if_pos (by decide), if_pos (by decide), a1, bnd_s, g1, bnd_s, ck_t (inb_nI hp (by decide)), g3.a w1, h1, bnd_s, if_neg (by decide), if_pos (by decide), if_pos (by decide)]
theorem mbl_2 {p : Nat} (hp : p < 8) (A : Int32) : mS (f_X6_blows (nI p)) p 2 A (fun x => ((((x + nI p) * 2) * 3) ^^^ ((x - A) + nI p))) [12, 30, 11, 10, 10] := by
  intro u l x hl hk ha hT
  obtain ⟨u1, a1, b1, c1⟩ := mran_y (b := 12) hT (by simp only [List.length_append, List.length_cons, List.length_nil] at hl ⊢; omega)
  have k1 := c1.k hk
  have w1 := c1.a ha
  obtain ⟨v, g1, g2, g3⟩ := mst_2 hp A u1 _ x (by simp only [List.length_append, List.length_cons, List.length_nil] at hl ⊢; omega) k1 w1 b1
  obtain ⟨z, h1, h2, h3⟩ := mgr_2 hp A v _ (x - A) (by simp only [List.length_append, List.length_cons, List.length_nil] at hl ⊢; omega) (g3.k k1) (g3.a w1) g2
  refine ⟨z, ?_, by simpa using h2, (c1.trans g3).trans h3⟩
  unfold f_X6_blows jn_X6_blows_18 jn_X6_blows_24 jn_X6_blows_35
  rw [ck_t (inb_nI hp (by decide)), nI_clamp (by omega), hk, if_neg (by decide), if_pos (by decide), if_pos (by decide), a1, bnd_s, g1, bnd_s, ck_t (inb_nI hp (by decide)), g3.a w1, h1, bnd_s, if_neg (by decide), if_pos (by decide), if_pos (by decide)]
theorem mbl_3 {p : Nat} (hp : p < 8) (A : Int32) : mS (f_X6_blows (nI p)) p 3 A (fun x => (((((x + 1) + nI p) + A) * 2) ^^^ (((x - A) + nI p) + A))) [12, 40, 11, 20, 10, 20, 10] := by
  intro u l x hl hk ha hT
  obtain ⟨u1, a1, b1, c1⟩ := mran_y (b := 12) hT (by simp only [List.length_append, List.length_cons, List.length_nil] at hl ⊢; omega)
  have k1 := c1.k hk
  have w1 := c1.a ha
  obtain ⟨v, g1, g2, g3⟩ := mst_3 hp A u1 _ x (by simp only [List.length_append, List.length_cons, List.length_nil] at hl ⊢; omega) k1 w1 b1
  obtain ⟨z, h1, h2, h3⟩ := mgr_3 hp A v _ (x - A) (by simp only [List.length_append, List.length_cons, List.length_nil] at hl ⊢; omega) (g3.k k1) (g3.a w1) g2
  refine ⟨z, ?_, by simpa using h2, (c1.trans g3).trans h3⟩
  unfold f_X6_blows jn_X6_blows_18 jn_X6_blows_24 jn_X6_blows_35
  rw [ck_t (inb_nI hp (by decide)), nI_clamp (by omega), hk, if_neg (by decide), if_pos (by decide), if_pos (by decide), a1, bnd_s, g1, bnd_s, ck_t (inb_nI hp (by decide)), g3.a w1, h1, bnd_s, if_neg (by decide), if_pos (by decide), if_pos (by decide)]
theorem mbl_4 {p : Nat} (hp : p < 8) (A : Int32) : mS (f_X6_blows (nI p)) p 4 A (fun x => (-((((x + nI p) - nI p) * 2) ^^^ (((x - A) + nI p) - nI p)))) [50, 12, 11, 51, 10, 51, 10] := by
  intro u l x hl hk ha hT
  obtain ⟨u1, a1, b1, c1⟩ := mran_y (b := 50) hT (by simp only [List.length_append, List.length_cons, List.length_nil] at hl ⊢; omega)
  have k1 := c1.k hk
  have w1 := c1.a ha
  obtain ⟨u2, a2, b2, c2⟩ := mran_y (b := 12) b1 (by simp only [List.length_append, List.length_cons, List.length_nil] at hl ⊢; omega)
  have k2 := c2.k k1
  have w2 := c2.a w1
  obtain ⟨v, g1, g2, g3⟩ := mst_4 hp A u2 _ x (by simp only [List.length_append, List.length_cons, List.length_nil] at hl ⊢; omega) k2 w2 b2
  obtain ⟨z, h1, h2, h3⟩ := mgr_4 hp A v _ (x - A) (by simp only [List.length_append, List.length_cons, List.length_nil] at hl ⊢; omega) (g3.k k2) (g3.a w2) g2
  refine ⟨z, ?_, by simpa using h2, ((c1.trans c2).trans g3).trans h3⟩
  unfold f_X6_blows jn_X6_blows_18 jn_X6_blows_24 jn_X6_blows_35
  rw [ck_t (inb_nI hp (by decide)), nI_clamp (by omega), hk, if_pos (by decide), a1, bnd_s, if_pos (by decide), a2, bnd_s, g1, bnd_s, ck_t (inb_nI hp (by decide)), g3.a w2, h1, bnd_s, if_pos (by decide)]
theorem mbl_5 {p : Nat} (hp : p < 8) (A : Int32) : mS (f_X6_blows (nI p)) p 5 A (fun x => (((((x + nI p) * 2) * 3) ^^^ ((x - A) + nI p)) ^^^ 5)) [60, 12, 30, 11, 10, 10] := by
  intro u l x hl hk ha hT
  obtain ⟨u1, a1, b1, c1⟩ := mran_y (b := 60) hT (by simp only [List.length_append, List.length_cons, List.length_nil] at hl ⊢; omega)
  have k1 := c1.k hk
  have w1 := c1.a ha
  obtain ⟨u2, a2, b2, c2⟩ := mran_y (b := 12) b1 (by simp only [List.length_append, List.length_cons, List.length_nil] at hl ⊢; omega)
  have k2 := c2.k k1
  have w2 := c2.a w1
  obtain ⟨v, g1, g2, g3⟩ := mst_5 hp A u2 _ x (by simp only [List.length_append, List.length_cons, List.length_nil] at hl ⊢; omega) k2 w2 b2
  obtain ⟨z, h1, h2, h3⟩ := mgr_5 hp A v _ (x - A) (by simp only [List.length_append, List.length_cons, List.length_nil] at hl ⊢; omega) (g3.k k2) (g3.a w2) g2
  refine ⟨z, ?_, by simpa using h2, ((c1.trans c2).trans g3).trans h3⟩
  unfold f_X6_blows jn_X6_blows_18 jn_X6_blows_24 jn_X6_blows_35
  rw [ck_t (inb_nI hp (by decide)), nI_clamp (by omega), hk, if_neg (by decide), if_pos (by decide), if_neg (by decide), a1, bnd_s, a2, bnd_s, g1, bnd_s, ck_t (inb_nI hp (by decide)), g3.a w2, h1, bnd_s, if_neg (by decide), if_pos (by decide), if_neg (by decide)]
theorem mbl_6 {p : Nat} (hp : p < 8) (A : Int32) : mS (f_X6_blows (nI p)) p 6 A (fun x => (-((((((x - A) + nI p) - nI p) * 2) * 2) ^^^ ((((x - A) + nI p) - nI p) * 2)))) [50, 12, 71, 11, 70, 51, 10, 70, 51, 10] := by
  intro u l x hl hk ha hT
  obtain ⟨u1, a1, b1, c1⟩ := mran_y (b := 50) hT (by simp only [List.length_append, List.length_cons, List.length_nil] at hl ⊢; omega)
  have k1 := c1.k hk
  have w1 := c1.a ha
  obtain ⟨u2, a2, b2, c2⟩ := mran_y (b := 12) b1 (by simp only [List.length_append, List.length_cons, List.length_nil] at hl ⊢; omega)
  have k2 := c2.k k1
  have w2 := c2.a w1
  obtain ⟨v, g1, g2, g3⟩ := mst_6 hp A u2 _ x (by simp only [List.length_append, List.length_cons, List.length_nil] at hl ⊢; omega) k2 w2 b2
  obtain ⟨z, h1, h2, h3⟩ := mgr_6 hp A v _ (x - A) (by simp only [List.length_append, List.length_cons, List.length_nil] at hl ⊢; omega) (g3.k k2) (g3.a w2) g2
  refine ⟨z, ?_, by simpa using h2, ((c1.trans c2).trans g3).trans h3⟩
  unfold f_X6_blows jn_X6_blows_18 jn_X6_blows_24 jn_X6_blows_35
  rw [ck_t (inb_nI hp (by decide)), nI_clamp (by omega), hk, if_neg (by decide), if_neg (by decide), a1, bnd_s, if_pos (by decide), a2, bnd_s, g1, bnd_s, ck_t (inb_nI hp (by decide)), g3.a w2, h1, bnd_s, if_neg (by decide), if_neg (by decide)]
/-- both sides of an act -/
theorem act_both {K a p : Nat} {act x : Int32} (hK : K ≤ 6) (hp : p < 8) (h : act = 0 ∨ act = 1 ∨ act = 2) : ∃ (f : Int32 → Int32) (bs : List Int32), bs.length ≤ 20 ∧ rnS 12 (nI K) act (nI K) (nI p) (nI a) f bs ∧ (act = 0 → mS (f_X6_grinds (nI p)) p (nI K) (nI a) f bs) ∧ (act = 1 → mS (f_X6_strews (nI p)) p (nI K) (nI a) f bs) ∧ (act = 2 → mS (f_X6_blows (nI p)) p (nI K) (nI a) f bs) := by
  rcases (show K = 0 ∨ K = 1 ∨ K = 2 ∨ K = 3 ∨ K = 4 ∨ K = 5 ∨ K = 6 by omega) with rfl | rfl | rfl | rfl | rfl | rfl | rfl <;> rcases h with rfl | rfl | rfl
  · exact ⟨_, _, by decide, run_0_0 _ _, fun _ => mgr_0 hp _, fun e => absurd e (by decide), fun e => absurd e (by decide)⟩
  · exact ⟨_, _, by decide, run_0_1 _ _, fun e => absurd e (by decide), fun _ => mst_0 hp _, fun e => absurd e (by decide)⟩
  · exact ⟨_, _, by decide, run_0_2 _ _, fun e => absurd e (by decide), fun e => absurd e (by decide), fun _ => mbl_0 hp _⟩
  · exact ⟨_, _, by decide, run_1_0 _ _, fun _ => mgr_1 hp _, fun e => absurd e (by decide), fun e => absurd e (by decide)⟩
  · exact ⟨_, _, by decide, run_1_1 _ _, fun e => absurd e (by decide), fun _ => mst_1 hp _, fun e => absurd e (by decide)⟩
  · exact ⟨_, _, by decide, run_1_2 _ _, fun e => absurd e (by decide), fun e => absurd e (by decide), fun _ => mbl_1 hp _⟩
  · exact ⟨_, _, by decide, run_2_0 _ _, fun _ => mgr_2 hp _, fun e => absurd e (by decide), fun e => absurd e (by decide)⟩
  · exact ⟨_, _, by decide, run_2_1 _ _, fun e => absurd e (by decide), fun _ => mst_2 hp _, fun e => absurd e (by decide)⟩
  · exact ⟨_, _, by decide, run_2_2 _ _, fun e => absurd e (by decide), fun e => absurd e (by decide), fun _ => mbl_2 hp _⟩
  · exact ⟨_, _, by decide, run_3_0 _ _, fun _ => mgr_3 hp _, fun e => absurd e (by decide), fun e => absurd e (by decide)⟩
  · exact ⟨_, _, by decide, run_3_1 _ _, fun e => absurd e (by decide), fun _ => mst_3 hp _, fun e => absurd e (by decide)⟩
  · exact ⟨_, _, by decide, run_3_2 _ _, fun e => absurd e (by decide), fun e => absurd e (by decide), fun _ => mbl_3 hp _⟩
  · exact ⟨_, _, by decide, run_4_0 _ _, fun _ => mgr_4 hp _, fun e => absurd e (by decide), fun e => absurd e (by decide)⟩
  · exact ⟨_, _, by decide, run_4_1 _ _, fun e => absurd e (by decide), fun _ => mst_4 hp _, fun e => absurd e (by decide)⟩
  · exact ⟨_, _, by decide, run_4_2 _ _, fun e => absurd e (by decide), fun e => absurd e (by decide), fun _ => mbl_4 hp _⟩
  · exact ⟨_, _, by decide, run_5_0 _ _, fun _ => mgr_5 hp _, fun e => absurd e (by decide), fun e => absurd e (by decide)⟩
  · exact ⟨_, _, by decide, run_5_1 _ _, fun e => absurd e (by decide), fun _ => mst_5 hp _, fun e => absurd e (by decide)⟩
  · exact ⟨_, _, by decide, run_5_2 _ _, fun e => absurd e (by decide), fun e => absurd e (by decide), fun _ => mbl_5 hp _⟩
  · exact ⟨_, _, by decide, run_6_0 _ _, fun _ => mgr_6 hp _, fun e => absurd e (by decide), fun e => absurd e (by decide)⟩
  · exact ⟨_, _, by decide, run_6_1 _ _, fun e => absurd e (by decide), fun _ => mst_6 hp _, fun e => absurd e (by decide)⟩
  · exact ⟨_, _, by decide, run_6_2 _ _, fun e => absurd e (by decide), fun e => absurd e (by decide), fun _ => mbl_6 hp _⟩
