/-! layer 2: gale -/
theorem max0 {a b : Nat} (ha : a < 2 ^ 30) (hb : b < 2 ^ 30) : f_J9_max_7cf53 0 (nI a - nI b) = some (nI (a - b)) := by
  by_cases h : b ≤ a
  · rw [nI_sub h]
    have := cost_max (a := 0) (b := a - b) (by omega) (by omega)
    rw [Nat.max_eq_right (Nat.zero_le _)] at this
    exact this
  · have e : (nI a - nI b).toInt = (a : Int) - b := by
      rw [Int32.toInt_sub, nI_toInt (by omega), nI_toInt (by omega), Int.bmod_eq_of_le (by omega) (by omega)]
    rw [show a - b = 0 by omega]
    unfold f_J9_max_7cf53
    rw [if_neg (by rw [i_lt, e]; show ¬ (0 : Int) < _; omega)]
    rfl
def frU (u u' : Mem) : Prop := u'.2 = u.2 ∧ (∀ o, ¬ o ∈ [39, 43, 44, 45] → u'.1 o = u.1 o) ∧ ∀ j, ¬ j ∈ [3, 7, 8, 9] → u'.1 39 j = u.1 39 j
theorem frU.rf (u : Mem) : frU u u := ⟨rfl, fun _ _ => rfl, fun _ _ => rfl⟩
theorem frU.trans {u u1 u2 : Mem} (h : frU u u1) (g : frU u1 u2) : frU u u2 := ⟨g.1.trans h.1, fun o ho => (g.2.1 o ho).trans (h.2.1 o ho), fun j hj => (g.2.2 j hj).trans (h.2.2 j hj)⟩
theorem frU.i39 (u : Mem) {k : Nat} (x : Int32) (h : k ∈ [3, 7, 8, 9]) : frU u (uI u 39 k x) := ⟨rfl, fun o ho => uA_ne _ (fun e => ho (by rw [e]; decide)), fun j hj => m39 (fun e => hj (e ▸ h))⟩
theorem frU.fr {u u' : Mem} (h : Fr u u' [45]) : frU u u' := ⟨h.2, fun o ho => h.1 o (fun g => ho (by rw [List.mem_singleton.mp g]; decide)), fun j _ => congrFun (h.1 39 (by decide)) j⟩
theorem Oth.u {c : Nat} {t u t' u' : Mem} {l : List Nat} (h : Oth c t u) (h1 : Fr t t' l) (h3 : ∀ o, o ∈ keptT → ¬ o ∈ l) (h2 : frU u u') : Oth c t' u' :=
  h.fr (fun o ho => h1.1 o (h3 o ho)) h1.2 (fun o ho => h2.2.1 o (by revert o; decide)) h2.1 (h2.2.2 _ (by decide)) (h2.2.2 _ (by decide)) (h2.2.2 _ (by decide))
theorem setE_c2 (S : Ld) (e f : Int32) : Sc (setE (setE S e) f) = Sc S := rfl
theorem setE_c (S : Ld) (e : Int32) : Sc (setE S e) = Sc S := rfl
theorem setE_w (S : Ld) (e : Int32) : Sw (setE S e) = Sw S := rfl
theorem setW_pq (S : Ld) (p q n : Nat) : Sw (setW S p q n) p q = n := if_pos (.inl ⟨rfl, rfl⟩)
theorem cE_l {t : Mem} {S : Ld} {e : Int32} (h : isLd t 0 (setE S e)) : t.1 (oLd 0) 3 = nI (Sc S) := h.1
theorem cE_m {u : Mem} {S : Ld} {e : Int32} (h : isMd u (setE S e)) : u.1 39 3 = nI (Sc S) := h.1
theorem gust_y {t u : Mem} {S : Ld} (hl : isLd t 0 S) (hm : isMd u S) (ok : okLd S) (h1 : 1 ≤ Sc S) : ∃ r t' u' S', f_X1_gust 0 t = some (r, t') ∧ (∀ (n : Nat) (x1 : Int32) (self : Int32 × Int32 × Mem → Option (Int32 × Mem)) (v2 : Int32) (i : Nat), ¬ x1 ≤ nI i → bd_X6_gale_35 n x1 self (v2, nI i, u) = self (v2 + r, nI (i + 1), u')) ∧ isLd t' 0 S' ∧ isMd u' S' ∧ okLd S' ∧ Sc S' = Sc S ∧ Fr t t' [1, 10] ∧ frU u u' := by
  have hc := ok.1
  obtain ⟨p, hp, a1, b1⟩ := draw_y hl hm h1 (by omega)
  have hl1 := hl.setE (e := nxtE (Se S))
  have hm1 := hm.setE (e := nxtE (Se S))
  have ok1 : okLd (setE S (nxtE (Se S))) := ok.setE _
  obtain ⟨q, hq, a2, b2⟩ := draw_y (c := Sc S) hl1.1 hm1.1 h1 (by omega)
  have hl2 := hl1.1.setE (e := nxtE (Se (setE S (nxtE (Se S)))))
  have hm2 := hm1.1.setE (e := nxtE (Se (setE S (nxtE (Se S)))))
  generalize hS2 : setE (setE S (nxtE (Se S))) (nxtE (Se (setE S (nxtE (Se S))))) = S2 at hl2 hm2
  have ok2 : okLd S2 := by rw [← hS2]; exact ok1.setE _
  have hc2 : Sc S2 = Sc S := by rw [← hS2]; exact setE_c2 _ _ _
  generalize hT2 : uI (uI t (oLd 0) 6 (nxtE (Se S))) (oLd 0) 6 (nxtE (Se (setE S (nxtE (Se S))))) = t2 at hl2 a2
  generalize hU2 : uI (uI u 39 9 (nxtE (Se S))) 39 9 (nxtE (Se (setE S (nxtE (Se S))))) = u2 at hm2 b2
  have ft : Fr t t2 [1, 10] := by rw [← hT2]; exact (Fr.uA t _ (by decide)).trans (Fr.uA _ _ (by decide))
  have fu : frU u u2 := by rw [← hU2]; exact (frU.i39 u _ (by decide)).trans (frU.i39 _ _ (by decide))
  have hp2 : p < Sc S2 := by omega
  have hq2 : q < Sc S2 := by omega
  have hw := ok2.2.2.2.2.2.1 p q
  have e0 : t.1 (oLd 0) 3 = nI (Sc S) := hl.1
  have e1 : (uI t (oLd 0) 6 (nxtE (Se S))).1 (oLd 0) 3 = nI (Sc S) := cE_l hl1.1
  have g1 : u.1 39 3 = nI (Sc S) := hm.1
  have g2 : (uI u 39 9 (nxtE (Se S))).1 39 3 = nI (Sc S) := cE_m hm1.1
  by_cases z : Sw S2 p q = 0
  · refine ⟨0, t2, u2, S2, ?_, ?_, hl2.1, hm2.1, ok2, hc2, ft, fu⟩
    · unfold f_X1_gust
      rw [e0, a1, bnd_s, e1, a2, bnd_s, btw_y hl2.1 ok2.1 hp2 hq2, bnd_s, z, if_neg (show ¬ ¬ nI 0 = 0 from z_nn)]
    · intro n x1 self v2 i hx
      unfold bd_X6_gale_35
      dsimp only
      rw [if_neg hx, g1, b1, bnd_s, g2, b2, bnd_s, noRoad_y hm2.1 ok2 hp2 hq2, bnd_s, bI_1 (decide_eq_true z), if_neg one_ne, nI_s, Int32.add_zero]
  · have hpq : ¬ p = q := fun e' => z (by rw [e']; exact ok2.2.2.2.2.2.2.2.1 q)
    have hd := ok2.2.2.1
    obtain ⟨m, hmm, a3, b3⟩ := draw_y (c := Sd S2 + 1) hl2.1 hm2.1 (by omega) (by omega)
    have hl3 := hl2.1.setE (e := nxtE (Se S2))
    have hm3 := hm2.1.setE (e := nxtE (Se S2))
    generalize hS3 : setE S2 (nxtE (Se S2)) = S3 at hl3 hm3
    have ok3 : okLd S3 := by rw [← hS3]; exact ok2.setE _
    have hc3 : Sc S3 = Sc S2 := by rw [← hS3]; exact setE_c _ _
    have hw3 : Sw S3 = Sw S2 := by rw [← hS3]; exact setE_w _ _
    generalize hT3 : uI t2 (oLd 0) 6 (nxtE (Se S2)) = t3 at hl3 a3
    generalize hU3 : uI u2 39 9 (nxtE (Se S2)) = u3 at hm3 b3
    have ft3 : Fr t2 t3 [1, 10] := by rw [← hT3]; exact Fr.uA _ _ (by decide)
    have fu3 : frU u2 u3 := by rw [← hU3]; exact frU.i39 _ _ (by decide)
    have hf3 := ok3.2.1
    have hl4 := hl3.1.setF (f := Sf S3 - m)
    have ok4 : okLd (setF S3 (Sf S3 - m)) := ok3.setF (by omega)
    obtain ⟨t5, c1, c2, c3⟩ := lay_y (n := min 999 (Sw S2 p q + m)) hl4.1 ok4.1 (show p < Sc S3 by omega) (show q < Sc S3 by omega) hpq
    have ok5 := ok4.setW (n := min 999 (Sw S2 p q + m)) (show p < Sc S3 by omega) (show q < Sc S3 by omega) hpq (by omega)
    obtain ⟨u5, d1, d2, d3⟩ := mlay_y (n := min 999 (Sw S2 p q + m)) hm3.1 (show p < 8 by omega) (show q < 8 by omega)
    have hm6 := d2.setF (f := Sf S3 - m)
    refine ⟨nI (min 999 (Sw S2 p q + m)) - nI (Sw S2 p q), t5, uI u5 39 7 (nI (Sf S3 - m)), _, ?_, ?_, c2, hm6.1, ok5, hc3.trans hc2, (ft.trans ft3).trans ((hl4.2.mono (by intro o ho; revert o; decide)).trans (c3.mono (by intro o ho; revert o; decide))), ((fu.trans fu3).trans (frU.fr d3)).trans (frU.i39 _ _ (by decide))⟩
    · have w5 : Sw (setW (setF S3 (Sf S3 - m)) p q (min 999 (Sw S2 p q + m))) p q = min 999 (Sw S2 p q + m) := setW_pq _ _ _ _
      unfold f_X1_gust
      rw [e0, a1, bnd_s, e1, a2, bnd_s, btw_y hl2.1 ok2.1 hp2 hq2, bnd_s, if_pos (show ¬ nI (Sw S2 p q) = 0 from fun g => z ((nI_z (by omega)).mp g)), hl2.1.2.2.1, nI_s, a3, bnd_s, hl3.1.2.1, max0 (by omega) (by omega), bnp_s, ltm_s, show (999 : Int32) = nI 999 from rfl, nI_add, min_nI (by omega) (by omega), bnp_s, c1, bnd_s, btw_y c2 ok5.1 (show p < Sc S3 by omega) (show q < Sc S3 by omega), bnd_s, w5]
    · intro n x1 self v2 i hx
      have w5 : (uI u5 39 7 (nI (Sf S3 - m))).1 45 (8 * p + q) = nI (min 999 (Sw S2 p q + m)) := by
        rw [hm6.1.2.2.2.2.2.2 p q (by omega) (by omega)]
        exact congrArg nI (setW_pq _ _ _ _)
      have w3 : u3.1 45 (8 * p + q) = nI (Sw S2 p q) := by rw [hm3.1.2.2.2.2.2.2 p q (by omega) (by omega), hw3]
      have f5 : u5.1 39 7 = nI (Sf S3) := d2.2.1
      unfold bd_X6_gale_35
      dsimp only
      rw [if_neg hx, g1, b1, bnd_s, g2, b2, bnd_s, noRoad_y hm2.1 ok2 hp2 hq2, bnd_s, bI_0 (by simp [z]), if_pos rfl, hm2.1.2.2.1, nI_s, b3, bnd_s, ck_t (inb8' (by omega) (by omega)), clamp8' (by omega) (by omega), lti_s, w3, show (999 : Int32) = nI 999 from rfl, nI_add, min_nI (by omega) (by omega), bnp_s, d1, bnd_s, f5, max0 (by omega) (by omega), bnp_s, ltm_s, ck_t (inb8' (by omega) (by omega)), lti_s, w5, nI_s]
