theorem Oth.act {c : Nat} {t u t' u' : Mem} {bs : List Int32} (h : Oth c t u) (f1 : Fr t t' [37, 38]) (f2 : frT u u') (e1 : t'.1 37 1 = nI bs.length) (e2 : u'.1 39 12 = nI bs.length) (e3 : ∀ j, j < bs.length → t'.1 38 j = bs.getD j 0) (e4 : ∀ j, j < bs.length → u'.1 47 j = bs.getD j 0) (hb : bs.length ≤ 20) : Oth c t' u' := by
  refine ⟨fun K hK => (h.1 K hK).fr (f1.1 _ ?_) f1.2 (f2.2.1 _ (by decide)) (f2.2.1 _ (by decide)) f2.1, h.2.1.fr (f1.1 _ (by decide)) (f1.1 _ (by decide)) (f1.1 _ (by decide)) (f1.1 _ (by decide)) (f1.1 _ (by decide)) (f2.2.2 _ (by decide)) (f2.2.1 _ (by decide)), ?_, ?_, ?_, ?_⟩
  · revert K hK; decide
  · intro k hk
    rw [f1.1 34 (by decide), f2.2.1 46 (by decide)]
    exact h.2.2.1 k hk
  · rw [f1.1 35 (by decide), f2.2.2 10 (by decide)]
    exact h.2.2.2.1
  · rw [e1, e2]
  · intro j hj hl
    rw [e1, nI_lt' (by omega) (by omega)] at hl
    rw [e3 j hl, e4 j hl]
theorem isMd.frT {u u' : Mem} {S : Ld} (h : isMd u S) (f : frT u u') : isMd u' S := by
  unfold isMd
  rw [f.2.2 3 (by decide), f.2.2 7 (by decide), f.2.2 8 (by decide), f.2.2 9 (by decide), f.2.1 43 (by decide), f.2.1 44 (by decide), f.2.1 45 (by decide)]
  exact h
theorem stp35 {n : Nat} : Stp35 Rel n := fun t u x1 x2 x3 h0 => by
  obtain ⟨S, hl, hm, ok, ho⟩ := id h0
  have hc := ok.1
  have f0 : Fr t (uI t 37 1 0) [37, 38] := Fr.uI t _ _ (by decide)
  have g0 : frT u (uI u 39 12 0) := ⟨rfl, fun o ho => uA_ne _ (fun e => ho (by rw [e]; decide)), fun j hj => m39 hj⟩
  have hl1 : isLd (uI t 37 1 0) 0 S := hl.fr f0 (by decide) (by decide) (by decide) (by decide)
  have hm1 : isMd (uI u 39 12 0) S := hm.frT g0
  have hT0 : (uI t 37 1 0).1 37 1 = nI 0 := by rw [uI_same, upd_same]; rfl
  have hU0 : (uI u 39 12 0).1 39 12 = nI 0 := by rw [uI_same, upd_same]; rfl
  have hR : Rel (uI t 37 1 0) (uI u 39 12 0) := ⟨S, hl1, hm1, ok, ho.act (bs := []) f0 g0 hT0 hU0 (fun j hj => absurd hj (Nat.not_lt_zero j)) (fun j hj => absurd hj (Nat.not_lt_zero j)) (by decide)⟩
  unfold f_X5_act f_X6_act f_X0_forget
  rw [ltm_s, ltm_s, bnd_s]
  rcases e1 : plc (Sc S) x1 with _ | p
  · rw [has_n hl1 hc e1, bnd_s, if_pos rfl, isPl_n hm1 hc e1, bnd_s, if_pos rfl]
    exact ⟨_, _, _, rfl, rfl, hR⟩
  obtain ⟨rfl, hp⟩ := plc_some e1
  rw [has_y hl1 hc hp, bnd_s, if_neg one_ne, isPl_y hm1 hc hp, bnd_s, if_neg one_ne]
  by_cases e3 : x2 < 0
  · rw [if_pos e3, win_n (.inl e3), bnp_s, if_neg z_nn]
    exact ⟨_, _, _, rfl, rfl, hR⟩
  by_cases e4 : x2 ≤ 2
  · rw [if_neg e3, if_pos e4, win_y e3 (Int32.not_lt.mpr e4), bnp_s, if_pos one_ne, ck_t (inb_nI (by omega) (by decide)), ck_t (inb_nI (by omega) (by decide)), nI_clamp (by omega), hl1.2.2.2.2.1 p (by omega), hl1.2.2.2.2.2.1 p (by omega)]
    have e5 : x2 = 0 ∨ x2 = 1 ∨ x2 = 2 := by
      obtain ⟨j, hj, rfl⟩ := as_nat 2 (by decide) e3 e4
      rcases (show j = 0 ∨ j = 1 ∨ j = 2 by omega) with rfl | rfl | rfl
      · exact .inl rfl
      · exact .inr (.inl rfl)
      · exact .inr (.inr rfl)
    obtain ⟨f, bs, hb, k1, k2, k3, k4⟩ := act_both (a := Sm S p) (x := x3) (ok.2.2.2.1 p) (show p < 8 by omega) e5
    generalize hT3 : uI (uI (uI (uI t 37 1 0) 37 2 (nI (Sk S p))) 37 3 (nI p)) 37 4 (nI (Sm S p)) = t3
    have a0 : Fr t t3 [37, 38] := by
      rw [← hT3]
      exact ((f0.trans (Fr.uI _ _ _ (by decide))).trans (Fr.uI _ _ _ (by decide))).trans (Fr.uI _ _ _ (by decide))
    have a1 : tT t3 (nI (Sk S p)) (nI p) (nI (Sm S p)) [] := by
      rw [← hT3]
      refine ⟨?_, ?_, ?_, ?_, fun j hj => absurd hj (Nat.not_lt_zero j)⟩
      · rw [uI_same, upd_ne _ (by decide), uI_same, upd_ne _ (by decide), uI_same, upd_ne _ (by decide)]; exact hT0
      · rw [uI_same, upd_ne _ (by decide), uI_same, upd_ne _ (by decide), uI_same, upd_same]
      · rw [uI_same, upd_ne _ (by decide), uI_same, upd_same]
      · rw [uI_same, upd_same]
    obtain ⟨t', b1, b2, b3⟩ := k1 t3 [] x3 0 (by omega) (by simp; omega) a1
    have hcl : f_X0_perform n (nI (Sk S p)) (nI p) (nI (Sm S p)) x2 x3 (uI t 37 1 0) = some (f x3, t') := by
      unfold f_X0_perform
      rw [ltm_s, ltm_s, ltm_s, hT3, a1.2.1]
      show bnd (f_X0_run 12 (nI (Sk S p)) x2 x3 (nI 0) t3) _ = _
      rw [b1, bnd_s]
    rw [hcl, bnd_s]
    have fin : ∀ {F : Int32 → Mem → Option (Int32 × Mem)}, mS F p (nI (Sk S p)) (nI (Sm S p)) f bs → ∃ r t'' u', some (f x3, t') = some (r, t'') ∧ (bnd (F x3 (uI u 39 12 0)) fun r t => some (r, t)) = some (r, u') ∧ Rel t'' u' := by
      intro F hF
      obtain ⟨u', c1, c2, c3⟩ := hF (uI u 39 12 0) [] x3 (by simp; omega) (hm1.2.2.2.2.1 p (by omega)) (hm1.2.2.2.2.2.1 p (by omega)) ⟨hU0, fun j hj => absurd hj (Nat.not_lt_zero j)⟩
      rw [c1, bnd_s]
      exact ⟨_, _, _, rfl, rfl, S, hl.fr (a0.trans b3) (by decide) (by decide) (by decide) (by decide), hm1.frT c3, ok, ho.act (bs := bs) (a0.trans b3) (g0.trans c3) b2.1 c2.1 b2.2.2.2.2 c2.2 hb⟩
    rcases e5 with rfl | rfl | rfl
    · rw [if_neg (fun g => g rfl)]
      exact fin (k2 rfl)
    · rw [if_pos (by decide), if_neg (fun g => g rfl)]
      exact fin (k3 rfl)
    · rw [if_pos (by decide), if_pos (by decide)]
      exact fin (k4 rfl)
  · rw [if_neg e3, if_neg e4, win_n (.inr (Int32.not_le.mp e4)), bnp_s, if_neg z_nn]
    exact ⟨_, _, _, rfl, rfl, hR⟩
