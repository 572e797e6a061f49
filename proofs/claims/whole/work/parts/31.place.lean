/-! layer 2: a new place -/
theorem shR.mono {c c' : Nat} {t u : Mem} {K : Nat} (h : shR c t u K) (hc : c ≤ c') : shR c' t u K := by
  rcases h with a | ⟨p, hp, a⟩ | a
  · exact .inl a
  · exact .inr (.inl ⟨p, by omega, a⟩)
  · exact .inr (.inr a)
theorem Oth.mono {c c' : Nat} {t u : Mem} (h : Oth c t u) (hc : c ≤ c') : Oth c' t u := ⟨fun K hK => (h.1 K hK).mono hc, h.2⟩
def addP (S : Ld) (k m : Nat) : Ld := (Sc S + 1, fun i => if i = Sc S then k else Sk S i, fun i => if i = Sc S then m else Sm S i, Sw S, Sf S, Sd S, Se S)
theorem okLd.addP {S : Ld} (h : okLd S) {k m : Nat} (hc : Sc S < 8) (hk : k ≤ 6) (hm : m ≤ 9) : okLd (addP S k m) := by
  refine ⟨hc, h.2.1, h.2.2.1, fun i => ?_, fun i => ?_, h.2.2.2.2.2.1, h.2.2.2.2.2.2.1, h.2.2.2.2.2.2.2.1, fun p q hw => ?_⟩
  · show (if i = Sc S then k else Sk S i) ≤ 6
    by_cases e : i = Sc S
    · rw [if_pos e]; exact hk
    · rw [if_neg e]; exact h.2.2.2.1 i
  · show (if i = Sc S then m else Sm S i) ≤ 9
    by_cases e : i = Sc S
    · rw [if_pos e]; exact hm
    · rw [if_neg e]; exact h.2.2.2.2.1 i
  · have := h.2.2.2.2.2.2.2.2 p q hw
    show p < Sc S + 1 ∧ q < Sc S + 1
    omega
theorem updN {f : Nat → Int32} {g : Nat → Nat} {c k : Nat} (h : ∀ i, i < 8 → f i = nI (g i)) : ∀ i, i < 8 → upd f c (nI k) i = nI (if i = c then k else g i) := fun i hi => by
  by_cases e : i = c
  · rw [if_pos e, e, upd_same]
  · rw [if_neg e, upd_ne _ e, h i hi]
theorem found_y {t : Mem} {L : Fin 3} {S : Ld} {k m : Nat} (h : isLd t L S) (hc : Sc S < 8) : ∃ t', f_X1_found L (nI k) (nI m) t = some (nI (Sc S), t') ∧ isLd t' L (addP S k m) ∧ Fr t t' [oLd L, oKn L, oMk L] := by
  have hL := L.isLt
  have n1 : ¬ oLd L = oKn L := by simp only [oLd, oKn]; omega
  have n2 : ¬ oLd L = oMk L := by simp only [oLd, oMk]; omega
  have n3 : ¬ oKn L = oLd L := by simp only [oLd, oKn]; omega
  have n4 : ¬ oKn L = oMk L := by simp only [oKn, oMk]; omega
  have n5 : ¬ oMk L = oLd L := by simp only [oLd, oMk]; omega
  have n6 : ¬ oMk L = oKn L := by simp only [oKn, oMk]; omega
  have n7 : ¬ oRd L = oLd L := by simp only [oLd, oRd]; omega
  have n8 : ¬ oRd L = oKn L := by simp only [oKn, oRd]; omega
  have n9 : ¬ oRd L = oMk L := by simp only [oMk, oRd]; omega
  refine ⟨uI (uI (uI t (oKn L) (Sc S) (nI k)) (oMk L) (Sc S) (nI m)) (oLd L) 3 (nI (Sc S + 1)), ?_, ?_, ?_⟩
  · unfold f_X1_found f_X1_hasRoom
    rw [h.1, if_neg (by rw [show (8 : Int32) = nI 8 from rfl, nI_le' (by omega) (by omega)]; omega), bnd_s, if_pos one_ne, h.1, ck_t (inb_nI hc (by decide)), ltm_s, nI_clamp (by omega)]
    have e1 : (uI t (oKn L) (Sc S) (nI k)).1 (oLd L) 3 = nI (Sc S) := by
      unfold uI; rw [uA_ne _ n1, h.1]
    have e2 : (uI (uI t (oKn L) (Sc S) (nI k)) (oMk L) (Sc S) (nI m)).1 (oLd L) 3 = nI (Sc S) := by
      rw [← e1]; unfold uI; rw [uA_ne _ n2]
    rw [e1, ck_t (inb_nI hc (by decide)), ltm_s, nI_clamp (by omega), e2, ltm_s, show nI (Sc S) + 1 = nI (Sc S + 1) from nI_add _ 1]
    unfold uI
    rw [uA_same, upd_same]
    show some (nI (Sc S + 1) - 1, _) = _
    rw [nI_prd (by omega)]
  · unfold isLd uI
    rw [uA_same, uA_ne _ n3, uA_ne _ n4, uA_same, uA_ne _ n5, uA_same, uA_ne _ n6, uA_ne _ n7, uA_ne _ n9, uA_ne _ n8, uA_ne _ n2, uA_ne _ n1]
    exact ⟨upd_same _ _ _, (upd_ne _ (by decide)).trans h.2.1, (upd_ne _ (by decide)).trans h.2.2.1, (upd_ne _ (by decide)).trans h.2.2.2.1, updN h.2.2.2.2.1, updN h.2.2.2.2.2.1, h.2.2.2.2.2.2⟩
  · exact ((Fr.uA t _ (by simp)).trans (Fr.uA _ _ (by simp))).trans (Fr.uA _ _ (by simp))
def mwz (u : Mem) (c : Nat) : Nat → Mem
  | 0 => u
  | i + 1 => uI (uI (mwz u c i) 45 (8 * c + i) 0) 45 (8 * i + c) 0
theorem mwz_y {u : Mem} {S : Ld} (ok : okLd S) (hc : Sc S < 8) (h : ∀ p q, p < 8 → q < 8 → u.1 45 (8 * p + q) = nI (Sw S p q)) : ∀ i, i ≤ 8 → Fr u (mwz u (Sc S) i) [45] ∧ ∀ p q, p < 8 → q < 8 → (mwz u (Sc S) i).1 45 (8 * p + q) = nI (Sw S p q) := by
  intro i
  induction i with
  | zero => exact fun _ => ⟨Fr.rf _ _, h⟩
  | succ i ih =>
    intro hi
    obtain ⟨a, b⟩ := ih (by omega)
    refine ⟨(a.trans (Fr.uA _ _ (by simp))).trans (Fr.uA _ _ (by simp)), fun p q hp hq => ?_⟩
    have z1 : Sw S (Sc S) i = 0 := Decidable.byContradiction fun e => by have := (ok.2.2.2.2.2.2.2.2 _ _ e).1; omega
    have z2 : Sw S i (Sc S) = 0 := Decidable.byContradiction fun e => by have := (ok.2.2.2.2.2.2.2.2 _ _ e).2; omega
    unfold mwz uI
    rw [uA_same, uA_same]
    by_cases e1 : 8 * p + q = 8 * i + Sc S
    · obtain ⟨rfl, rfl⟩ : p = i ∧ q = Sc S := by omega
      rw [upd_same, z2]; rfl
    rw [upd_ne _ e1]
    by_cases e2 : 8 * p + q = 8 * Sc S + i
    · obtain ⟨rfl, rfl⟩ : p = Sc S ∧ q = i := by omega
      rw [upd_same, z1]; rfl
    rw [upd_ne _ e2, b p q hp hq]
theorem newP_y {u : Mem} {S : Ld} {k m n : Nat} (hn : 8 < n) (h : isMd u S) (ok : okLd S) (hc : Sc S < 8) : ∃ u', f_X6_newPlace n (nI k) (nI m) u = some (nI (Sc S), u') ∧ isMd u' (addP S k m) ∧ u'.2 = u.2 ∧ (∀ o, ¬ o ∈ [39, 43, 44, 45] → u'.1 o = u.1 o) ∧ ∀ j, ¬ j = 3 → u'.1 39 j = u.1 39 j := by
  unfold f_X6_newPlace
  have e1 : (uI u 43 (Sc S) (nI k)).1 39 3 = nI (Sc S) := by
    unfold uI; rw [uA_ne _ (by decide), h.1]
  have e2 : ∀ o, ¬ o ∈ [43, 44] → (uI (uI u 43 (Sc S) (nI k)) 44 (Sc S) (nI m)).1 o = u.1 o := fun o ho => by
    unfold uI; rw [uA_ne _ (by simp_all), uA_ne _ (by simp_all)]
  rw [h.1, ck_t (inb_nI hc (by decide)), ltm_s, nI_clamp (by omega), e1, ck_t (inb_nI hc (by decide)), ltm_s, nI_clamp (by omega)]
  have hz := mwz_y (u := uI (uI u 43 (Sc S) (nI k)) 44 (Sc S) (nI m)) ok hc (by rw [e2 45 (by decide)]; exact h.2.2.2.2.2.2)
  generalize hU : uI (uI u 43 (Sc S) (nI k)) 44 (Sc S) (nI m) = U at hz e2 ⊢
  have z8 := hz 8 (Nat.le_refl 8)
  have h39 : ∀ i, i ≤ 8 → (mwz U (Sc S) i).1 39 = u.1 39 := fun i hi => ((hz i hi).1.1 39 (by decide)).trans (e2 39 (by decide))
  refine ⟨uI (mwz U (Sc S) 8) 39 3 (nI (Sc S + 1)), ?_, ?_, ?_, ?_, ?_⟩
  · refine iter_up0 8 (fun i => (nI i, mwz U (Sc S) i)) _ rfl hn ?_ ?_
    · intro self i hi
      unfold bd_X6_newPlace_22
      dsimp only
      have e3 : (uI (mwz U (Sc S) i) 45 (8 * Sc S + i) 0).1 39 3 = nI (Sc S) := by
        unfold uI; rw [uA_ne _ (by decide), h39 i (by omega), h.1]
      rw [if_neg (by rw [show (8 : Int32) = nI 8 from rfl, nI_le' (by omega) (by omega)]; omega), h39 i (by omega), h.1, ix8', ck_t (inb_nI (by omega) (by decide)), ltm_s, nI_clamp (by omega), e3, ix8', ck_t (inb_nI (by omega) (by decide)), ltm_s, nI_clamp (by omega), show nI i + 1 = nI (i + 1) from nI_add _ 1]
      rfl
    · intro self
      unfold bd_X6_newPlace_22
      dsimp only
      rw [if_pos (by decide), h39 8 (by omega), h.1, ltm_s, show nI (Sc S) + 1 = nI (Sc S + 1) from nI_add _ 1]
  · have z43 : (mwz U (Sc S) 8).1 43 = upd (u.1 43) (Sc S) (nI k) := by
      rw [z8.1.1 43 (by decide), ← hU]; unfold uI; rw [uA_ne _ (by decide), uA_same]
    have z44 : (mwz U (Sc S) 8).1 44 = upd (u.1 44) (Sc S) (nI m) := by
      rw [z8.1.1 44 (by decide), ← hU]; unfold uI; rw [uA_same, uA_ne _ (by decide)]
    unfold isMd uI
    rw [uA_same, uA_ne _ (by decide), uA_ne _ (by decide), uA_ne _ (by decide), z43, z44, h39 8 (by omega)]
    exact ⟨upd_same _ _ _, (upd_ne _ (by decide)).trans h.2.1, (upd_ne _ (by decide)).trans h.2.2.1, (upd_ne _ (by decide)).trans h.2.2.2.1, updN h.2.2.2.2.1, updN h.2.2.2.2.2.1, z8.2⟩
  · show (mwz U (Sc S) 8).2 = u.2
    rw [z8.1.2, ← hU]; rfl
  · intro o ho
    unfold uI
    rw [uA_ne _ (by simp_all), z8.1.1 o (by simp_all), e2 o (by simp_all)]
  · intro j hj
    rw [m39 hj, h39 8 (by omega)]
theorem stp7 {n : Nat} (hn : 8 < n) : Stp7 Rel n := fun t u x1 x2 h0 => by
  obtain ⟨S, hl, hm, ok, ho⟩ := id h0
  have hc := ok.1
  unfold f_X5_place f_X6_place f_X5_isKind jn_X5_place_23
  by_cases e1 : x1 < 0
  · rw [if_pos e1, bnp_s, if_neg z_nn, win_n (.inl e1), bnp_s, if_neg z_nn]
    exact fin_no 1 h0 (by decide) (by decide)
  by_cases e2 : 6 < x1
  · rw [if_neg e1, if_pos e2, bnp_s, if_neg z_nn, win_n (.inr e2), bnp_s, if_neg z_nn]
    exact fin_no 1 h0 (by decide) (by decide)
  rw [if_neg e1, if_neg e2, bnp_s, if_pos one_ne, win_y e1 e2, bnp_s, if_pos one_ne]
  obtain ⟨k, hk, rfl⟩ := as_nat 6 (by decide) e1 (Int32.not_lt.mp e2)
  by_cases e3 : x2 < 0
  · rw [if_pos e3, win_n (.inl e3), bnp_s, if_neg z_nn]
    exact fin_no 6 h0 (by decide) (by decide)
  rw [if_neg e3]
  by_cases e4 : x2 ≤ 9
  · obtain ⟨m, hm', rfl⟩ := as_nat 9 (by decide) e3 e4
    rw [if_pos e4, win_y e3 (Int32.not_lt.mpr e4), bnp_s, if_pos one_ne, hm.1]
    unfold f_X1_hasRoom
    rw [hl.1]
    by_cases e5 : Sc S = 8
    · rw [e5, if_pos (by decide), bnd_s, if_neg z_nn, if_neg (fun h => h rfl)]
      exact fin_no 7 h0 (by decide) (by decide)
    · obtain ⟨t', a1, a2, a3⟩ := found_y (k := k) (m := m) hl (show Sc S < 8 by omega)
      obtain ⟨u', b1, b2, b3, b4, b5⟩ := newP_y (k := k) (m := m) hn hm ok (show Sc S < 8 by omega)
      rw [if_neg (by rw [show (8 : Int32) = nI 8 from rfl, nI_le' (by omega) (by omega)]; omega), bnd_s, if_pos one_ne, a1, bnd_s, if_pos (show ¬ nI (Sc S) = 8 from nI_ne (b := 8) (by omega) (by omega) e5), b1, bnd_s]
      exact ⟨_, _, _, rfl, rfl, _, a2, b2, ok.addP (by omega) hk hm', (ho.fr (fun o hm => a3.1 o (by revert o; decide)) a3.2 (fun o hm => b4 o (by revert o; decide)) b3 (b5 _ (by decide)) (b5 _ (by decide)) (b5 _ (by decide))).mono (by show Sc S ≤ Sc S + 1; omega)⟩
  · rw [if_neg e4, win_n (.inr (Int32.not_le.mp e4)), bnp_s, if_neg z_nn]
    exact fin_no 6 h0 (by decide) (by decide)
