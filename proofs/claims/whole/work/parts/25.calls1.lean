/-! layer 2: the calls of two places that lay or look at a road -/
theorem fin_no {t u : Mem} (k : Nat) (h : Rel t u) (h1 : 1 ≤ k) (hk : k < 8) : ∃ r t' u', (bnd (f_X5_refuse (-nI k) t) fun r t => some (r, t)) = some (r, t') ∧ (bnd (f_X6_no (-nI k) u) fun r t => some (r, t)) = some (r, u') ∧ Rel t' u' := by
  obtain ⟨t', u', a, b, r⟩ := h.ref h1 hk
  rw [a, b]
  exact ⟨_, _, _, rfl, rfl, r⟩
theorem fin_no10 {t u : Mem} (k : Nat) (h : Rel t u) (h1 : 1 ≤ k) (hk : k < 8) : ∃ r t' u', (bnd (f_X5_refuseBelowTen (-nI k) t) fun r t => some (r, t)) = some (r, t') ∧ (bnd (f_X6_no10 (-nI k) u) fun r t => some (r, t)) = some (r, u') ∧ Rel t' u' := by
  obtain ⟨t', u', a, b, r⟩ := h.ref10 h1 hk
  rw [a, b]
  exact ⟨_, _, _, rfl, rfl, r⟩
theorem z_nn : ¬ ¬ (0 : Int32) = 0 := by decide
theorem Oth.two {c : Nat} {t u t' u' : Mem} (h : Oth c t u) {l l' : List Nat} (h1 : Fr t t' l) (h2 : Fr u u' l') (h3 : ∀ o, o ∈ keptT → ¬ o ∈ l) (h4 : ∀ o, o ∈ keptU → ¬ o ∈ l') (h5 : ¬ 39 ∈ l') : Oth c t' u' := h.fr2 h1 h2 h3 h4 (congrFun (h2.1 39 h5) 10) (congrFun (h2.1 39 h5) 12) (congrFun (h2.1 39 h5) 14)
theorem mbtw {u : Mem} {S : Ld} {p q : Nat} {Rt : Type} (h : isMd u S) (hp : p < 8) (hq : q < 8) (K : Int32 → Option Rt) : (ck (inb ((8 * nI p) + nI q) 64) <| K (u.1 45 ((8 * nI p) + nI q).toNatClampNeg)) = K (nI (Sw S p q)) := by
  rw [ck_t (inb8' hp hq), clamp8' hp hq, h.2.2.2.2.2.2 p q hp hq]
theorem stp10 {n : Nat} : Stp10 Rel n := fun t u x1 x2 h0 => by
  obtain ⟨S, hl, hm, ok, ho⟩ := id h0
  unfold f_X5_miles f_X6_miles jn_X6_miles_16
  rcases e1 : plc (Sc S) x1 with _ | p
  · rw [hasBoth_n hl ok.1 (.inl e1), bnd_s, if_neg z_nn, isPl_n hm ok.1 e1, bnd_s, if_pos rfl]
    exact fin_no10 1 h0 (by decide) (by decide)
  obtain ⟨rfl, hp⟩ := plc_some e1
  rw [isPl_y hm ok.1 hp, bnd_s, if_neg one_ne]
  rcases e2 : plc (Sc S) x2 with _ | q
  · rw [hasBoth_n hl ok.1 (.inr e2), bnd_s, if_neg z_nn, isPl_n hm ok.1 e2, bnd_s, if_neg z_nn]
    exact fin_no10 1 h0 (by decide) (by decide)
  obtain ⟨rfl, hq⟩ := plc_some e2
  rw [hasBoth_y hl ok.1 hp hq, bnd_s, if_pos one_ne, isPl_y hm ok.1 hq, bnd_s, if_pos one_ne]
  have hc := ok.1
  by_cases e : nI p = nI q
  · rw [if_neg (fun f => f e), if_neg (fun f => f e)]
    exact fin_no10 6 h0 (by decide) (by decide)
  rw [if_pos e, if_pos e, btw_y hl ok.1 hp hq, bnd_s, ck_t (inb8' (by omega) (by omega)), clamp8' (by omega) (by omega), hm.2.2.2.2.2.2 p q (by omega) (by omega)]
  exact ⟨_, _, _, rfl, rfl, h0⟩
theorem stp9 {n : Nat} : Stp9 Rel n := fun t u x1 x2 x3 h0 => by
  obtain ⟨S, hl, hm, ok, ho⟩ := id h0
  unfold f_X5_road f_X6_road jn_X6_road_16 jn_X6_road_38 jn_X5_road_34
  rcases e1 : plc (Sc S) x1 with _ | p
  · rw [hasBoth_n hl ok.1 (.inl e1), bnd_s, if_neg z_nn, isPl_n hm ok.1 e1, bnd_s, if_pos rfl]
    exact fin_no 1 h0 (by decide) (by decide)
  obtain ⟨rfl, hp⟩ := plc_some e1
  rw [isPl_y hm ok.1 hp, bnd_s, if_neg one_ne]
  rcases e2 : plc (Sc S) x2 with _ | q
  · rw [hasBoth_n hl ok.1 (.inr e2), bnd_s, if_neg z_nn, isPl_n hm ok.1 e2, bnd_s, if_neg z_nn]
    exact fin_no 1 h0 (by decide) (by decide)
  obtain ⟨rfl, hq⟩ := plc_some e2
  rw [hasBoth_y hl ok.1 hp hq, bnd_s, if_pos one_ne, isPl_y hm ok.1 hq, bnd_s, if_pos one_ne]
  have hc := ok.1
  by_cases e : nI p = nI q
  · rw [if_pos e, if_pos e]
    exact fin_no 6 h0 (by decide) (by decide)
  rw [if_neg e, if_neg e]
  by_cases e3 : x3 < 0
  · rw [if_pos e3, win_n (.inl e3), bnp_s, if_neg z_nn]
    exact fin_no 6 h0 (by decide) (by decide)
  by_cases e4 : x3 ≤ 999
  · rw [if_neg e3, if_pos e4, win_y e3 (Int32.not_lt.mpr e4), bnp_s, if_pos one_ne]
    have e5 : ¬ x3.toInt < 0 := fun e => e3 (i_lt.mpr e)
    have e6 : x3.toInt ≤ 999 := i_le.mp e4
    obtain ⟨j, ej⟩ : ∃ j : Nat, x3.toInt = j := ⟨x3.toInt.toNat, by omega⟩
    have ex : x3 = nI j := Int32.toInt_inj.mp (by rw [nI_toInt (by omega)]; exact ej)
    subst ex
    have hpq : ¬ p = q := fun e' => e (by rw [e'])
    obtain ⟨t', a1, a2, a3⟩ := lay_y (n := j) hl ok.1 hp hq hpq
    obtain ⟨u', b1, b2, b3⟩ := mlay_y (n := j) hm (show p < 8 by omega) (show q < 8 by omega)
    rw [btw_y hl ok.1 hp hq, bnd_s, a1, bnd_s, b1, bnd_s]
    exact ⟨_, _, _, rfl, rfl, _, a2, b2, ok.setW hp hq hpq (by omega), ho.two a3 b3 (by decide) (by decide) (by decide)⟩
  · rw [if_neg e3, if_neg e4, win_n (.inr (Int32.not_le.mp e4)), bnp_s, if_neg z_nn]
    exact fin_no 6 h0 (by decide) (by decide)
theorem stp14 {n : Nat} : Stp14 Rel n := fun t u x1 x2 x3 h0 => by
  obtain ⟨S, hl, hm, ok, ho⟩ := id h0
  unfold f_X5_cost f_X6_cost jn_X6_cost_16 jn_X6_cost_38 jn_X5_cost_35
  rcases e1 : plc (Sc S) x1 with _ | p
  · rw [hasBoth_n hl ok.1 (.inl e1), bnd_s, if_neg z_nn, isPl_n hm ok.1 e1, bnd_s, if_pos rfl]
    exact fin_no 1 h0 (by decide) (by decide)
  obtain ⟨rfl, hp⟩ := plc_some e1
  rw [isPl_y hm ok.1 hp, bnd_s, if_neg one_ne]
  rcases e2 : plc (Sc S) x2 with _ | q
  · rw [hasBoth_n hl ok.1 (.inr e2), bnd_s, if_neg z_nn, isPl_n hm ok.1 e2, bnd_s, if_neg z_nn]
    exact fin_no 1 h0 (by decide) (by decide)
  obtain ⟨rfl, hq⟩ := plc_some e2
  rw [hasBoth_y hl ok.1 hp hq, bnd_s, if_pos one_ne, isPl_y hm ok.1 hq, bnd_s, if_pos one_ne]
  have hc := ok.1
  by_cases e : nI p = nI q
  · rw [if_pos e, if_pos e]
    exact fin_no 6 h0 (by decide) (by decide)
  rw [if_neg e, if_neg e]
  by_cases e3 : x3 < 1
  · rw [if_pos e3, win_n (.inl e3), bnp_s, if_neg z_nn]
    exact fin_no 6 h0 (by decide) (by decide)
  by_cases e4 : x3 ≤ 998
  · rw [if_neg e3, if_pos e4, win_y e3 (Int32.not_lt.mpr e4), bnp_s, if_pos one_ne]
    have e5 : ¬ x3.toInt < 1 := fun e => e3 (i_lt.mpr e)
    have e6 : x3.toInt ≤ 998 := i_le.mp e4
    obtain ⟨j, ej⟩ : ∃ j : Nat, x3.toInt = j := ⟨x3.toInt.toNat, by omega⟩
    have ex : x3 = nI j := Int32.toInt_inj.mp (by rw [nI_toInt (by omega)]; exact ej)
    subst ex
    rw [cost_y hl ok hp hq (by omega), bnd_s, mcost_y hm ok hp hq (by omega), bnd_s]
    exact ⟨_, _, _, rfl, rfl, h0⟩
  · rw [if_neg e3, if_neg e4, win_n (.inr (Int32.not_le.mp e4)), bnp_s, if_neg z_nn]
    exact fin_no 6 h0 (by decide) (by decide)
theorem okLd.setF {S : Ld} (h : okLd S) {f : Nat} (hf : f ≤ 99999) : okLd (setF S f) := ⟨h.1, hf, h.2.2⟩
theorem okLd.setD {S : Ld} (h : okLd S) {f : Nat} (hf : f ≤ 9) : okLd (setD S f) := ⟨h.1, h.2.1, hf, h.2.2.2⟩
theorem okLd.setE {S : Ld} (h : okLd S) (e : Int32) : okLd (setE S e) := h
theorem isLd.setD {t : Mem} {L : Fin 3} {S : Ld} {f : Nat} (h : isLd t L S) : isLd (uI t (oLd L) 5 (nI f)) L (setD S f) ∧ Fr t (uI t (oLd L) 5 (nI f)) [oLd L] := by
  have hL := L.isLt
  refine ⟨?_, Fr.uA t _ (List.mem_singleton.mpr rfl)⟩
  unfold isLd
  rw [uA_same, uA_ne _ (show ¬ oKn L = oLd L by simp only [oLd, oKn]; omega), uA_ne _ (show ¬ oMk L = oLd L by simp only [oLd, oMk]; omega), uA_ne _ (show ¬ oRd L = oLd L by simp only [oLd, oRd]; omega)]
  exact ⟨(upd_ne _ (by decide)).trans h.1, (upd_ne _ (by decide)).trans h.2.1, upd_same _ _ _, (upd_ne _ (by decide)).trans h.2.2.2.1, h.2.2.2.2⟩
theorem isLd.setE {t : Mem} {L : Fin 3} {S : Ld} {e : Int32} (h : isLd t L S) : isLd (uI t (oLd L) 6 e) L (setE S e) ∧ Fr t (uI t (oLd L) 6 e) [oLd L] := by
  have hL := L.isLt
  refine ⟨?_, Fr.uA t _ (List.mem_singleton.mpr rfl)⟩
  unfold isLd
  rw [uA_same, uA_ne _ (show ¬ oKn L = oLd L by simp only [oLd, oKn]; omega), uA_ne _ (show ¬ oMk L = oLd L by simp only [oLd, oMk]; omega), uA_ne _ (show ¬ oRd L = oLd L by simp only [oLd, oRd]; omega)]
  exact ⟨(upd_ne _ (by decide)).trans h.1, (upd_ne _ (by decide)).trans h.2.1, (upd_ne _ (by decide)).trans h.2.2.1, upd_same _ _ _, h.2.2.2.2⟩
theorem isMd.setD {u : Mem} {S : Ld} {f : Nat} (h : isMd u S) : isMd (uI u 39 8 (nI f)) (setD S f) ∧ Fr u (uI u 39 8 (nI f)) [39] := by
  refine ⟨?_, Fr.uA u _ (List.mem_singleton.mpr rfl)⟩
  unfold isMd
  rw [uA_same, uA_ne _ (by decide), uA_ne _ (by decide), uA_ne _ (by decide)]
  exact ⟨(upd_ne _ (by decide)).trans h.1, (upd_ne _ (by decide)).trans h.2.1, upd_same _ _ _, (upd_ne _ (by decide)).trans h.2.2.2.1, h.2.2.2.2⟩
theorem isMd.setE {u : Mem} {S : Ld} {e : Int32} (h : isMd u S) : isMd (uI u 39 9 e) (setE S e) ∧ Fr u (uI u 39 9 e) [39] := by
  refine ⟨?_, Fr.uA u _ (List.mem_singleton.mpr rfl)⟩
  unfold isMd
  rw [uA_same, uA_ne _ (by decide), uA_ne _ (by decide), uA_ne _ (by decide)]
  exact ⟨(upd_ne _ (by decide)).trans h.1, (upd_ne _ (by decide)).trans h.2.1, (upd_ne _ (by decide)).trans h.2.2.1, upd_same _ _ _, h.2.2.2.2⟩
theorem m39 {u : Mem} {k : Nat} {x : Int32} {j : Nat} (h : ¬ j = k) : (uI u 39 k x).1 39 j = u.1 39 j := by
  unfold uI
  rw [uA_same, upd_ne _ h]
theorem stp34 {n : Nat} : Stp34 Rel n := fun t u x h0 => by
  obtain ⟨S, hl, hm, ok, ho⟩ := id h0
  have e : t.1 (oLd 0) 6 = u.1 39 9 := hl.2.2.2.1.trans hm.2.2.2.1.symm
  unfold f_X5_seed f_X6_seed
  rw [ltm_s, ltm_s, e]
  have a := hl.setE (e := x)
  have b := hm.setE (e := x)
  exact ⟨_, _, _, rfl, rfl, _, a.1, b.1, ok, ho.fr2 a.2 b.2 (by decide) (by decide) (m39 (by decide)) (m39 (by decide)) (m39 (by decide))⟩
theorem stp11 {n : Nat} : Stp11 Rel n := fun t u x1 x2 h0 => by
  obtain ⟨S, hl, hm, ok, ho⟩ := id h0
  unfold f_X5_ask f_X6_ask jn_X5_ask_32 jn_X5_ask_65 jn_X6_ask_28 jn_X6_ask_22 jn_X6_ask_50 jn_X6_ask_28
  by_cases e1 : x1 = 0
  · subst e1
    rw [if_neg z_nn, win_y (by decide) (by decide), bnp_s, if_neg one_ne, if_neg z_nn]
    by_cases e3 : x2 < 0
    · rw [if_pos e3, win_n (.inl e3), bnp_s, if_neg z_nn, if_pos (by decide)]
      exact fin_no 6 h0 (by decide) (by decide)
    rw [if_neg e3]
    by_cases e4 : 99999 < x2
    · rw [if_pos e4, win_n (.inr e4), bnp_s, if_neg z_nn, if_pos (by decide)]
      exact fin_no 6 h0 (by decide) (by decide)
    rw [if_neg e4, win_y e3 e4, bnp_s, if_pos one_ne, if_neg z_nn, if_neg z_nn, ltm_s, ltm_s, hl.2.1, hm.2.1]
    have e5 : ¬ x2.toInt < 0 := fun e => e3 (i_lt.mpr e)
    have e6 : ¬ 99999 < x2.toInt := fun e => e4 (i_lt.mpr e)
    obtain ⟨j, ej⟩ : ∃ j : Nat, x2.toInt = j := ⟨x2.toInt.toNat, by omega⟩
    have ex : x2 = nI j := Int32.toInt_inj.mp (by rw [nI_toInt (by omega)]; exact ej)
    subst ex
    have a := hl.setF (f := j)
    have b := hm.setF (f := j)
    exact ⟨_, _, _, rfl, rfl, _, a.1, b.1, ok.setF (by omega), ho.fr2 a.2 b.2 (by decide) (by decide) (m39 (by decide)) (m39 (by decide)) (m39 (by decide))⟩
  rw [if_pos e1]
  by_cases e2 : x1 = 1
  · subst e2
    rw [if_neg (by decide), win_y (by decide) (by decide), bnp_s, if_neg one_ne, if_pos one_ne]
    by_cases e3 : x2 < 0
    · rw [if_pos e3, win_n (.inl e3), bnp_s, if_neg z_nn]
      exact fin_no 6 h0 (by decide) (by decide)
    rw [if_neg e3]
    by_cases e4 : 9 < x2
    · rw [if_pos e4, win_n (.inr e4), bnp_s, if_neg z_nn]
      exact fin_no 6 h0 (by decide) (by decide)
    rw [if_neg e4, win_y e3 e4, bnp_s, if_pos one_ne, if_pos one_ne, if_pos one_ne, ltm_s, ltm_s, hl.2.2.1, hm.2.2.1]
    have e5 : ¬ x2.toInt < 0 := fun e => e3 (i_lt.mpr e)
    have e6 : ¬ 9 < x2.toInt := fun e => e4 (i_lt.mpr e)
    obtain ⟨j, ej⟩ : ∃ j : Nat, x2.toInt = j := ⟨x2.toInt.toNat, by omega⟩
    have ex : x2 = nI j := Int32.toInt_inj.mp (by rw [nI_toInt (by omega)]; exact ej)
    subst ex
    have a := hl.setD (f := j)
    have b := hm.setD (f := j)
    exact ⟨_, _, _, rfl, rfl, _, a.1, b.1, ok.setD (by omega), ho.fr2 a.2 b.2 (by decide) (by decide) (m39 (by decide)) (m39 (by decide)) (m39 (by decide))⟩
  rw [if_pos e2]
  have e3 : x1 < 0 ∨ 1 < x1 := by
    rw [i_eq] at e1 e2
    rw [i_lt, i_lt]
    have : (0 : Int32).toInt = 0 := rfl
    have : (1 : Int32).toInt = 1 := rfl
    omega
  rw [win_n e3, bnp_s, if_pos rfl]
  exact fin_no 6 h0 (by decide) (by decide)
