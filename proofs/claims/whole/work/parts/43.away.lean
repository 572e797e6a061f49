/-! layer 2: away, within, meet -/
theorem len_y {t : Mem} {J : Fin 2} {c p q : Nat} {D : Nat → Nat → Nat} (h : isLn t J c D) (hc : c ≤ 8) (hp : p < c) (hq : q < c) : f_X2_length J (nI p) (nI q) t = some (nI (D p q), t) := by
  unfold f_X2_length
  rw [ins_y h.1 hc hp hq, bnd_s, if_neg one_ne, ck_t (inb8 (by omega) (by omega)), clamp8 (by omega) (by omega), h.2 p q hp hq]
theorem le_way {d : Nat} (h : d ≤ 10000) : (10000 : Int32) ≤ nI d ↔ ¬ d < 10000 := by
  rw [show (10000 : Int32) = nI 10000 from rfl, nI_le' (by omega) (by omega)]
  omega
theorem joins_y {t : Mem} {J : Fin 2} {c p q : Nat} {D : Nat → Nat → Nat} (h : isLn t J c D) (hc : c ≤ 8) (hD : D p q ≤ 10000) (hp : p < c) (hq : q < c) : f_X2_joins J (nI p) (nI q) t = some (bI (decide (D p q < 10000)), t) := by
  unfold f_X2_joins
  rw [len_y h hc hp hq, bnd_s]
  by_cases e : D p q < 10000
  · rw [if_neg (fun g => (le_way hD).mp g e), bI_1 (decide_eq_true e)]
  · rw [if_pos ((le_way hD).mpr e), bI_0 (by simp [e])]
def tellN (d : Nat) : Int32 := if d < 10000 then nI d else -1
theorem lnone_y {t : Mem} {J : Fin 2} {c p q : Nat} {D : Nat → Nat → Nat} (h : isLn t J c D) (hc : c ≤ 8) (hD : D p q ≤ 10000) (hp : p < c) (hq : q < c) : f_X2_lengthOrNone J (nI p) (nI q) t = some (tellN (D p q), t) := by
  unfold f_X2_lengthOrNone tellN
  rw [joins_y h hc hD hp hq, bnd_s, bI_it]
  by_cases e : D p q < 10000
  · rw [if_pos (decide_eq_true e), if_pos e, len_y h hc hp hq, bnd_s]
  · rw [if_neg (by simp [e]), if_neg e]
theorem mfar {u : Mem} {c p q : Nat} {D : Nat → Nat → Nat} {Rt : Type} (h : isFar u c D) (hc : c ≤ 8) (hp : p < c) (hq : q < c) (K : Int32 → Option Rt) : (ck (inb ((8 * nI p) + nI q) 64) <| K (u.1 51 ((8 * nI p) + nI q).toNatClampNeg)) = K (nI (D p q)) := by
  rw [ck_t (inb8' (by omega) (by omega)), clamp8' (by omega) (by omega), h p q hp hq]
theorem mfar' {u : Mem} {c p q : Nat} {D : Nat → Nat → Nat} (h : isFar u c D) (hc : c ≤ 8) (hp : p < c) (hq : q < c) : u.1 51 ((8 * nI p) + nI q).toNatClampNeg = nI (D p q) := by
  rw [clamp8' (by omega) (by omega), h p q hp hq]
theorem told_y {u : Mem} {c p q : Nat} {D : Nat → Nat → Nat} (h : isFar u c D) (hc : c ≤ 8) (hD : D p q ≤ 10000) (hp : p < c) (hq : q < c) : f_X6_farTold (nI p) (nI q) u = some (tellN (D p q), u) := by
  unfold f_X6_farTold tellN
  rw [ck_t (inb8' (by omega) (by omega)), ck_t (inb8' (by omega) (by omega)), mfar' h hc hp hq]
  by_cases e : D p q < 10000
  · rw [if_neg (fun g => (le_way hD).mp g e), if_pos e]
  · rw [if_pos ((le_way hD).mpr e), if_neg e]
/-- both have measured -/
theorem both_y {t u : Mem} {S : Ld} {n : Nat} (hn : 8 < n) (hl : isLd t 0 S) (hm : isMd u S) (ok : okLd S) (ho : Oth (Sc S) t u) : ∃ v w, f_X2_measure n 0 0 t = some ((), v) ∧ f_X6_walk n u = some ((), w) ∧ isLd v 0 S ∧ isMd w S ∧ Oth (Sc S) v w ∧ isLn v 0 (Sc S) (dS S) ∧ isFar w (Sc S) (dS S) := by
  obtain ⟨v, v1, v2, v3⟩ := measure_y (J := 0) hn hl ok.w
  obtain ⟨w, w1, w2, w3⟩ := walk_y hn hm ok.w
  exact ⟨v, w, v1, w1, hl.lc v2, hm.fr w2 (by decide) (by decide) (by decide) (by decide), ho.two v2 w2 (lc_k 0) (by decide) (by decide), v3, w3⟩
theorem stp16 {n : Nat} (hn : 8 < n) : Stp16 Rel n := fun t u x1 x2 h0 => by
  obtain ⟨S, hl, hm, ok, ho⟩ := id h0
  unfold f_X5_away f_X6_away jn_X6_away_16
  rcases e1 : plc (Sc S) x1 with _ | p
  · rw [hasBoth_n hl ok.1 (.inl e1), bnd_s, if_neg z_nn, isPl_n hm ok.1 e1, bnd_s, if_pos rfl]
    exact fin_no10 1 h0 (by decide) (by decide)
  obtain ⟨rfl, hp⟩ := plc_some e1
  rw [isPl_y hm ok.1 hp, bnd_s, if_neg one_ne]
  rcases e2 : plc (Sc S) x2 with _ | q
  · rw [hasBoth_n hl ok.1 (.inr e2), bnd_s, if_neg z_nn, isPl_n hm ok.1 e2, bnd_s, if_neg z_nn]
    exact fin_no10 1 h0 (by decide) (by decide)
  obtain ⟨rfl, hq⟩ := plc_some e2
  rw [hasBoth_y hl ok.1 hp hq, bnd_s, if_pos one_ne, isPl_y hm ok.1 hq, bnd_s, if_pos one_ne]
  have hc := ok.1
  have hD := dS_le ok.w p q
  obtain ⟨v, w, a, b, hl', hm', ho', hv, hw⟩ := both_y hn hl hm ok ho
  rw [a, b, bnd_s, bnd_s, lnone_y hv hc hD hp hq, bnd_s, told_y hw hc hD hp hq, bnd_s]
  exact ⟨_, _, _, rfl, rfl, S, hl', hm', ok, ho'⟩
def rcB (D : Nat → Nat → Nat) (p : Nat) (d : Int32) (q : Nat) : Bool := !decide (d < nI (D p q))
theorem reach_y {t : Mem} {J : Fin 2} {c p n : Nat} {D : Nat → Nat → Nat} {d : Int32} (hn : 8 < n) (h : isLn t J c D) (hc : c ≤ 8) (hp : p < c) : f_X2_reach n J (nI p) d t = some (nI (bsN (rcB D p d) c), t) := by
  refine iter_up0 (body := bd_X2_reach_5 n J (nI p) d) c (fun i => (nI (bsN (rcB D p d) i), nI i, t)) _ rfl (by omega) (fun self i hi => ?_) (fun self => ?_)
  · unfold bd_X2_reach_5
    dsimp only
    rw [h.1, if_neg (nle8 hi hc), len_y h hc hp hi, bnd_s]
    by_cases e : d < nI (D p i)
    · rw [if_pos e, nI_s]
      show _ = self (nI (if rcB D p d i = true then bsN (rcB D p d) i + 2 ^ i else bsN (rcB D p d) i), nI (i + 1), t)
      rw [if_neg (by unfold rcB; simp [e])]
    · rw [if_neg e, bs_or (by omega) (bsN_lt _ _), lti_s, nI_s]
      show _ = self (nI (if rcB D p d i = true then bsN (rcB D p d) i + 2 ^ i else bsN (rcB D p d) i), nI (i + 1), t)
      rw [if_pos (by unfold rcB; simp [e])]
  · unfold bd_X2_reach_5
    dsimp only
    rw [h.1, if_pos le8]
theorem mreach_y {u : Mem} {S : Ld} {p n : Nat} {D : Nat → Nat → Nat} {d : Int32} (hn : 8 < n) (hm : isMd u S) (hc : Sc S ≤ 8) (h : isFar u (Sc S) D) (hp : p < Sc S) : iter (bd_X6_within__41 n (nI p) d) n (0, 0, u) = some (nI (bsN (rcB D p d) (Sc S)), u) := by
  refine iter_up0 (body := bd_X6_within__41 n (nI p) d) (Sc S) (fun i => (nI (bsN (rcB D p d) i), nI i, u)) _ rfl (by omega) (fun self i hi => ?_) (fun self => ?_)
  · unfold bd_X6_within__41
    dsimp only
    rw [hm.1, if_neg (nle8 hi hc), ck_t (inb8' (by omega) (by omega)), mfar' h hc hp hi]
    by_cases e : d < nI (D p i)
    · rw [if_pos e, nI_s]
      show _ = self (nI (if rcB D p d i = true then bsN (rcB D p d) i + 2 ^ i else bsN (rcB D p d) i), nI (i + 1), u)
      rw [if_neg (by unfold rcB; simp [e])]
    · rw [if_neg e, bs_or (by omega) (bsN_lt _ _), lti_s, nI_s]
      show _ = self (nI (if rcB D p d i = true then bsN (rcB D p d) i + 2 ^ i else bsN (rcB D p d) i), nI (i + 1), u)
      rw [if_pos (by unfold rcB; simp [e])]
  · unfold bd_X6_within__41
    dsimp only
    rw [hm.1, if_pos le8]
theorem stp18 {n : Nat} (hn : 8 < n) : Stp18 Rel n := fun t u x1 x2 h0 => by
  obtain ⟨S, hl, hm, ok, ho⟩ := id h0
  have hc := ok.1
  unfold f_X5_within f_X6_within_ jn_X5_within_28
  rcases e1 : plc (Sc S) x1 with _ | p
  · rw [has_n hl ok.1 e1, bnd_s, if_neg z_nn, isPl_n hm ok.1 e1, bnd_s, if_neg z_nn]
    exact fin_no 1 h0 (by decide) (by decide)
  obtain ⟨rfl, hp⟩ := plc_some e1
  rw [has_y hl ok.1 hp, bnd_s, if_pos one_ne, isPl_y hm ok.1 hp, bnd_s, if_pos one_ne]
  by_cases e3 : x2 < 0
  · rw [if_pos e3, win_n (.inl e3), bnp_s, if_neg z_nn]
    exact fin_no 6 h0 (by decide) (by decide)
  by_cases e4 : x2 ≤ 9999
  · rw [if_neg e3, if_pos e4, win_y e3 (Int32.not_lt.mpr e4), bnp_s, if_pos one_ne]
    obtain ⟨v, w, a, b, hl', hm', ho', hv, hw⟩ := both_y hn hl hm ok ho
    rw [a, b, bnd_s, bnd_s, reach_y hn hv hc hp, bnd_s, mreach_y hn hm' hc hw hp]
    exact ⟨_, _, _, rfl, rfl, S, hl', hm', ok, ho'⟩
  · rw [if_neg e3, if_neg e4, win_n (.inr (Int32.not_le.mp e4)), bnp_s, if_neg z_nn]
    exact fin_no 6 h0 (by decide) (by decide)
theorem stp23 {n : Nat} (hn : 8 < n) : Stp23 Rel n := fun t u x1 x2 h0 => by
  obtain ⟨S, hl, hm, ok, ho⟩ := id h0
  unfold f_X5_meet f_X6_meet jn_X6_meet_16
  rcases e1 : plc (Sc S) x1 with _ | p
  · rw [hasBoth_n hl ok.1 (.inl e1), bnd_s, if_neg z_nn, isPl_n hm ok.1 e1, bnd_s, if_pos rfl]
    exact fin_no10 1 h0 (by decide) (by decide)
  obtain ⟨rfl, hp⟩ := plc_some e1
  rw [isPl_y hm ok.1 hp, bnd_s, if_neg one_ne]
  rcases e2 : plc (Sc S) x2 with _ | q
  · rw [hasBoth_n hl ok.1 (.inr e2), bnd_s, if_neg z_nn, isPl_n hm ok.1 e2, bnd_s, if_neg z_nn]
    exact fin_no10 1 h0 (by decide) (by decide)
  obtain ⟨rfl, hq⟩ := plc_some e2
  rw [hasBoth_y hl ok.1 hp hq, bnd_s, if_pos one_ne, isPl_y hm ok.1 hq, bnd_s, if_pos one_ne]
  have hc := ok.1
  obtain ⟨v, w, a, b, hl', hm', ho', hv, hw⟩ := both_y hn hl hm ok ho
  rw [a, b, bnd_s, bnd_s]
  obtain ⟨r1, r2, g1, g2, r, g3, g4⟩ := iter_two (b1 := bd_X5_meet_39 n (nI p) (nI q)) (b2 := bd_X6_meet_36 n (nI p) (nI q)) (Sc S) (fun i s1 s2 => ∃ (x : Int32) (s : Nat), s ≤ 10000 ∧ s1 = (x, nI s, nI i, v) ∧ s2 = (x, nI s, nI i, w)) (fun r1 r2 => ∃ r : Int32, r1 = some (r, v) ∧ r2 = some (r, w)) (fun i s1 s2 hi hR => by
    obtain ⟨x, s, hs, rfl, rfl⟩ := hR
    have d1 := dS_le ok.w p i
    have d2 := dS_le ok.w q i
    have m1 : max (dS S p i) (dS S q i) ≤ 10000 := Nat.max_le.mpr ⟨d1, d2⟩
    have k1 : ∀ self, bd_X5_meet_39 n (nI p) (nI q) self (x, nI s, nI i, v) = if nI s ≤ nI (max (dS S p i) (dS S q i)) then self (x, nI s, nI (i + 1), v) else self (nI i, nI (max (dS S p i) (dS S q i)), nI (i + 1), v) := by
      intro self
      unfold bd_X5_meet_39
      dsimp only
      rw [hl'.1, if_neg (nle8 hi hc), len_y hv hc hp hi, bnd_s, len_y hv hc hq hi, bnd_s, cost_max (by omega) (by omega), bnp_s, nI_s]
    have k2 : ∀ self, bd_X6_meet_36 n (nI p) (nI q) self (x, nI s, nI i, w) = if nI (max (dS S p i) (dS S q i)) < nI s then self (nI i, nI (max (dS S p i) (dS S q i)), nI (i + 1), w) else self (x, nI s, nI (i + 1), w) := by
      intro self
      unfold bd_X6_meet_36
      dsimp only
      rw [hm'.1, if_neg (nle8 hi hc), ck_t (inb8' (by omega) (by omega)), ck_t (inb8' (by omega) (by omega)), mfar' hw hc hp hi, mfar' hw hc hq hi, cost_max (by omega) (by omega), bnp_s, nI_s]
    by_cases e : max (dS S p i) (dS S q i) < s
    · refine ⟨_, _, fun self => ?_, fun self => ?_, nI i, max (dS S p i) (dS S q i), m1, rfl, rfl⟩
      · rw [k1, if_neg (by rw [nI_le' (by omega) (by omega)]; omega)]
      · rw [k2, if_pos (by rw [nI_lt' (by omega) (by omega)]; exact e)]
    · refine ⟨_, _, fun self => ?_, fun self => ?_, x, s, hs, rfl, rfl⟩
      · rw [k1, if_pos (by rw [nI_le' (by omega) (by omega)]; omega)]
      · rw [k2, if_neg (by rw [nI_lt' (by omega) (by omega)]; exact e)]) (fun s1 s2 hR => by
    obtain ⟨x, s, hs, rfl, rfl⟩ := hR
    refine ⟨some (x, v), some (x, w), fun self => ?_, fun self => ?_, x, rfl, rfl⟩
    · unfold bd_X5_meet_39
      dsimp only
      rw [hl'.1, if_pos le8]
    · unfold bd_X6_meet_36
      dsimp only
      rw [hm'.1, if_pos le8]) n 0 (-1, 10000, 0, v) (-1, 10000, 0, w) (Nat.zero_le _) (by omega) ⟨-1, 10000, by omega, rfl, rfl⟩
  rw [g1, g2, g3, g4]
  exact ⟨_, _, _, rfl, rfl, S, hl', hm', ok, ho'⟩
