theorem stp20 {n : Nat} (hn : 64 < n) : Stp20 Rel n := fun t u x1 x2 x3 h0 => by
  obtain ⟨S, hl, hm, ok, ho⟩ := id h0
  unfold f_X5_harm f_X6_harm jn_X6_harm_16 jn_X5_harm_27
  rcases e1 : plc (Sc S) x1 with _ | p
  · rw [hasBoth_n hl ok.1 (.inl e1), bnd_s, if_neg z_nn, isPl_n hm ok.1 e1, bnd_s, if_pos rfl]
    exact fin_no 1 h0 (by decide) (by decide)
  obtain ⟨rfl, hp⟩ := plc_some e1
  rw [isPl_y hm ok.1 hp, bnd_s, if_neg one_ne]
  rcases e2 : plc (Sc S) x2 with _ | q
  · rw [hasBoth_n hl ok.1 (.inr e2), bnd_s, if_neg z_nn, isPl_n hm ok.1 e2, bnd_s, if_neg z_nn]
    exact fin_no 1 h0 (by decide) (by decide)
  obtain ⟨rfl, hq⟩ := plc_some e2
  rw [hasBoth_y hl ok.1 hp hq, bnd_s, if_pos one_ne, isPl_y hm ok.1 hq, bnd_s, if_pos one_ne]
  have hc := ok.1
  by_cases e3 : x3 < 0
  · rw [if_pos e3, win_n (.inl e3), bnp_s, if_neg z_nn]
    exact fin_no 5 h0 (by decide) (by decide)
  by_cases e4 : x3 ≤ 1
  · rw [if_neg e3, if_pos e4, win_y e3 (Int32.not_lt.mpr e4), bnp_s, if_pos one_ne, roadP_y hl ok hp hq, bnd_s, noRoad_y hm ok hp hq, bnd_s]
    by_cases e0 : Sw S p q = 0
    · rw [if_pos e0, bI_1 (decide_eq_true e0), if_neg one_ne, if_neg (by decide)]
      exact fin_no 6 h0 (by decide) (by decide)
    have hpq : ¬ p = q := fun e => e0 (by rw [e]; exact ok.2.2.2.2.2.2.2.1 q)
    rw [if_neg e0, bI_0 (by simp [e0]), if_pos rfl, if_pos rfl]
    obtain ⟨v, v1, v2, v3⟩ := measure_y (n := n) (J := 0) (by omega) hl ok.w
    obtain ⟨v', v1', v2', v3'⟩ := without_y (n := n) (J := 1) (by omega) (hl.lc v2) ok.w hp hq hpq
    obtain ⟨w, w1, w2, w3, w4, w5⟩ := harmOf_y (n := n) hn hm ok.w hp hq hpq
    have v4 : isLn v' 0 (Sc S) (dS S) := by
      unfold isLn
      rw [v2'.1 (oLn 0) (by decide), v2'.1 (oCe 0) (by decide)]
      exact v3
    have hl' := (hl.lc v2).lc v2'
    have fr : Fr t v' [oLn 0, oCe 0, oLn 1, oCe 1] := (v2.mono (by decide)).trans (v2'.mono (by decide))
    have ho' : Oth (Sc S) v' w := ho.two fr w3 (by decide) (by decide) (by decide)
    rw [v1, bnd_s, v1', bnd_s, w1, bnd_s]
    obtain ⟨j, hj, rfl⟩ := as_nat 1 (by decide) e3 e4
    by_cases ej : j = 0
    · subst ej
      rw [if_neg (show ¬ ¬ nI 0 = 0 from z_nn), if_neg (show ¬ ¬ nI 0 = 0 from z_nn), total_y (by omega) v3' hc, bnd_s, total_y (by omega) v4 hc, bnd_s, hm_tot hpq ok.w, nI_sub (by omega), Nat.add_sub_cancel_left]
      exact ⟨_, _, _, rfl, rfl, S, hl', w2, ok, ho'⟩
    · have hz : ¬ nI j = 0 := fun g => ej ((nI_z (by omega)).mp g)
      rw [if_pos hz, if_pos hz, reach_y (by omega) v4 hc hp, bnd_s, reach_y (by omega) v3' hc hp, bnd_s, bs_diff]
      have hb : iter (bd_X6_harm_75 n (nI p) (nI q) (nI j)) n (0, 0, w) = some (nI (bsN (fun i => rcB (dS S) p 9999 i && !rcB (dS (setW S p q 0)) p 9999 i) (Sc S)), w) := by
        refine iter_up0 (body := bd_X6_harm_75 n (nI p) (nI q) (nI j)) (Sc S) (fun i => (nI (bsN (fun i => rcB (dS S) p 9999 i && !rcB (dS (setW S p q 0)) p 9999 i) i), nI i, w)) _ rfl (by omega) (fun self i hi => ?_) (fun self => ?_)
        · have d1 := dS_le ok.w p i
          have d2 := dS_le (ok.w.setW (p := p) (q := q) (n := 0) (by omega)) p i
          have r1 : ∀ d, d ≤ 10000 → ((9999 : Int32) < nI d ↔ ¬ d < 10000) := fun d hd => by rw [show (9999 : Int32) = nI 9999 from rfl, nI_lt' (by omega) (by omega)]; omega
          have st : ∀ b : Nat → Bool, bsN b (i + 1) = if b i = true then bsN b i + 2 ^ i else bsN b i := fun b => rfl
          unfold bd_X6_harm_75
          dsimp only
          rw [w2.1, if_neg (nle8 hi hc), ck_t (inb8' (by omega) (by omega)), clamp8' (by omega) (by omega), w5 p i hp hi, st]
          by_cases k1 : dS S p i < 10000
          · rw [if_neg (fun g => (le_way d1).mp g k1), ck_t (inb8' (by omega) (by omega)), w4 p i hp hi]
            by_cases k2 : dS (setW S p q 0) p i = 10000
            · rw [if_neg (fun g => g (by rw [k2]; rfl)), bs_or (by omega) (bsN_lt _ _), lti_s, nI_s, if_pos (by simp [rcB, r1 _ d1, r1 _ d2, k1, k2]; decide)]
            · rw [if_pos (show ¬ nI (dS (setW S p q 0) p i) = 10000 from nI_ne (b := 10000) (by omega) (by omega) k2), nI_s, if_neg (by simp [rcB, r1 _ d1, r1 _ d2]; omega)]
          · rw [if_pos ((le_way d1).mpr k1), nI_s, if_neg (by simp [rcB, r1 _ d1]; omega)]
        · unfold bd_X6_harm_75
          dsimp only
          rw [w2.1, if_pos le8]
      rw [hb]
      exact ⟨_, _, _, rfl, rfl, S, hl', w2, ok, ho'⟩
  · rw [if_neg e3, if_neg e4, win_n (.inr (Int32.not_le.mp e4)), bnp_s, if_neg z_nn]
    exact fin_no 5 h0 (by decide) (by decide)
