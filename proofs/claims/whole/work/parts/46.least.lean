/-! layer 2: least harm -/
def Gg (S : Ld) (v w : Mem) : Prop := isLd v 0 S ∧ isMd w S ∧ Oth (Sc S) v w
theorem Gg.rel {S : Ld} {v w : Mem} (h : Gg S v w) (ok : okLd S) : Rel v w := ⟨S, h.1, h.2.1, ok, h.2.2⟩
theorem ix100 (p q : Nat) : 100 * nI p + nI q = nI (100 * p + q) := by
  rw [show (100 : Int32) = nI 100 from rfl, nI_mul, nI_add]
def lhR (S : Ld) (x y1 y2 : Int32) : Prop := x = -1 ∨ ∃ a m, x = nI a ∧ a ≤ 1000 ∧ m ≤ 640000 ∧ y1 = nI (totN (dS S) (Sc S) + m) ∧ y2 = nI m
theorem stp21 {n : Nat} (hn : 64 < n) : Stp21 Rel n := fun t u h0 => by
  obtain ⟨S, hl, hm, ok, ho⟩ := id h0
  have hc := ok.1
  refine iter_pair (b1 := bd_X5_leastHarm_6 n) (b2 := bd_X6_leastHarm_6 n) (Sc S) (fun p s1 s2 => ∃ x y1 y2 v w, s1 = (x, y1, nI p, v) ∧ s2 = (x, y2, nI p, w) ∧ lhR S x y1 y2 ∧ Gg S v w) (fun r1 r2 => ∃ r t' u', r1 = some (r, t') ∧ r2 = some (r, u') ∧ Rel t' u') ?_ ?_ n n 0 _ _ (Nat.zero_le _) (by omega) (by omega) ⟨-1, 0, 0, t, u, rfl, rfl, .inl rfl, hl, hm, ho⟩
  · intro self1 self2 p s1 s2 hp hR
    obtain ⟨x, y1, y2, v, w, rfl, rfl, hx, hG⟩ := hR
    have hin := iter_pair (b1 := bd_X5_leastHarm_22 n self1) (b2 := bd_X6_leastHarm_19 n self2) (Sc S) (fun q s1 s2 => ∃ x y1 y2 v w, p < q ∧ s1 = (x, y1, nI p, nI q, v) ∧ s2 = (x, y2, nI p, nI q, w) ∧ lhR S x y1 y2 ∧ Gg S v w) (fun r1 r2 => ∃ x y1 y2 v w, r1 = self1 (x, y1, nI (p + 1), v) ∧ r2 = self2 (x, y2, nI (p + 1), w) ∧ lhR S x y1 y2 ∧ Gg S v w) (fun s1 s2 q a1 a2 hq hR => by
      obtain ⟨x, y1, y2, v, w, hpq, rfl, rfl, hx, hG⟩ := hR
      have hne : ¬ p = q := by omega
      by_cases e0 : Sw S p q = 0
      · refine .inl ⟨(x, y1, nI p, nI (q + 1), v), (x, y2, nI p, nI (q + 1), w), ?_, ?_, x, y1, y2, v, w, by omega, rfl, rfl, hx, hG⟩
        · unfold bd_X5_leastHarm_22
          dsimp only
          rw [hG.1.1, if_neg (nle8 hq hc), btw_y hG.1 hc hp hq, bnd_s, if_pos (by rw [e0]; rfl), nI_s]
        · unfold bd_X6_leastHarm_19
          dsimp only
          rw [hG.2.1.1, if_neg (nle8 hq hc), ck_t (inb8' (by omega) (by omega)), clamp8' (by omega) (by omega), hG.2.1.2.2.2.2.2.2 p q (by omega) (by omega), if_neg (by rw [e0]; exact z_nn), nI_s]
      · have hw := ok.2.2.2.2.2.1 p q
        have hz : ¬ nI (Sw S p q) = 0 := fun g => e0 ((nI_z (by omega)).mp g)
        obtain ⟨v', v1', v2', v3'⟩ := without_y (n := n) (J := 1) (by omega) hG.1 ok.w hp hq hne
        obtain ⟨w', w1, w2, w3, w4, w5⟩ := harmOf_y (n := n) hn hG.2.1 ok.w hp hq hne
        have hG' : Gg S v' w' := ⟨hG.1.lc v2', w2, hG.2.2.two v2' w3 (by decide) (by decide) (by decide)⟩
        have ht := tot_le hc (dS_le ok.w)
        have ht' := tot_le hc (dS_le (ok.w.setW (p := p) (q := q) (n := 0) (by omega)))
        have hT := hm_tot hne ok.w
        have k1 : bd_X5_leastHarm_22 n self1 s1 (x, y1, nI p, nI q, v) = if x = -1 then s1 (nI (100 * p + q), nI (totN (dS S) (Sc S) + hmN S p q), nI p, nI (q + 1), v') else if y1 ≤ nI (totN (dS S) (Sc S) + hmN S p q) then s1 (x, y1, nI p, nI (q + 1), v') else s1 (nI (100 * p + q), nI (totN (dS S) (Sc S) + hmN S p q), nI p, nI (q + 1), v') := by
          unfold bd_X5_leastHarm_22 jn_X5_leastHarm_81
          dsimp only
          rw [hG.1.1, if_neg (nle8 hq hc), btw_y hG.1 hc hp hq, bnd_s, if_neg hz, v1', bnd_s, total_y (by omega) v3' hc, bnd_s, hT, nI_s, ix100]
        have k2 : bd_X6_leastHarm_19 n self2 s2 (x, y2, nI p, nI q, w) = if x = -1 then s2 (nI (100 * p + q), nI (hmN S p q), nI p, nI (q + 1), w') else if nI (hmN S p q) < y2 then s2 (nI (100 * p + q), nI (hmN S p q), nI p, nI (q + 1), w') else s2 (x, y2, nI p, nI (q + 1), w') := by
          unfold bd_X6_leastHarm_19 jn_X6_leastHarm_69
          dsimp only
          rw [hG.2.1.1, if_neg (nle8 hq hc), ck_t (inb8' (by omega) (by omega)), clamp8' (by omega) (by omega), hG.2.1.2.2.2.2.2.2 p q (by omega) (by omega), if_pos hz, w1, bnd_s, nI_s, ix100]
        have hnew : lhR S (nI (100 * p + q)) (nI (totN (dS S) (Sc S) + hmN S p q)) (nI (hmN S p q)) := .inr ⟨100 * p + q, hmN S p q, rfl, by omega, by omega, rfl, rfl⟩
        rw [k1, k2]
        rcases hx with rfl | ⟨a, m, rfl, ha, hm', rfl, rfl⟩
        · rw [if_pos rfl, if_pos rfl]
          exact .inl ⟨_, _, rfl, rfl, _, _, _, _, _, by omega, rfl, rfl, hnew, hG'⟩
        · rw [if_neg (nI_nm (by omega)), if_neg (nI_nm (by omega))]
          by_cases e : hmN S p q < m
          · rw [if_neg (by rw [nI_le' (by omega) (by omega)]; omega), if_pos (by rw [nI_lt' (by omega) (by omega)]; exact e)]
            exact .inl ⟨_, _, rfl, rfl, _, _, _, _, _, by omega, rfl, rfl, hnew, hG'⟩
          · rw [if_pos (by rw [nI_le' (by omega) (by omega)]; omega), if_neg (by rw [nI_lt' (by omega) (by omega)]; exact e)]
            exact .inl ⟨_, _, rfl, rfl, _, _, _, _, _, by omega, rfl, rfl, .inr ⟨a, m, rfl, ha, hm', rfl, rfl⟩, hG'⟩) (fun s1 s2 a1 a2 hR => by
      obtain ⟨x, y1, y2, v, w, hpq, rfl, rfl, hx, hG⟩ := hR
      refine ⟨x, y1, y2, v, w, ?_, ?_, hx, hG⟩
      · unfold bd_X5_leastHarm_22
        dsimp only
        rw [hG.1.1, if_pos le8, nI_s]
      · unfold bd_X6_leastHarm_19
        dsimp only
        rw [hG.2.1.1, if_pos le8, nI_s]) n n (p + 1) (x, y1, nI p, nI (p + 1), v) (x, y2, nI p, nI (p + 1), w) (by omega) (by omega) (by omega) ⟨x, y1, y2, v, w, by omega, rfl, rfl, hx, hG⟩
    obtain ⟨x', y1', y2', v', w', g1, g2, hx', hG'⟩ := hin
    refine .inl ⟨_, _, ?_, ?_, x', y1', y2', v', w', rfl, rfl, hx', hG'⟩
    · unfold bd_X5_leastHarm_6
      dsimp only
      rw [hG.1.1, if_neg (nle8 hp hc), nI_s]
      exact g1
    · unfold bd_X6_leastHarm_6
      dsimp only
      rw [hG.2.1.1, if_neg (nle8 hp hc), nI_s]
      exact g2
  · intro self1 self2 s1 s2 hR
    obtain ⟨x, y1, y2, v, w, rfl, rfl, hx, hG⟩ := hR
    unfold bd_X5_leastHarm_6 bd_X6_leastHarm_6
    dsimp only
    rw [hG.1.1, hG.2.1.1, if_pos le8, if_pos le8]
    rcases hx with rfl | ⟨a, m, rfl, ha, hm', rfl, rfl⟩
    · rw [if_neg (fun g => g rfl), if_neg (fun g => g rfl)]
      exact fin_no 5 (hG.rel ok) (by decide) (by decide)
    · rw [if_pos (nI_nm (by omega)), if_pos (nI_nm (by omega))]
      exact ⟨_, _, _, rfl, rfl, hG.rel ok⟩
