/-! layer 2: a draw of the gale -/
theorem drw_a {t u : Mem} {S : Ld} {c : Nat} (hl : isLd t 0 S) (hm : isMd u S) (h1 : 1 ≤ c) (h2 : c ≤ 10) : ∃ m e, m < c ∧ f_X1_draw 0 (nI c) t = some (nI m, uI t (oLd 0) 6 e) ∧ f_X6_draw (nI c) u = some (nI m, uI u 39 9 e) := by
  obtain ⟨m, hm', a, b⟩ := draw_y hl hm h1 h2
  exact ⟨m, _, hm', a, b⟩
theorem drw_b (t : Mem) (e : Int32) : Fr t (uI t (oLd 0) 6 e) [1, 10] := Fr.uI t _ _ (by decide)
theorem drw_c (u : Mem) (e : Int32) : frU u (uI u 39 9 e) := frU.i39 u _ (by decide)
theorem drw_d {t : Mem} {S : Ld} (hl : isLd t 0 S) (e : Int32) : isLd (uI t (oLd 0) 6 e) 0 (setE S e) := hl.setE.1
theorem drw_e {u : Mem} {S : Ld} (hm : isMd u S) (e : Int32) : isMd (uI u 39 9 e) (setE S e) := hm.setE.1
theorem drw_y {t u : Mem} {S : Ld} {c : Nat} (hl : isLd t 0 S) (hm : isMd u S) (ok : okLd S) (h1 : 1 ≤ c) (h2 : c ≤ 10) : ∃ m t' u' S', m < c ∧ f_X1_draw 0 (nI c) t = some (nI m, t') ∧ f_X6_draw (nI c) u = some (nI m, u') ∧ isLd t' 0 S' ∧ isMd u' S' ∧ okLd S' ∧ Sc S' = Sc S ∧ Sw S' = Sw S ∧ Fr t t' [1, 10] ∧ frU u u' := by
  obtain ⟨m, e, h, a, b⟩ := drw_a hl hm h1 h2
  exact ⟨m, _, _, setE S e, h, a, b, drw_d hl e, drw_e hm e, ok.setE e, setE_c S e, setE_w S e, drw_b t e, drw_c u e⟩
theorem gst_lay {t u : Mem} {S : Ld} {p q m : Nat} (hl : isLd t 0 S) (hm : isMd u S) (ok : okLd S) (hp : p < Sc S) (hq : q < Sc S) (hpq : ¬ p = q) (hmm : m ≤ 9) : ∃ t' u' u5 S', f_X1_lay 0 (nI p) (nI q) (nI (min 999 (Sw S p q + m))) (uI t (oLd 0) 4 (nI (Sf S - m))) = some ((), t') ∧ f_X6_lay (nI p) (nI q) (nI (min 999 (Sw S p q + m))) u = some (nI (Sw S p q), u5) ∧ u5.1 39 7 = nI (Sf S) ∧ u' = uI u5 39 7 (nI (Sf S - m)) ∧ isLd t' 0 S' ∧ isMd u' S' ∧ okLd S' ∧ Sc S' = Sc S ∧ Sw S' p q = min 999 (Sw S p q + m) ∧ Fr t t' [1, 10] ∧ frU u u' := by
  have hf := ok.2.1
  have hc := ok.1
  have hl4 := hl.setF (f := Sf S - m)
  have ok4 : okLd (setF S (Sf S - m)) := ok.setF (by omega)
  generalize hn : min 999 (Sw S p q + m) = n
  obtain ⟨t5, c1, c2, c3⟩ := lay_y (n := n) hl4.1 ok4.1 hp hq hpq
  have ok5 := ok4.setW (n := n) hp hq hpq (by omega)
  obtain ⟨u5, d1, d2, d3⟩ := mlay_y (n := n) hm (show p < 8 by omega) (show q < 8 by omega)
  have hm6 := d2.setF (f := Sf S - m)
  refine ⟨t5, _, u5, setW (setF S (Sf S - m)) p q n, c1, d1, d2.2.1, rfl, c2, hm6.1, ok5, rfl, setW_pq _ _ _ _, ?_, ?_⟩
  · exact (hl4.2.mono (by intro o ho; revert o; decide)).trans (c3.mono (by intro o ho; revert o; decide))
  · exact (frU.fr d3).trans (frU.i39 _ _ (by decide))
theorem gust_y {t u : Mem} {S : Ld} (hl : isLd t 0 S) (hm : isMd u S) (ok : okLd S) (h1 : 1 ≤ Sc S) : ∃ r t' u' S', f_X1_gust 0 t = some (r, t') ∧ (∀ (n : Nat) (x1 : Int32) (self : Int32 × Int32 × Mem → Option (Int32 × Mem)) (v2 : Int32) (i : Nat), ¬ x1 ≤ nI i → bd_X6_gale_35 n x1 self (v2, nI i, u) = self (v2 + r, nI (i + 1), u')) ∧ isLd t' 0 S' ∧ isMd u' S' ∧ okLd S' ∧ Sc S' = Sc S ∧ Fr t t' [1, 10] ∧ frU u u' := by
  have hc := ok.1
  obtain ⟨p, t1, u1, S1, hp, a1, b1, l1, m1, k1, c1, w1, f1, g1⟩ := drw_y hl hm ok h1 (by omega)
  obtain ⟨q, t2, u2, S2, hq, a2, b2, l2, m2, k2, c2, w2, f2, g2⟩ := drw_y (c := Sc S1) l1 m1 k1 (by omega) (by omega)
  have hp2 : p < Sc S2 := by omega
  have hq2 : q < Sc S2 := by omega
  have hw := k2.2.2.2.2.2.1 p q
  by_cases z : Sw S2 p q = 0
  · refine ⟨0, t2, u2, S2, ?_, ?_, l2, m2, k2, by omega, f1.trans f2, g1.trans g2⟩
    · unfold f_X1_gust
      rw [hl.1, a1, bnd_s, l1.1, a2, bnd_s, btw_y l2 k2.1 hp2 hq2, bnd_s, z, if_neg (show ¬ ¬ nI 0 = 0 from z_nn)]
    · intro n x1 self v2 i hx
      unfold bd_X6_gale_35
      dsimp only
      rw [if_neg hx, hm.1, b1, bnd_s, m1.1, b2, bnd_s, noRoad_y m2 k2 hp2 hq2, bnd_s, bI_1 (decide_eq_true z), if_neg one_ne, nI_s, Int32.add_zero]
  · have hpq : ¬ p = q := fun e' => z (by rw [e']; exact k2.2.2.2.2.2.2.2.1 q)
    have hd := k2.2.2.1
    obtain ⟨m, t3, u3, S3, hmm, a3, b3, l3, m3, k3, c3, w3, f3, g3⟩ := drw_y (c := Sd S2 + 1) l2 m2 k2 (by omega) (by omega)
    have hp3 : p < Sc S3 := by omega
    have hq3 : q < Sc S3 := by omega
    have hf3 := k3.2.1
    obtain ⟨t5, u6, u5, S5, d1, d2, d3, d4, l5, m5, k5, c5, w5, f5, g5⟩ := gst_lay (m := m) l3 m3 k3 hp3 hq3 hpq (by omega)
    have hp5 : p < Sc S5 := by omega
    have hq5 : q < Sc S5 := by omega
    rw [w3] at d1 d2 w5
    refine ⟨nI (min 999 (Sw S2 p q + m)) - nI (Sw S2 p q), t5, u6, S5, ?_, ?_, l5, m5, k5, by omega, ((f1.trans f2).trans f3).trans f5, ((g1.trans g2).trans g3).trans g5⟩
    · unfold f_X1_gust
      rw [hl.1, a1, bnd_s, l1.1, a2, bnd_s, btw_y l2 k2.1 hp2 hq2, bnd_s, if_pos (show ¬ nI (Sw S2 p q) = 0 from fun g => z ((nI_z (by omega)).mp g)), l2.2.2.1, nI_s, a3, bnd_s, l3.2.1, max0 (by omega) (by omega), bnp_s, ltm_s, show (999 : Int32) = nI 999 from rfl, nI_add, min_nI (by omega) (by omega), bnp_s, d1, bnd_s, btw_y l5 k5.1 hp5 hq5, bnd_s, w5]
    · intro n x1 self v2 i hx
      have e3 : u3.1 45 (8 * p + q) = nI (Sw S2 p q) := by rw [m3.2.2.2.2.2.2 p q (by omega) (by omega), w3]
      have e5 : u6.1 45 (8 * p + q) = nI (min 999 (Sw S2 p q + m)) := by rw [m5.2.2.2.2.2.2 p q (by omega) (by omega), w5]
      unfold bd_X6_gale_35
      dsimp only
      rw [if_neg hx, hm.1, b1, bnd_s, m1.1, b2, bnd_s, noRoad_y m2 k2 hp2 hq2, bnd_s, bI_0 (by simp [z]), if_pos rfl, m2.2.2.1, nI_s, b3, bnd_s, ck_t (inb8' (by omega) (by omega)), clamp8' (by omega) (by omega), lti_s, e3, show (999 : Int32) = nI 999 from rfl, nI_add, min_nI (by omega) (by omega), bnp_s, d2, bnd_s, d3, max0 (by omega) (by omega), bnp_s, ← d4, ltm_s, ck_t (inb8' (by omega) (by omega)), lti_s, e5, nI_s]
theorem stp33 {n : Nat} (hn : 60 < n) : Stp33 Rel n := fun t u x h0 => by
  obtain ⟨S, hl, hm, ok, ho⟩ := id h0
  have hc := ok.1
  unfold f_X5_gale f_X6_gale jn_X5_gale_28
  rw [hl.1, hm.1]
  by_cases e0 : Sc S = 0
  · rw [if_neg (by rw [e0]; exact z_nn), if_neg (by rw [e0]; exact z_nn)]
    exact fin_no 5 h0 (by decide) (by decide)
  rw [if_pos (show ¬ nI (Sc S) = 0 from fun g => e0 ((nI_z (by omega)).mp g)), if_pos (show ¬ nI (Sc S) = 0 from fun g => e0 ((nI_z (by omega)).mp g))]
  by_cases e3 : x < 1
  · rw [if_pos e3, win_n (.inl e3), bnp_s, if_neg z_nn]
    exact fin_no 6 h0 (by decide) (by decide)
  by_cases e4 : x ≤ 60
  · rw [if_neg e3, if_pos e4, win_y e3 (Int32.not_lt.mpr e4), bnp_s, if_pos one_ne]
    have e5 : ¬ x.toInt < 1 := fun e => e3 (i_lt.mpr e)
    have e6 : x.toInt ≤ 60 := i_le.mp e4
    obtain ⟨j, ej⟩ : ∃ j : Nat, x.toInt = j := ⟨x.toInt.toNat, by omega⟩
    have ex : x = nI j := Int32.toInt_inj.mp (by rw [nI_toInt (by omega)]; exact ej)
    subst ex
    refine iter_pair (b1 := bd_X5_gale_39 n (nI j)) (b2 := bd_X6_gale_35 n (nI j)) j (fun i s1 s2 => ∃ a v w S', s1 = (a, nI i, v) ∧ s2 = (a, nI i, w) ∧ isLd v 0 S' ∧ isMd w S' ∧ okLd S' ∧ Sc S' = Sc S ∧ Oth (Sc S) v w) (fun r1 r2 => ∃ r t' u', r1 = some (r, t') ∧ r2 = some (r, u') ∧ Rel t' u') ?_ ?_ n n 0 _ _ (Nat.zero_le _) (by omega) (by omega) ⟨0, t, u, S, rfl, rfl, hl, hm, ok, rfl, ho⟩
    · intro s1 s2 i y1 y2 hi hR
      obtain ⟨a, v, w, S', rfl, rfl, hl', hm', ok', hS, ho'⟩ := hR
      have hx : ¬ nI j ≤ nI i := by rw [nI_le' (by omega) (by omega)]; omega
      obtain ⟨r, v', w', S5, d1, d2, d3, d4, d5, d6, d7, d8⟩ := gust_y hl' hm' ok' (by omega)
      refine .inl ⟨(a + r, nI (i + 1), v'), (a + r, nI (i + 1), w'), ?_, d2 n (nI j) s2 a i hx, a + r, v', w', S5, rfl, rfl, d3, d4, d5, by omega, ho'.u d7 (by decide) d8⟩
      unfold bd_X5_gale_39
      dsimp only
      rw [if_neg hx, d1, bnd_s, nI_s]
    · intro s1 s2 y1 y2 hR
      obtain ⟨a, v, w, S', rfl, rfl, hl', hm', ok', hS, ho'⟩ := hR
      refine ⟨a, v, w, ?_, ?_, S', hl', hm', ok', by rw [hS]; exact ho'⟩
      · unfold bd_X5_gale_39
        dsimp only
        rw [if_pos le8]
      · unfold bd_X6_gale_35
        dsimp only
        rw [if_pos le8]
  · rw [if_neg e3, if_neg e4, win_n (.inr (Int32.not_le.mp e4)), bnp_s, if_neg z_nn]
    exact fin_no 6 h0 (by decide) (by decide)
