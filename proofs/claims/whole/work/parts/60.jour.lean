/-! layer 2: journey, its refusals -/
theorem ix4 (i d : Nat) : 4 * nI i + nI d = nI (4 * i + d) := by
  rw [show (4 : Int32) = nI 4 from rfl, nI_mul, nI_add]
theorem ix4' (i : Nat) : 4 * nI i = nI (4 * i) := by
  rw [show (4 : Int32) = nI 4 from rfl, nI_mul]
/-- the i-th told pinch is on a road -/
def wkP (S : Ld) (T : Nat → Int32) (i : Nat) : Prop := ∃ p q, T (4 * i) = nI p ∧ T (4 * i + 1) = nI q ∧ p < Sc S ∧ q < Sc S ∧ ¬ Sw S p q = 0
theorem cango {t u : Mem} {S : Ld} {K m j n : Nat} {T : Nat → Int32} (hn : 64 < n) (hK : K < 8) (hl : isLd t 0 S) (hm : isMd u S) (ok : okLd S) (hT : rwT t K m T) (hU : rwU u K T) (hm2 : m ≤ 160) (hj : j * 4 ≤ m) (hj2 : j ≤ 10) : (f_X5_canBeWalkedBy n ⟨K, hK⟩ (nI j) t = some (1, t) ∧ iter (bd_X6_noJourney_51 n (nI K) (nI j)) n (0, u) = some (0, u) ∧ ∀ i, i < j → wkP S T i) ∨ (f_X5_canBeWalkedBy n ⟨K, hK⟩ (nI j) t = some (0, t) ∧ iter (bd_X6_noJourney_51 n (nI K) (nI j)) n (0, u) = some (-6, u)) := by
  have hc := ok.1
  unfold f_X5_canBeWalkedBy
  refine iter_pair (b1 := bd_X5_canBeWalkedBy_5 n ⟨K, hK⟩ (nI j)) (b2 := bd_X6_noJourney_51 n (nI K) (nI j)) j (fun k s1 s2 => s1 = ((if k = 0 then 0 else T (4 * k - 1)), nI k, t) ∧ s2 = (nI (4 * k), u) ∧ ∀ i, i < k → wkP S T i) (fun r1 r2 => (r1 = some (1, t) ∧ r2 = some (0, u) ∧ ∀ i, i < j → wkP S T i) ∨ (r1 = some (0, t) ∧ r2 = some (-6, u))) ?_ ?_ n n 0 _ _ (Nat.zero_le _) (by omega) (by omega) ⟨by rw [if_pos rfl]; rfl, rfl, fun i hi => absurd hi (Nat.not_lt_zero i)⟩
  · intro s1 s2 k y1 y2 hk hR
    obtain ⟨rfl, rfl, hw⟩ := hR
    have K1 : bd_X5_canBeWalkedBy_5 n ⟨K, hK⟩ (nI j) s1 ((if k = 0 then 0 else T (4 * k - 1)), nI k, t) = bnd (f_X1_between 0 (T (4 * k)) (T (4 * k + 1)) t) fun r8 t9 => if r8 = 0 then some (0, t9) else bnd (f_X4_asInt ⟨K, hK⟩ (nI (4 * k + 2)) t9) fun r11 t12 => if r11 = 0 then some (0, t12) else if (if k = 0 then 0 else T (4 * k - 1)) ≤ T (4 * k + 3) then s1 (T (4 * k + 3), nI (k + 1), t12) else some (0, t12) := by
      unfold bd_X5_canBeWalkedBy_5
      dsimp only
      rw [if_neg (show ¬ nI j ≤ nI k by rw [nI_le' (by omega) (by omega)]; omega), show (1 : Int32) = nI 1 from rfl, show (2 : Int32) = nI 2 from rfl, show (3 : Int32) = nI 3 from rfl, ix4, ix4, ix4, ix4', asI_y hK hT hm2 (by omega), bnd_s, asI_y hK hT hm2 (by omega), bnd_s, asI_y hK hT hm2 (by omega), bnd_s, nI_add]
    have K2 : bd_X6_noJourney_51 n (nI K) (nI j) s2 (nI (4 * k), u) = bnd (f_X6_isPlace (T (4 * k)) u) fun r13 t14 => if r13 = 0 then some (-6, t14) else bnd (f_X6_isPlace (T (4 * k + 1)) t14) fun r16 t17 => if r16 = 0 then some (-6, t17) else bnd (f_X6_noRoad (T (4 * k)) (T (4 * k + 1)) t17) fun r19 t20 => if ¬ r19 = 0 then some (-6, t20) else bnd (f_X6_told (nI K) (nI (4 * k + 2)) t20) fun r22 t23 => if r22 = 0 then some (-6, t23) else bnd (f_X6_told (nI K) (nI (4 * k + 3)) t23) fun r25 t26 => if ¬ nI (4 * k) = 0 then (bnd (f_X6_told (nI K) (nI (4 * k) - 1) t26) fun r28 t29 => jn_X6_noJourney_147 n (nI K) (nI j) s2 (nI (4 * k)) r28 r25 t29) else jn_X6_noJourney_147 n (nI K) (nI j) s2 (nI (4 * k)) 0 r25 t26 := by
      unfold bd_X6_noJourney_51
      dsimp only
      rw [ix4', if_neg (show ¬ nI (4 * j) ≤ nI (4 * k) by rw [nI_le' (by omega) (by omega)]; omega), tld_y hK hU (by omega), bnd_s, show nI (4 * k) + 1 = nI (4 * k + 1) from nI_s _, tld_y hK hU (by omega), bnd_s, show nI (4 * k) + 2 = nI (4 * k + 2) from nI_add _ 2, show nI (4 * k) + 3 = nI (4 * k + 3) from nI_add _ 3]
    rw [K1, K2]
    rcases e1 : plc (Sc S) (T (4 * k)) with _ | p
    · rw [btw_n hl hc (.inl e1), bnd_s, if_pos rfl, isPl_n hm hc e1, bnd_s, if_pos rfl]
      exact .inr (.inr ⟨rfl, rfl⟩)
    obtain ⟨p1, hp⟩ := plc_some e1
    rw [p1, isPl_y hm hc hp, bnd_s, if_neg one_ne]
    rcases e2 : plc (Sc S) (T (4 * k + 1)) with _ | q
    · rw [btw_n hl hc (.inr e2), bnd_s, if_pos rfl, isPl_n hm hc e2, bnd_s, if_pos rfl]
      exact .inr (.inr ⟨rfl, rfl⟩)
    obtain ⟨p2, hq⟩ := plc_some e2
    have hw9 := ok.2.2.2.2.2.1 p q
    rw [p2, btw_y hl hc hp hq, bnd_s, isPl_y hm hc hq, bnd_s, if_neg one_ne, noRoad_y hm ok hp hq, bnd_s, bI_itn]
    by_cases e0 : Sw S p q = 0
    · rw [if_pos (show nI (Sw S p q) = 0 by rw [e0]; rfl), if_pos (decide_eq_true e0)]
      exact .inr (.inr ⟨rfl, rfl⟩)
    rw [if_neg (show ¬ nI (Sw S p q) = 0 from fun g => e0 ((nI_z (by omega)).mp g)), if_neg (show ¬ decide (Sw S p q = 0) = true by simp [e0]), asI_y hK hT hm2 (by omega), bnd_s, tld_y hK hU (by omega), bnd_s]
    by_cases e3 : T (4 * k + 2) = 0
    · rw [if_pos e3, if_pos e3]
      exact .inr (.inr ⟨rfl, rfl⟩)
    rw [if_neg e3, if_neg e3, tld_y hK hU (by omega), bnd_s]
    have hlast : (if ¬ nI (4 * k) = 0 then (bnd (f_X6_told (nI K) (nI (4 * k) - 1) u) fun r28 t29 => jn_X6_noJourney_147 n (nI K) (nI j) s2 (nI (4 * k)) r28 (T (4 * k + 3)) t29) else jn_X6_noJourney_147 n (nI K) (nI j) s2 (nI (4 * k)) 0 (T (4 * k + 3)) u) = if (if k = 0 then 0 else T (4 * k - 1)) ≤ T (4 * k + 3) then s2 (nI (4 * (k + 1)), u) else some (-6, u) := by
      unfold jn_X6_noJourney_147
      rw [show nI (4 * k) + 4 = nI (4 * (k + 1)) from nI_add _ 4]
      by_cases e : k = 0
      · rw [if_pos e, if_neg (by rw [e]; exact z_nn)]
      · rw [if_neg e, if_pos (show ¬ nI (4 * k) = 0 from fun g => by have := (nI_z (by omega)).mp g; omega), show (1 : Int32) = nI 1 from rfl, nI_sub (by omega), tld_y hK hU (by omega), bnd_s]
    rw [hlast]
    by_cases e4 : (if k = 0 then 0 else T (4 * k - 1)) ≤ T (4 * k + 3)
    · rw [if_pos e4, if_pos e4]
      refine .inl ⟨_, _, rfl, rfl, ?_, rfl, fun i hi => ?_⟩
      · rw [if_neg (by omega)]
        rfl
      · by_cases e : i = k
        · rw [e]; exact ⟨p, q, p1, p2, hp, hq, e0⟩
        · exact hw i (by omega)
    · rw [if_neg e4, if_neg e4]
      exact .inr (.inr ⟨rfl, rfl⟩)
  · intro s1 s2 y1 y2 hR
    obtain ⟨rfl, rfl, hw⟩ := hR
    refine .inl ⟨?_, ?_, hw⟩
    · unfold bd_X5_canBeWalkedBy_5
      dsimp only
      rw [if_pos le8]
    · unfold bd_X6_noJourney_51
      dsimp only
      rw [ix4', if_pos le8]
/-- the refusals of a journey between two places -/
theorem jouP {t u : Mem} {S : Ld} {n : Nat} (x1 x2 x y : Int32) (hn : 64 < n) (hl : isLd t 0 S) (hm : isMd u S) (ok : okLd S) (ho : Oth (Sc S) t u) : (∃ s k, 1 ≤ k ∧ k < 8 ∧ f_X5_shelfAt x t = some (s, t) ∧ (bnd (f_X5_rowProblem s t) fun r6 t7 => jn_X5_journey_28 n x1 x2 x y s r6 t7) = (bnd (f_X5_refuseBelowTen (-nI k) t) fun r18 t19 => some (r18, t19)) ∧ f_X6_noJourney n x y u = some (-nI k, u)) ∨ ∃ (K : Nat) (hK : K < 8) (m : Nat) (T : Nat → Int32) (j : Nat), x = nI K ∧ y = nI j ∧ m ≤ 160 ∧ j * 4 ≤ m ∧ j ≤ 10 ∧ f_X5_shelfAt x t = some (some ⟨K, hK⟩, t) ∧ (bnd (f_X5_rowProblem (some ⟨K, hK⟩) t) fun r6 t7 => jn_X5_journey_28 n x1 x2 x y (some ⟨K, hK⟩) r6 t7) = (bnd (f_X5_walk n x1 x2 ⟨K, hK⟩ y t) fun r21 t22 => some (r21, t22)) ∧ f_X6_noJourney n x y u = some (0, u) ∧ rwT t K m T ∧ rwU u K T ∧ ∀ i, i < j → wkP S T i := by
  have h67 : ∀ (s : Option (Fin 8)) (k : Nat), 1 ≤ k → k < 8 → jn_X5_journey_47 n x1 x2 x y s (-nI k) t = (bnd (f_X5_refuseBelowTen (-nI k) t) fun r18 t19 => some (r18, t19)) := by
    intro s k k1 k2
    unfold jn_X5_journey_47 jn_X5_journey_67
    rw [if_pos (ng_ne k1 k2), if_pos (ng_ne k1 k2)]
  rcases rowp x ok ho with ⟨s, k, k1, k2, a, b, c⟩ | ⟨K, hK, m, T, rfl, hm2, a, b, c, d, hT, hU⟩
  · refine .inl ⟨s, k, k1, by omega, a, ?_, ?_⟩
    · rw [b, bnd_s]
      unfold jn_X5_journey_28
      rw [if_pos (ng_ne k1 (by omega)), h67 s k k1 (by omega)]
    · unfold f_X6_noJourney
      rw [c, bnd_s, if_neg (ng_lt k1 (by omega))]
  have hC : (bnd (f_X5_rowProblem (some ⟨K, hK⟩) t) fun r6 t7 => jn_X5_journey_28 n x1 x2 (nI K) y (some ⟨K, hK⟩) r6 t7) = bnd (f_X5_toldProblem ⟨K, hK⟩ y (nI 4) (nI 10) t) fun r10 t11 => jn_X5_journey_47 n x1 x2 (nI K) y (some ⟨K, hK⟩) r10 t11 := by
    rw [b, bnd_s]
    unfold jn_X5_journey_28
    rw [if_neg z_nn, nn_s]
    rfl
  have hM : f_X6_noJourney n (nI K) y u = if 0 ≤ y then (if lg_cmp (4 * y.toInt64) ((u.1 41 (nI K).toNatClampNeg).toInt64) ≤ 0 then (if y ≤ 10 then iter (bd_X6_noJourney_51 n (nI K) y) n (0, u) else some (-6, u)) else some (-5, u)) else some (-4, u) := by
    unfold f_X6_noJourney
    rw [c, bnd_s, if_pos (by decide), ck_t (inb_nI hK (by decide))]
  by_cases e1 : 0 ≤ y
  · obtain ⟨j, hj, rfl⟩ := ge_0 e1
    have hm3 : (lg_cmp (4 * (nI j).toInt64) ((u.1 41 (nI K).toNatClampNeg).toInt64) ≤ 0) ↔ j * 4 ≤ m := by
      rw [nI_clamp (by omega), d, lg_cmp_le, Int64.mul_comm, show (4 : Int64) = (nI 4).toInt64 from rfl, lmul hj (.inr rfl) hm2]
    have hp := tp_y (b := 4) (M := 10) hK hT hm2 hj (.inr rfl) (by omega)
    rw [hp, bnd_s] at hC
    rw [if_pos e1] at hM
    by_cases e2 : j * 4 ≤ m
    · rw [if_pos e2] at hC
      rw [if_pos (hm3.mpr e2)] at hM
      by_cases e3 : j ≤ 10
      · rw [if_pos e3] at hC
        rw [if_pos (show nI j ≤ 10 by rw [show (10 : Int32) = nI 10 from rfl, nI_le' hj (by omega)]; exact e3)] at hM
        rcases cango hn hK hl hm ok hT hU hm2 e2 e3 with ⟨g1, g2, g3⟩ | ⟨g1, g2⟩
        · rw [g2] at hM
          refine .inr ⟨K, hK, m, T, j, rfl, rfl, hm2, e2, e3, a, hC.trans ?_, hM, hT, hU, g3⟩
          unfold jn_X5_journey_47 jn_X5_journey_67
          rw [if_neg z_nn, nn_s, g1, bnd_s, if_pos one_ne, if_neg z_nn, nn_s]
        · rw [g2] at hM
          refine .inl ⟨_, 6, by omega, by omega, a, hC.trans ?_, hM⟩
          unfold jn_X5_journey_47 jn_X5_journey_67
          rw [if_neg z_nn, nn_s, g1, bnd_s, if_neg z_nn, if_pos (by decide)]
          rfl
      · rw [if_neg e3] at hC
        rw [if_neg (show ¬ nI j ≤ 10 by rw [show (10 : Int32) = nI 10 from rfl, nI_le' hj (by omega)]; exact e3)] at hM
        exact .inl ⟨_, 6, by omega, by omega, a, hC.trans (h67 _ 6 (by omega) (by omega)), hM⟩
    · rw [if_neg e2] at hC
      rw [if_neg (fun g => e2 (hm3.mp g))] at hM
      exact .inl ⟨_, 5, by omega, by omega, a, hC.trans (h67 _ 5 (by omega) (by omega)), hM⟩
  · rw [tp_neg e1, bnd_s] at hC
    rw [if_neg e1] at hM
    exact .inl ⟨_, 4, by omega, by omega, a, hC.trans (h67 _ 4 (by omega) (by omega)), hM⟩
