/-! layer 2: status -/
theorem sm_cut {f : Nat → Nat} {c : Nat} : ∀ k, (∀ i, c ≤ i → i < c + k → f i = 0) → smN f (c + k) = smN f c
  | 0, _ => rfl
  | k + 1, h => by
    show smN f (c + k) + f (c + k) = smN f c
    rw [sm_cut k (fun i h1 h2 => h i h1 (by omega)), h (c + k) (by omega) (by omega)]
    rfl
theorem sm_8 {f : Nat → Nat} {c : Nat} (hc : c ≤ 8) (h : ∀ i, c ≤ i → f i = 0) : smN f 8 = smN f c := by
  obtain ⟨k, e⟩ : ∃ k, 8 = c + k := ⟨8 - c, by omega⟩
  rw [e]
  exact sm_cut k (fun i h1 _ => h i h1)
theorem sm_grid (f : Nat → Nat → Nat) : ∀ k, smN (fun i => f (i / 8) (i % 8)) (8 * k) = smN (fun p => smN (fun q => f p q) 8) k
  | 0 => rfl
  | k + 1 => by
    have h := sm_grid f k
    have e : ∀ q, q < 8 → f ((8 * k + q) / 8) ((8 * k + q) % 8) = f k q := fun q hq => by
      rw [show (8 * k + q) / 8 = k by omega, show (8 * k + q) % 8 = q by omega]
    show smN (fun i => f (i / 8) (i % 8)) (8 * k) + f ((8 * k + 0) / 8) ((8 * k + 0) % 8) + f ((8 * k + 1) / 8) ((8 * k + 1) % 8) + f ((8 * k + 2) / 8) ((8 * k + 2) % 8) + f ((8 * k + 3) / 8) ((8 * k + 3) % 8) + f ((8 * k + 4) / 8) ((8 * k + 4) % 8) + f ((8 * k + 5) / 8) ((8 * k + 5) % 8) + f ((8 * k + 6) / 8) ((8 * k + 6) % 8) + f ((8 * k + 7) / 8) ((8 * k + 7) % 8) = smN (fun p => smN (fun q => f p q) 8) k + (0 + f k 0 + f k 1 + f k 2 + f k 3 + f k 4 + f k 5 + f k 6 + f k 7)
    rw [h, e 0 (by omega), e 1 (by omega), e 2 (by omega), e 3 (by omega), e 4 (by omega), e 5 (by omega), e 6 (by omega), e 7 (by omega)]
    omega
theorem sm_land {c : Nat} (hc : c ≤ 8) {f : Nat → Nat → Nat} (h : ∀ p q, c ≤ p ∨ c ≤ q → f p q = 0) : smN (fun i => f (i / 8) (i % 8)) 64 = smN (fun p => smN (fun q => f p q) c) c := by
  rw [show 64 = 8 * 8 from rfl, sm_grid, sm_8 hc (fun p hp => sm_0 8 (fun q _ => h p q (.inl hp)))]
  exact sm_congr c (fun p _ => sm_8 hc (fun q hq => h p q (.inr hq)))
theorem mask_bs (S : Ld) (p : Nat) : ∀ c, c ≤ 8 → maskI S p c = nI (bsN (fun q => !decide (Sw S p q = 0)) c)
  | 0, _ => rfl
  | q + 1, hq => by
    have h := mask_bs S p q (by omega)
    unfold maskI bsN
    by_cases e : Sw S p q = 0
    · rw [if_pos e, if_neg (by simp [e]), h]
    · rw [if_neg e, if_pos (by simp [e]), h, bs_or (by omega) (bsN_lt _ _)]
theorem sum_sm (S : Ld) (p : Nat) : ∀ c, sumI S p c = nI (smN (Sw S p) c)
  | 0 => rfl
  | q + 1 => by
    unfold sumI smN
    rw [sum_sm S p q, nI_add]
theorem cnt_sm (b : Nat → Bool) : ∀ c, cntN b c = smN (fun q => if b q = true then 1 else 0) c
  | 0 => rfl
  | q + 1 => by
    unfold cntN smN
    rw [cnt_sm b q]
    split <;> rfl
def rdB (S : Ld) (p q : Nat) : Nat := if (!decide (Sw S p q = 0)) = true then 1 else 0
theorem roads_y {t : Mem} {S : Ld} {n : Nat} (hn : 8 < n) (h : isLd t 0 S) (ok : okLd S) : f_X1_countRoads n 0 t = some (nI (smN (fun p => smN (rdB S p) (Sc S)) (Sc S)) / 2, t) := by
  have hc := ok.1
  refine iter_up0 (body := bd_X1_countRoads_4 n 0) (Sc S) (fun p => (nI (smN (fun p => smN (rdB S p) (Sc S)) p), nI p, t)) _ rfl (by omega) (fun self p hp => ?_) (fun self => ?_)
  · unfold bd_X1_countRoads_4
    dsimp only
    rw [h.1, if_neg (nle8 hp hc), neigh_y h ok hp hn, bnd_s, mask_bs S p _ hc, bs_cnt _ _ hc, bnp_s, nI_add, nI_s, cnt_sm]
    rfl
  · unfold bd_X1_countRoads_4
    dsimp only
    rw [h.1, if_pos le8]
theorem allm_y {t : Mem} {S : Ld} {n : Nat} (hn : 8 < n) (h : isLd t 0 S) (ok : okLd S) : f_X1_allMiles n 0 t = some (nI (smN (fun p => smN (Sw S p) (Sc S)) (Sc S)) / 2, t) := by
  have hc := ok.1
  refine iter_up0 (body := bd_X1_allMiles_4 n 0) (Sc S) (fun p => (nI (smN (fun p => smN (Sw S p) (Sc S)) p), nI p, t)) _ rfl (by omega) (fun self p hp => ?_) (fun self => ?_)
  · unfold bd_X1_allMiles_4
    dsimp only
    rw [h.1, if_neg (nle8 hp hc), milesOf_y h ok hp hn, bnd_s, sum_sm, nI_add, nI_s]
    rfl
  · unfold bd_X1_allMiles_4
    dsimp only
    rw [h.1, if_pos le8]
theorem mcell {u : Mem} {S : Ld} (h : isMd u S) {i : Nat} (hi : i < 64) : u.1 45 i = nI (Sw S (i / 8) (i % 8)) := by
  have := h.2.2.2.2.2.2 (i / 8) (i % 8) (by omega) (by omega)
  rw [show 8 * (i / 8) + i % 8 = i by omega] at this
  exact this
theorem n64 {i : Nat} (h : i < 64) : ¬ (64 : Int32) ≤ nI i := by
  rw [show (64 : Int32) = nI 64 from rfl, nI_le' (by omega) (by omega)]; omega
theorem mroads_c {u : Mem} {S : Ld} {n : Nat} {x : Int32} (hn : 64 < n) (h : isMd u S) (ok : okLd S) : iter (bd_X6_status_51 n x) n (0, 0, u) = some (nI (smN (fun p => smN (rdB S p) (Sc S)) (Sc S)) / 2, u) := by
  have hc := ok.1
  have hs := sm_land (f := rdB S) hc (fun p q hpq => by
    unfold rdB
    have : Sw S p q = 0 := by
      apply Classical.byContradiction
      intro e
      have := ok.2.2.2.2.2.2.2.2 p q e
      omega
    rw [if_neg (by simp [this])])
  rw [← hs]
  refine iter_up0 (body := bd_X6_status_51 n x) 64 (fun i => (nI (smN (fun i => rdB S (i / 8) (i % 8)) i), nI i, u)) _ rfl hn (fun self i hi => ?_) (fun self => ?_)
  · have hw := ok.2.2.2.2.2.1 (i / 8) (i % 8)
    unfold bd_X6_status_51
    dsimp only
    rw [if_neg (n64 hi), ck_t (inb_nI hi (by decide)), nI_clamp (by omega), mcell h hi]
    show _ = self (nI (smN (fun i => rdB S (i / 8) (i % 8)) i + rdB S (i / 8) (i % 8)), nI (i + 1), u)
    unfold rdB
    by_cases e : Sw S (i / 8) (i % 8) = 0
    · rw [if_pos ((nI_le0 (by omega)).mpr e), if_neg (show ¬ (!decide (Sw S (i / 8) (i % 8) = 0)) = true by simp [e]), nI_s]
      rfl
    · rw [if_neg (fun g => e ((nI_le0 (by omega)).mp g)), if_pos (show (!decide (Sw S (i / 8) (i % 8) = 0)) = true by simp [e]), nI_s, nI_s]
  · unfold bd_X6_status_51
    dsimp only
    rw [if_pos (show (64 : Int32) ≤ nI 64 from le8)]
theorem mall_c {u : Mem} {S : Ld} {n : Nat} {x : Int32} (hn : 64 < n) (h : isMd u S) (ok : okLd S) : iter (bd_X6_status_81 n x) n (0, 0, u) = some (nI (smN (fun p => smN (Sw S p) (Sc S)) (Sc S)) / 2, u) := by
  have hc := ok.1
  have hs := sm_land (f := Sw S) hc (fun p q hpq => by
    apply Classical.byContradiction
    intro e
    have := ok.2.2.2.2.2.2.2.2 p q e
    omega)
  rw [← hs]
  refine iter_up0 (body := bd_X6_status_81 n x) 64 (fun i => (nI (smN (fun i => Sw S (i / 8) (i % 8)) i), nI i, u)) _ rfl hn (fun self i hi => ?_) (fun self => ?_)
  · unfold bd_X6_status_81
    dsimp only
    rw [if_neg (n64 hi), ck_t (inb_nI hi (by decide)), nI_clamp (by omega), mcell h hi, lti_s, nI_add, nI_s]
    rfl
  · unfold bd_X6_status_81
    dsimp only
    rw [if_pos (show (64 : Int32) ≤ nI 64 from le8)]
theorem stp39 {n : Nat} (hn : 64 < n) : Stp39 Rel n := fun t u x h0 => by
  obtain ⟨S, hl, hm, ok, ho⟩ := id h0
  have hc := ok.1
  by_cases a0 : x = 0
  · subst a0
    refine ⟨nI (Sc S), t, u, ?_, ?_, h0⟩
    · unfold f_X5_status jn_X5_status_22
      rw [if_pos (by decide), if_pos rfl, hl.1]
    · unfold f_X6_status
      rw [if_pos rfl, hm.1]
  by_cases a1 : x = 1
  · subst a1
    refine ⟨nI (smN (fun p => smN (rdB S p) (Sc S)) (Sc S)) / 2, t, u, ?_, ?_, h0⟩
    · unfold f_X5_status jn_X5_status_22
      rw [if_pos (by decide), if_neg (by decide), if_pos rfl, roads_y (by omega) hl ok, bnd_s]
    · unfold f_X6_status
      rw [if_neg (by decide), if_pos rfl, mroads_c hn hm ok]
  by_cases a2 : x = 2
  · subst a2
    refine ⟨nI (smN (fun p => smN (Sw S p) (Sc S)) (Sc S)) / 2, t, u, ?_, ?_, h0⟩
    · unfold f_X5_status jn_X5_status_22
      rw [if_pos (by decide), if_neg (by decide), if_neg (by decide), if_pos rfl, allm_y (by omega) hl ok, bnd_s]
    · unfold f_X6_status
      rw [if_neg (by decide), if_neg (by decide), if_pos rfl, mall_c hn hm ok]
  by_cases a3 : x = 3
  · subst a3
    refine ⟨nI (Sf S), t, u, ?_, ?_, h0⟩
    · unfold f_X5_status jn_X5_status_22
      rw [if_pos (by decide), if_neg (by decide), if_neg (by decide), if_neg (by decide), if_pos rfl, hl.2.1]
    · unfold f_X6_status
      rw [if_neg (by decide), if_neg (by decide), if_neg (by decide), if_pos rfl, hm.2.1]
  by_cases a4 : x = 4
  · subst a4
    refine ⟨nI (Sd S), t, u, ?_, ?_, h0⟩
    · unfold f_X5_status jn_X5_status_22
      rw [if_pos (by decide), if_neg (by decide), if_neg (by decide), if_neg (by decide), if_neg (by decide), if_pos rfl, hl.2.2.1]
    · unfold f_X6_status
      rw [if_neg (by decide), if_neg (by decide), if_neg (by decide), if_neg (by decide), if_pos rfl, hm.2.2.1]
  by_cases a5 : x = 5
  · subst a5
    refine ⟨Se S, t, u, ?_, ?_, h0⟩
    · unfold f_X5_status jn_X5_status_22
      rw [if_pos (by decide), if_neg (by decide), if_neg (by decide), if_neg (by decide), if_neg (by decide), if_neg (by decide), if_pos rfl, hl.2.2.2.1]
    · unfold f_X6_status
      rw [if_neg (by decide), if_neg (by decide), if_neg (by decide), if_neg (by decide), if_neg (by decide), if_pos rfl, hm.2.2.2.1]
  by_cases a6 : x = 6
  · subst a6
    refine ⟨u.1 39 12, t, u, ?_, ?_, h0⟩
    · unfold f_X5_status jn_X5_status_22
      rw [if_pos (by decide), if_neg (by decide), if_neg (by decide), if_neg (by decide), if_neg (by decide), if_neg (by decide), if_neg (by decide), if_pos rfl, ho.2.2.2.2.1]
    · unfold f_X6_status
      rw [if_neg (by decide), if_neg (by decide), if_neg (by decide), if_neg (by decide), if_neg (by decide), if_neg (by decide), if_pos rfl]
  have hjn : jn_X5_status_22 n x t = some (-1, t) := by
    unfold jn_X5_status_22
    rw [if_neg a0, if_neg a1, if_neg a2, if_neg a3, if_neg a4, if_neg a5, if_neg a6]
  unfold f_X5_status f_X6_status
  rw [hjn, if_neg a0, if_neg a1, if_neg a2, if_neg a3, if_neg a4, if_neg a5, if_neg a6]
  by_cases b1 : x < 11
  · rw [if_pos b1, win_n (.inl b1), bnp_s, if_pos rfl]
    exact ⟨_, _, _, rfl, rfl, h0⟩
  by_cases b2 : 17 < x
  · rw [if_neg b1, if_pos b2, win_n (.inr b2), bnp_s, if_pos rfl]
    exact ⟨_, _, _, rfl, rfl, h0⟩
  have e1 : ¬ x.toInt < 11 := fun e => b1 (i_lt.mpr e)
  have e2 : ¬ 17 < x.toInt := fun e => b2 (i_lt.mpr e)
  obtain ⟨j, ej⟩ : ∃ j : Nat, x.toInt = j := ⟨x.toInt.toNat, by omega⟩
  have ex : x = nI j := Int32.toInt_inj.mp (by rw [nI_toInt (by omega)]; exact ej)
  subst ex
  rw [if_neg b1, if_neg b2, win_y b1 b2, bnp_s, if_neg one_ne, show (10 : Int32) = nI 10 from rfl, nI_sub (by omega), ck_t (inb_nI (by omega) (by decide)), ck_t (inb_nI (by omega) (by decide)), nI_clamp (by omega), ho.2.2.1 _ (by omega)]
  exact ⟨_, _, _, rfl, rfl, h0⟩
