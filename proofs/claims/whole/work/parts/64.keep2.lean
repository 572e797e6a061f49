/-! layer 2: KEEP, the class -/
def lmP (S : Ld) (I : Nat → Bool) (q k x : Nat) : Prop := (x = 0 ∧ ∀ p, p < k → I p = true → Sw S p q = 0) ∨ (¬ x = 0 ∧ (∃ p, p < k ∧ I p = true ∧ Sw S p q = x) ∧ ∀ p, p < k → I p = true → ¬ Sw S p q = 0 → x ≤ Sw S p q)
theorem lm_y {t : Mem} {S : Ld} {I : Nat → Bool} {q n : Nat} (hn : 8 < n) (hl : isLd t 0 S) (ok : okLd S) (hq : q < Sc S) : ∃ x, x ≤ 999 ∧ f_X1_leastMilesFrom n 0 (nI (bsN I 8)) (nI q) t = some (nI x, t) ∧ lmP S I q (Sc S) x := by
  have hc := ok.1
  refine iter_inv (body := bd_X1_leastMilesFrom_5 n 0 (nI (bsN I 8)) (nI q)) (Sc S) (fun k s => ∃ x, x ≤ 999 ∧ s = (nI x, nI k, t) ∧ lmP S I q k x) (fun r => ∃ x, x ≤ 999 ∧ r = some (nI x, t) ∧ lmP S I q (Sc S) x) ?_ ?_ n 0 _ (Nat.zero_le _) (by omega) ⟨0, by omega, rfl, .inl ⟨rfl, fun p hp => absurd hp (Nat.not_lt_zero p)⟩⟩
  · intro self k s hk hs
    obtain ⟨x, hx, rfl, hP⟩ := hs
    have hw := ok.2.2.2.2.2.1 k q
    have st : bd_X1_leastMilesFrom_5 n 0 (nI (bsN I 8)) (nI q) self (nI x, nI k, t) = if (if I k = true then (1 : Int32) else 0) = 0 then self (nI x, nI (k + 1), t) else if nI (Sw S k q) = 0 then self (nI x, nI (k + 1), t) else if nI x = 0 then self (nI (Sw S k q), nI (k + 1), t) else if nI x ≤ nI (Sw S k q) then self (nI x, nI (k + 1), t) else self (nI (Sw S k q), nI (k + 1), t) := by
      unfold bd_X1_leastMilesFrom_5
      dsimp only
      rw [hl.1, if_neg (nle8 hk hc), btw_y hl hc hk hq, bnd_s, bs_bit (by omega), nI_s]
    rw [st]
    left
    by_cases e1 : I k = true
    · rw [if_pos e1, if_neg one_ne]
      by_cases e2 : Sw S k q = 0
      · rw [if_pos (by rw [e2]; rfl)]
        refine ⟨_, rfl, x, hx, rfl, ?_⟩
        rcases hP with ⟨h1, h2⟩ | ⟨h1, ⟨p, h2, h3, h4⟩, h5⟩
        · refine .inl ⟨h1, fun p hp hi => ?_⟩
          by_cases e : p = k
          · rw [e]; exact e2
          · exact h2 p (by omega) hi
        · refine .inr ⟨h1, ⟨p, by omega, h3, h4⟩, fun p hp hi hz => ?_⟩
          by_cases e : p = k
          · rw [e] at hz; exact absurd e2 hz
          · exact h5 p (by omega) hi hz
      rw [if_neg (fun g => e2 ((nI_z (by omega)).mp g))]
      by_cases e3 : x = 0
      · rw [if_pos (by rw [e3]; rfl)]
        refine ⟨_, rfl, Sw S k q, by omega, rfl, .inr ⟨e2, ⟨k, by omega, e1, rfl⟩, fun p hp hi hz => ?_⟩⟩
        rcases hP with ⟨h1, h2⟩ | ⟨h1, _⟩
        · by_cases e : p = k
          · rw [e]; omega
          · exact absurd (h2 p (by omega) hi) hz
        · exact absurd e3 h1
      rw [if_neg (fun g => e3 ((nI_z (by omega)).mp g))]
      rcases hP with ⟨h1, h2⟩ | ⟨h1, ⟨p, h2, h3, h4⟩, h5⟩
      · exact absurd h1 e3
      by_cases e4 : x ≤ Sw S k q
      · rw [if_pos (by rw [nI_le' (by omega) (by omega)]; exact e4)]
        refine ⟨_, rfl, x, hx, rfl, .inr ⟨h1, ⟨p, by omega, h3, h4⟩, fun p hp hi hz => ?_⟩⟩
        by_cases e : p = k
        · rw [e]; exact e4
        · exact h5 p (by omega) hi hz
      · rw [if_neg (by rw [nI_le' (by omega) (by omega)]; exact e4)]
        refine ⟨_, rfl, Sw S k q, by omega, rfl, .inr ⟨e2, ⟨k, by omega, e1, rfl⟩, fun p hp hi hz => ?_⟩⟩
        by_cases e : p = k
        · rw [e]; omega
        · have := h5 p (by omega) hi hz
          omega
    · rw [if_neg e1, if_pos rfl]
      refine ⟨_, rfl, x, hx, rfl, ?_⟩
      rcases hP with ⟨h1, h2⟩ | ⟨h1, ⟨p, h2, h3, h4⟩, h5⟩
      · refine .inl ⟨h1, fun p hp hi => ?_⟩
        by_cases e : p = k
        · rw [e] at hi; exact absurd hi e1
        · exact h2 p (by omega) hi
      · refine .inr ⟨h1, ⟨p, by omega, h3, h4⟩, fun p hp hi hz => ?_⟩
        by_cases e : p = k
        · rw [e] at hi; exact absurd hi e1
        · exact h5 p (by omega) hi hz
  · intro self s hs
    obtain ⟨x, hx, rfl, hP⟩ := hs
    refine ⟨x, hx, ?_, hP⟩
    unfold bd_X1_leastMilesFrom_5
    dsimp only
    rw [hl.1, if_pos le8]
/-- the best place so far -/
def bpP (S : Ld) (I : Nat → Bool) (k : Nat) (b y : Int32) : Prop := (b = -1 ∧ y = 0 ∧ ∀ q, q < k → I q = true) ∨ ∃ v x, v < Sc S ∧ ¬ I v = true ∧ b = nI v ∧ y = nI x ∧ x ≤ 999 ∧ lmP S I v (Sc S) x ∧ (x = 0 → ∀ q, q < k → ¬ I q = true → ∀ p, p < Sc S → I p = true → Sw S p q = 0) ∧ (¬ x = 0 → ∀ q, q < k → ¬ I q = true → ∀ p, p < Sc S → I p = true → ¬ Sw S p q = 0 → x ≤ Sw S p q)
theorem best_y {t : Mem} {S : Ld} {I : Nat → Bool} {n : Nat} {s3 : Int32} {s : Nat} (hn : 8 < n) (hl : isLd t 0 S) (ok : okLd S) (hfree : cntN I (Sc S) < Sc S) (self6 : Int32 × Int32 × Int32 × Mem → Option (Int32 × Mem)) : ∃ v x, tnP S I v x ∧ x ≤ 999 ∧ iter (bd_X1_leastMilesThatKeep_23 n 0 self6) n (nI (bsN I 8), nI s, s3, -1, 0, 0, t) = self6 (nI (bsN (addI I v) 8), nI (s + x), s3 + 1, t) := by
  have hc := ok.1
  refine iter_inv (body := bd_X1_leastMilesThatKeep_23 n 0 self6) (Sc S) (fun k r => ∃ b y, r = (nI (bsN I 8), nI s, s3, b, y, nI k, t) ∧ bpP S I k b y) (fun r => ∃ v x, tnP S I v x ∧ x ≤ 999 ∧ r = self6 (nI (bsN (addI I v) 8), nI (s + x), s3 + 1, t)) ?_ ?_ n 0 _ (Nat.zero_le _) (by omega) ⟨-1, 0, rfl, .inl ⟨rfl, rfl, fun q hq => absurd hq (Nat.not_lt_zero q)⟩⟩
  · intro self k r hk hr
    obtain ⟨b, y, rfl, hP⟩ := hr
    obtain ⟨x, hx, hlm, hX⟩ := lm_y (I := I) (n := n) hn hl ok hk
    have st : bd_X1_leastMilesThatKeep_23 n 0 self6 self (nI (bsN I 8), nI s, s3, b, y, nI k, t) = if ¬ (if I k = true then (1 : Int32) else 0) = 0 then self (nI (bsN I 8), nI s, s3, b, y, nI (k + 1), t) else if b = -1 then self (nI (bsN I 8), nI s, s3, nI k, nI x, nI (k + 1), t) else if nI x = 0 then self (nI (bsN I 8), nI s, s3, b, y, nI (k + 1), t) else if y = 0 then self (nI (bsN I 8), nI s, s3, nI k, nI x, nI (k + 1), t) else if y ≤ nI x then self (nI (bsN I 8), nI s, s3, b, y, nI (k + 1), t) else self (nI (bsN I 8), nI s, s3, nI k, nI x, nI (k + 1), t) := by
      unfold bd_X1_leastMilesThatKeep_23
      dsimp only
      rw [hl.1, if_neg (nle8 hk hc), bs_bit (by omega), hlm, bnd_s, nI_s]
    rw [st]
    left
    by_cases e1 : I k = true
    · rw [if_pos e1, if_pos one_ne]
      refine ⟨_, rfl, b, y, rfl, ?_⟩
      rcases hP with ⟨h1, h2, h3⟩ | ⟨v, x', h1, h2, h3, h4, h5, h6, h7, h8⟩
      · refine .inl ⟨h1, h2, fun q hq => ?_⟩
        by_cases e : q = k
        · rw [e]; exact e1
        · exact h3 q (by omega)
      · refine .inr ⟨v, x', h1, h2, h3, h4, h5, h6, fun z q hq hi => ?_, fun z q hq hi => ?_⟩
        · by_cases e : q = k
          · rw [e] at hi; exact absurd e1 hi
          · exact h7 z q (by omega) hi
        · by_cases e : q = k
          · rw [e] at hi; exact absurd e1 hi
          · exact h8 z q (by omega) hi
    rw [if_neg e1, if_neg z_nn]
    -- the new place taken
    have take : (∀ q, q < k → ¬ I q = true → ∀ p, p < Sc S → I p = true → ¬ Sw S p q = 0 → ¬ x = 0 ∧ x ≤ Sw S p q) → bpP S I (k + 1) (nI k) (nI x) := by
      intro h
      refine .inr ⟨k, x, hk, e1, rfl, rfl, hx, hX, fun z q hq hi p hp hip => ?_, fun z q hq hi p hp hip hz => ?_⟩
      · by_cases e : q = k
        · rw [e]
          rcases hX with ⟨_, g⟩ | ⟨g, _⟩
          · exact g p hp hip
          · exact absurd z g
        · apply Classical.byContradiction
          intro hz
          exact (h q (by omega) hi p hp hip hz).1 z
      · by_cases e : q = k
        · rw [e] at hz ⊢
          rcases hX with ⟨g, _⟩ | ⟨_, _, g⟩
          · exact absurd g z
          · exact g p hp hip hz
        · exact (h q (by omega) hi p hp hip hz).2
    rcases hP with ⟨h1, h2, h3⟩ | ⟨v, x', h1, h2, h3, h4, h5, h6, h7, h8⟩
    · rw [if_pos h1]
      exact ⟨_, rfl, _, _, rfl, take (fun q hq hi => absurd (h3 q hq) hi)⟩
    · rw [if_neg (by rw [h3]; exact nI_nm (by omega))]
      -- the old place stays
      have stay : (¬ x = 0 → ¬ x' = 0 ∧ x' ≤ x) → bpP S I (k + 1) b y := by
        intro h
        refine .inr ⟨v, x', h1, h2, h3, h4, h5, h6, fun z q hq hi p hp hip => ?_, fun z q hq hi p hp hip hz => ?_⟩
        · by_cases e : q = k
          · rw [e]
            rcases hX with ⟨_, g⟩ | ⟨g, _⟩
            · exact g p hp hip
            · exact absurd z (h g).1
          · exact h7 z q (by omega) hi p hp hip
        · by_cases e : q = k
          · rw [e] at hz ⊢
            rcases hX with ⟨_, g⟩ | ⟨g0, _, g⟩
            · exact absurd (g p hp hip) hz
            · exact Nat.le_trans (h g0).2 (g p hp hip hz)
          · exact h8 z q (by omega) hi p hp hip hz
      by_cases e2 : x = 0
      · rw [if_pos (by rw [e2]; rfl)]
        exact ⟨_, rfl, _, _, rfl, stay (fun g => absurd e2 g)⟩
      rw [if_neg (fun g => e2 ((nI_z (by omega)).mp g))]
      by_cases e3 : x' = 0
      · rw [if_pos (by rw [h4, e3]; rfl)]
        exact ⟨_, rfl, _, _, rfl, take (fun q hq hi p hp hip hz => absurd (h7 e3 q hq hi p hp hip) hz)⟩
      rw [if_neg (by rw [h4]; exact fun g => e3 ((nI_z (by omega)).mp g)), h4]
      by_cases e4 : x' ≤ x
      · rw [if_pos (by rw [nI_le' (by omega) (by omega)]; exact e4)]
        rw [h4] at stay
        exact ⟨_, rfl, _, _, rfl, stay (fun _ => ⟨e3, e4⟩)⟩
      · rw [if_neg (by rw [nI_le' (by omega) (by omega)]; exact e4)]
        refine ⟨_, rfl, _, _, rfl, take (fun q hq hi p hp hip hz => ⟨e2, ?_⟩)⟩
        have := h8 e3 q hq hi p hp hip hz
        omega
  · intro self r hr
    obtain ⟨b, y, rfl, hP⟩ := hr
    rcases hP with ⟨h1, h2, h3⟩ | ⟨v, x, h1, h2, h3, h4, h5, h6, h7, h8⟩
    · obtain ⟨i, i1, i2⟩ := cnt_free hfree
      exact absurd (h3 i i1) i2
    · refine ⟨v, x, ⟨h1, h2, ?_⟩, h5, ?_⟩
      · by_cases e : x = 0
        · exact .inl ⟨e, fun p q hp hq hip hi => h7 e q hq hi p hp hip⟩
        · refine .inr ⟨e, ?_, fun p q hp hq hip hi hz => h8 e q hq hi p hp hip hz⟩
          rcases h6 with ⟨g, _⟩ | ⟨_, g, _⟩
          · exact absurd g e
          · exact g
      · unfold bd_X1_leastMilesThatKeep_23 jn_X1_leastMilesThatKeep_102
        dsimp only
        rw [hl.1, if_pos le8, h3, if_pos (nI_nm (by omega)), bs_set (by omega) h2, h4, nI_add]
theorem keep_class {t : Mem} {S : Ld} {n : Nat} (hn : 8 < n) (hl : isLd t 0 S) (ok : okLd S) : ∃ s I, f_X1_leastMilesThatKeep n 0 t = some (nI s, t) ∧ kpI S I s ∧ ∀ v, v < Sc S → I v = true := by
  have hc := ok.1
  refine iter_inv (body := bd_X1_leastMilesThatKeep_6 n 0) (Sc S) (fun i r => ∃ s I, r = (nI (bsN I 8), nI s, nI i, t) ∧ kpI S I s ∧ cntN I (Sc S) = i) (fun r => ∃ s I, r = some (nI s, t) ∧ kpI S I s ∧ ∀ v, v < Sc S → I v = true) ?_ ?_ n 0 _ (Nat.zero_le _) (by omega) ⟨0, fun _ => false, rfl, kp_0 S, ?_⟩
  · intro self i r hi hr
    obtain ⟨s, I, rfl, hk, hcn⟩ := hr
    obtain ⟨v, x, h1, h2, h3⟩ := best_y (n := n) (s := s) (s3 := nI i) (I := I) hn hl ok (by omega) self
    refine .inl ⟨_, ?_, s + x, addI I v, rfl, kp_turn ok.w h1 h2 hk, by rw [cnt_add h1.1 h1.2.1, hcn]⟩
    unfold bd_X1_leastMilesThatKeep_6
    dsimp only
    rw [hl.1, if_neg (nle8 hi hc), h3, nI_s]
  · intro self r hr
    obtain ⟨s, I, rfl, hk, hcn⟩ := hr
    refine ⟨s, I, ?_, hk, cnt_full (Sc S) hcn⟩
    unfold bd_X1_leastMilesThatKeep_6
    dsimp only
    rw [hl.1, if_pos le8]
  · have z : ∀ c, cntN (fun _ => false) c = 0 := by
      intro c
      induction c with
      | zero => rfl
      | succ c ih => show (if false = true then _ else cntN (fun _ => false) c) = 0; rw [if_neg (by decide), ih]
    exact z _
