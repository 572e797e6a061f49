/-! layer 2: map, numbers -/
def frC (v v' : Mem) : Prop := v'.2 = v.2 ∧ ∀ o, ¬ o ∈ [35, 36] → v'.1 o = v.1 o
theorem frC.rf (v : Mem) : frC v v := ⟨rfl, fun _ _ => rfl⟩
theorem frC.trans {u u1 u2 : Mem} (h : frC u u1) (g : frC u1 u2) : frC u u2 := ⟨g.1.trans h.1, fun o ho => (g.2 o ho).trans (h.2 o ho)⟩
theorem frC.up (v : Mem) {o k : Nat} (x : Int32) (h : o ∈ [35, 36]) : frC v (uI v o k x) := ⟨rfl, fun i hi => uA_ne _ (fun e => hi (by rw [e]; exact h))⟩
def atQ (u u' : Mem) : Prop := u'.2 = u.2 ∧ (∀ o, ¬ o ∈ [39, 50] → u'.1 o = u.1 o) ∧ ∀ j, ¬ j = 18 → u'.1 39 j = u.1 39 j
theorem atR.q {u u' : Mem} (h : atR u u') : atQ u u' := ⟨h.1, fun o ho => h.2.1 o (fun e => ho (by rw [e]; decide)), h.2.2⟩
theorem atQ.trans {u u1 u2 : Mem} (h : atQ u u1) (g : atQ u1 u2) : atQ u u2 := ⟨g.1.trans h.1, fun o ho => (g.2.1 o ho).trans (h.2.1 o ho), fun j hj => (g.2.2 j hj).trans (h.2.2 j hj)⟩
theorem asI_n {t : Mem} {K m i : Nat} {T : Nat → Int32} (hK : K < 8) (h : rwT t K m T) (hm : m ≤ 160) (hi : m ≤ i) (hi2 : i ≤ 1000) : f_X4_asInt ⟨K, hK⟩ (nI i) t = some (0, t) := by
  unfold f_X4_asInt
  rw [if_neg (nI_nneg (by omega)), show t.1 (oSh ⟨K, hK⟩) 1 = nI m from h.1, if_pos (by rw [nI_le' (by omega) (by omega)]; exact hi)]
def dgB (m : Nat) (T : Nat → Int32) (a i : Nat) : Bool := !decide (sg m T (a + i) < 48) && !decide (57 < sg m T (a + i))
def dvN (m : Nat) (T : Nat → Int32) (a i : Nat) : Nat := min 9 ((sg m T (a + i)).toInt.toNat - 48)
def vlN (m : Nat) (T : Nat → Int32) (a : Nat) : Nat → Nat
  | 0 => 0
  | k + 1 => 10 * vlN m T a k + dvN m T a k
theorem vl_le (m : Nat) (T : Nat → Int32) (a : Nat) : ∀ k, vlN m T a k + 1 ≤ 10 ^ k
  | 0 => Nat.le_refl _
  | k + 1 => by
    have h := vl_le m T a k
    have d : dvN m T a k ≤ 9 := Nat.min_le_left _ _
    unfold vlN
    rw [Nat.pow_succ]
    omega
theorem vl_5 (m : Nat) (T : Nat → Int32) (a : Nat) {k : Nat} (h : k ≤ 5) : vlN m T a k ≤ 99999 := by
  have h1 := vl_le m T a k
  have h2 : 10 ^ k ≤ 10 ^ 5 := Nat.pow_le_pow_right (by decide) h
  omega
theorem dg_lt {m a i : Nat} {T : Nat → Int32} (h : dgB m T a i = true) : a + i < m ∧ T (a + i) = nI (48 + dvN m T a i) ∧ sg m T (a + i) = T (a + i) ∧ ¬ T (a + i) < 48 ∧ ¬ 57 < T (a + i) := by
  unfold dgB at h
  rw [Bool.and_eq_true, Bool.not_eq_true', Bool.not_eq_true', decide_eq_false_iff_not, decide_eq_false_iff_not] at h
  obtain ⟨h1, h2⟩ := h
  have h3 : a + i < m := by
    apply Classical.byContradiction
    intro g
    unfold sg at h1
    rw [if_neg g] at h1
    exact h1 (by decide)
  have h4 : sg m T (a + i) = T (a + i) := if_pos h3
  rw [h4] at h1 h2
  refine ⟨h3, ?_, h4, h1, h2⟩
  unfold dvN
  rw [h4]
  rw [i_lt, show (48 : Int32).toInt = 48 by decide] at h1
  rw [i_lt, show (57 : Int32).toInt = 57 by decide] at h2
  rw [i_eq, nI_toInt (by omega)]
  omega
theorem digC_y {v : Mem} {K m a k : Nat} {T : Nat → Int32} (hK : K < 8) (h : rwT v K m T) (hm2 : m ≤ 160) (ha : a + k ≤ 1000) : f_X3_isDigit ⟨K, hK⟩ (nI (a + k)) v = some (bI (dgB m T a k), v) := by
  unfold f_X3_isDigit
  by_cases e : a + k < m
  · rw [asI_y hK h hm2 e, bnd_s]
    have hs : sg m T (a + k) = T (a + k) := if_pos e
    unfold dgB
    rw [hs]
    by_cases e1 : T (a + k) < 48
    · rw [if_pos e1, bI_0 (by simp [e1])]
    · rw [if_neg e1]
      by_cases e2 : 57 < T (a + k)
      · rw [if_pos e2, bI_0 (by simp [e2])]
      · rw [if_neg e2, bI_1 (by simp [Int32.not_lt.mp e1, Int32.not_lt.mp e2])]
  · rw [asI_n hK h hm2 (by omega) ha, bnd_s, if_pos (by decide), bI_0]
    intro g
    exact e (dg_lt g).1
theorem dloopC {v : Mem} {K m a n : Nat} {T : Nat → Int32} {x2 : Int32} (hn : 8 < n) (hK : K < 8) (h : clX v K m T a) (hm2 : m ≤ 160) (ha : a ≤ 900) : ∃ v', iter (bd_X3_readNumber_57 n ⟨K, hK⟩ x2) n (0, 0, v) = jn_X3_readNumber_108 n ⟨K, hK⟩ x2 (nI (ldN (dgB m T a) 5)) (nI (vlN m T a (ldN (dgB m T a) 5))) v' ∧ clX v' K m T (a + ldN (dgB m T a) 5) ∧ frC v v' ∧ (∀ j, ¬ j = 2 → v'.1 35 j = v.1 35 j) ∧ v'.1 36 = v.1 36 := by
  refine iter_inv (body := bd_X3_readNumber_57 n ⟨K, hK⟩ x2) 5 (fun k s => ∃ v', s = (nI k, nI (vlN m T a k), v') ∧ clX v' K m T (a + k) ∧ frC v v' ∧ (∀ j, ¬ j = 2 → v'.1 35 j = v.1 35 j) ∧ v'.1 36 = v.1 36 ∧ ∀ j, j < k → dgB m T a j = true) (fun r => ∃ v', r = jn_X3_readNumber_108 n ⟨K, hK⟩ x2 (nI (ldN (dgB m T a) 5)) (nI (vlN m T a (ldN (dgB m T a) 5))) v' ∧ clX v' K m T (a + ldN (dgB m T a) 5) ∧ frC v v' ∧ (∀ j, ¬ j = 2 → v'.1 35 j = v.1 35 j) ∧ v'.1 36 = v.1 36) ?_ ?_ n 0 _ (Nat.zero_le _) (by omega) ⟨v, rfl, h, frC.rf v, fun _ _ => rfl, rfl, fun j hj => absurd hj (Nat.not_lt_zero j)⟩
  · intro self k s hk hs
    obtain ⟨v', rfl, hX, hF, h35, h36, hj⟩ := hs
    have hd := digC_y (v := v') (a := a) (k := k) hK hX.1 hm2 (by omega)
    have h5 : ¬ (5 : Int32) ≤ nI k := by rw [show (5 : Int32) = nI 5 from rfl, nI_le' (by omega) (by omega)]; omega
    by_cases e : dgB m T a k = true
    · obtain ⟨g1, g2, g3, g4, g5⟩ := dg_lt e
      refine .inl ⟨(nI (k + 1), nI (vlN m T a (k + 1)), uI v' 35 2 (nI (a + (k + 1)))), ?_, _, rfl, ⟨hX.1.fr (by unfold uI; rw [uA_ne _ (show ¬ 18 + K = 35 by omega)]) rfl, by rw [uI_same, upd_same]⟩, hF.trans (frC.up v' _ (by decide)), fun j hj2 => ?_, ?_, fun j hj2 => ?_⟩
      · unfold bd_X3_readNumber_57
        dsimp only
        rw [if_neg h5, hX.2, hd, bnd_s, bI_1 e, if_neg one_ne, hX.2, asI_y hK hX.1 hm2 g1, bnd_s, hX.2, nI_s, ltm_s, g2, nI_s, show (10 : Int32) = nI 10 from rfl, show (48 : Int32) = nI 48 from rfl, nI_mul, nI_add, nI_sub (by omega)]
        have e1 : vlN m T a k * 10 + (48 + dvN m T a k) - 48 = vlN m T a (k + 1) := by
          show _ = 10 * vlN m T a k + dvN m T a k
          omega
        rw [e1]
        rfl
      · rw [uI_same, upd_ne _ hj2]
        exact h35 j hj2
      · unfold uI
        rw [uA_ne _ (show ¬ 36 = 35 by decide)]; exact h36
      · by_cases e3 : j = k
        · rw [e3]; exact e
        · exact hj j (by omega)
    · have : ldN (dgB m T a) 5 = k := ld_eq (by omega) hj (fun _ => e)
      refine .inr ⟨v', ?_, by rw [this]; exact hX, hF, h35, h36⟩
      unfold bd_X3_readNumber_57
      dsimp only
      rw [if_neg h5, hX.2, hd, bnd_s, bI_0 e, if_pos rfl, this]
  · intro self s hs
    obtain ⟨v', rfl, hX, hF, h35, h36, hj⟩ := hs
    have : ldN (dgB m T a) 5 = 5 := ld_eq (Nat.le_refl _) hj (fun g => absurd g (Nat.lt_irrefl _))
    refine ⟨v', ?_, by rw [this]; exact hX, hF, h35, h36⟩
    unfold bd_X3_readNumber_57
    dsimp only
    rw [if_pos (show (5 : Int32) ≤ nI 5 from le8), this]
theorem dloopM {u : Mem} {K m a n : Nat} {T : Nat → Int32} {x1 x2 x3 : Int32} (hn : 8 < n) (hK : K < 8) (h : mdX u K m T a) (hm2 : m ≤ 160) (ha : a ≤ 900) : ∃ u', iter (bd_X6_number_20 n x1 x2 x3) n (nI a, 0, u) = jn_X6_number_77 n x1 x2 x3 (nI a) (nI (vlN m T a (ldN (dgB m T a) 5))) u' ∧ mdX u' K m T (a + ldN (dgB m T a) 5) ∧ atR u u' := by
  refine iter_inv (body := bd_X6_number_20 n x1 x2 x3) 5 (fun k s => ∃ u', s = (nI a, nI (vlN m T a k), u') ∧ mdX u' K m T (a + k) ∧ atR u u' ∧ ∀ j, j < k → dgB m T a j = true) (fun r => ∃ u', r = jn_X6_number_77 n x1 x2 x3 (nI a) (nI (vlN m T a (ldN (dgB m T a) 5))) u' ∧ mdX u' K m T (a + ldN (dgB m T a) 5) ∧ atR u u') ?_ ?_ n 0 _ (Nat.zero_le _) (by omega) ⟨u, rfl, h, atR.rf u, fun j hj => absurd hj (Nat.not_lt_zero j)⟩
  · intro self k s hk hs
    obtain ⟨u', rfl, hX, hA, hj⟩ := hs
    have h5 : ¬ (5 : Int32) ≤ nI (a + k) - nI a := by rw [nI_sub (by omega), show (5 : Int32) = nI 5 from rfl, nI_le' (by omega) (by omega)]; omega
    have hsi := sign_y hK hX hm2 (by omega)
    have st : bd_X6_number_20 n x1 x2 x3 self (nI a, nI (vlN m T a k), u') = if sg m T (a + k) < 48 then jn_X6_number_77 n x1 x2 x3 (nI a) (nI (vlN m T a k)) u' else if 57 < sg m T (a + k) then jn_X6_number_77 n x1 x2 x3 (nI a) (nI (vlN m T a k)) u' else self (nI a, ((10 * nI (vlN m T a k)) + sg m T (a + k)) - 48, uI u' 39 18 (nI (a + (k + 1)))) := by
      unfold bd_X6_number_20
      dsimp only
      rw [hX.2.2.2, if_neg h5, hsi, bnd_s]
      by_cases e1 : sg m T (a + k) < 48
      · rw [if_pos e1, if_pos e1]
      · rw [if_neg e1, if_neg e1, hsi, bnd_s]
        by_cases e2 : 57 < sg m T (a + k)
        · rw [if_pos e2, if_pos e2]
        · rw [if_neg e2, if_neg e2, hsi, bnd_s, hX.2.2.2, nI_s, ltm_s]
          rfl
    rw [st]
    by_cases e : dgB m T a k = true
    · obtain ⟨g1, g2, g3, g4, g5⟩ := dg_lt e
      rw [g3, if_neg g4, if_neg g5, g2, show (10 : Int32) = nI 10 from rfl, show (48 : Int32) = nI 48 from rfl, nI_mul, nI_add, nI_sub (by omega)]
      have e1 : 10 * vlN m T a k + (48 + dvN m T a k) - 48 = vlN m T a (k + 1) := by
        show _ = 10 * vlN m T a k + dvN m T a k
        omega
      rw [e1]
      refine .inl ⟨_, rfl, _, rfl, hX.at, hA.trans (atR.up u' _), fun j hj2 => ?_⟩
      by_cases e3 : j = k
      · rw [e3]; exact e
      · exact hj j (by omega)
    · have hD : ldN (dgB m T a) 5 = k := ld_eq (by omega) hj (fun _ => e)
      have e2 : sg m T (a + k) < 48 ∨ (¬ sg m T (a + k) < 48 ∧ 57 < sg m T (a + k)) := by
        by_cases g : sg m T (a + k) < 48
        · exact .inl g
        · refine .inr ⟨g, ?_⟩
          apply Classical.byContradiction
          intro g2
          apply e
          unfold dgB
          rw [decide_eq_false g, decide_eq_false g2]
          rfl
      refine .inr ⟨u', ?_, by rw [hD]; exact hX, hA⟩
      rw [hD]
      rcases e2 with g | ⟨g, g2⟩
      · rw [if_pos g]
      · rw [if_neg g, if_pos g2]
  · intro self s hs
    obtain ⟨u', rfl, hX, hA, hj⟩ := hs
    have hD : ldN (dgB m T a) 5 = 5 := ld_eq (Nat.le_refl _) hj (fun g => absurd g (Nat.lt_irrefl _))
    refine ⟨u', ?_, by rw [hD]; exact hX, hA⟩
    unfold bd_X6_number_20
    dsimp only
    rw [hX.2.2.2, nI_sub (by omega), show a + 5 - a = 5 by omega, if_pos (show (5 : Int32) ≤ nI 5 from le8), hD]
theorem win_or (x lo hi : Int32) : f_X6_within x lo hi = some 1 ∨ f_X6_within x lo hi = some 0 := by
  unfold f_X6_within
  by_cases h1 : x < lo
  · rw [if_pos h1]; exact .inr rfl
  · rw [if_neg h1]
    by_cases h2 : hi < x
    · rw [if_pos h2]; exact .inr rfl
    · rw [if_neg h2]; exact .inl rfl
/-- a number, on both sides -/
theorem num_both {v w : Mem} {K m a i n : Nat} {T : Nat → Int32} (hn : 8 < n) (hK : K < 8) (hv : clX v K m T a) (hw : mdX w K m T a) (hm2 : m ≤ 160) (ha : a ≤ m) (hi : i < 3) : (∃ e v' w', e ≤ 1000 ∧ f_X3_readNumber n ⟨K, hK⟩ (nI i) v = some (0, v') ∧ (∀ lo hi, f_X6_number n (nI i) lo hi w = some (0, w')) ∧ frC v v' ∧ v'.1 35 0 = nI e ∧ atQ w w' ∧ w'.1 39 18 = nI e) ∨ (∃ V e v' w', V ≤ 99999 ∧ a < e ∧ e ≤ m ∧ f_X3_readNumber n ⟨K, hK⟩ (nI i) v = some (1, v') ∧ frC v v' ∧ clX v' K m T e ∧ v'.1 35 0 = v.1 35 0 ∧ v'.1 35 3 = nI (a + 1) ∧ v'.1 36 i = nI V ∧ (∀ k, ¬ k = i → v'.1 36 k = v.1 36 k) ∧ atQ w w' ∧ mdX w' K m T e ∧ w'.1 50 i = nI V ∧ (∀ k, ¬ k = i → w'.1 50 k = w.1 50 k) ∧ ∀ lo hi, (f_X6_within (nI V) lo hi = some 1 → f_X6_number n (nI i) lo hi w = some (1, w')) ∧ (f_X6_within (nI V) lo hi = some 0 → f_X6_number n (nI i) lo hi w = some (0, uI w' 39 18 (nI (a + 1))))) := by
  have hsz : v.1 (oSh ⟨K, hK⟩) 1 = nI m := hv.1.1
  have his := is_y 32 hK hw hm2 (by omega)
  by_cases e : sg m T a = 32
  · have ham : a < m := by
      apply Classical.byContradiction
      intro g
      unfold sg at e
      rw [if_neg g] at e
      exact absurd e (by decide)
    have hT : T a = 32 := by
      have : sg m T a = T a := if_pos ham
      rw [← this]; exact e
    rw [if_pos e] at his
    -- behind the blank
    have hv0 : clX (uI (uI v 35 2 (nI (a + 1))) 35 3 (nI (a + 1))) K m T (a + 1) := by
      refine ⟨hv.1.fr (by unfold uI; rw [uA_ne _ (show ¬ 18 + K = 35 by omega), uA_ne _ (show ¬ 18 + K = 35 by omega)]) rfl, ?_⟩
      rw [uI_same, upd_ne _ (by decide), uI_same, upd_same]
    obtain ⟨v', c1, c2, c3, c4, c5⟩ := dloopC (n := n) (x2 := nI i) hn hK hv0 hm2 (by omega)
    have hw0 : mdX (uI w 39 18 (nI (a + 1))) K m T (a + 1) := hw.at
    have hD := ld_spec (dgB m T (a + 1)) 5
    generalize hDd : ldN (dgB m T (a + 1)) 5 = D at *
    have hcl : f_X3_readNumber n ⟨K, hK⟩ (nI i) v = jn_X3_readNumber_108 n ⟨K, hK⟩ (nI i) (nI D) (nI (vlN m T (a + 1) D)) v' := by
      unfold f_X3_readNumber
      rw [hsz, hv.2, if_neg (by rw [nI_le' (by omega) (by omega)]; omega), asI_y hK hv.1 hm2 ham, bnd_s, hT, if_pos rfl, hv.2, nI_s, ltm_s, show (uI v 35 2 (nI (a + 1))).1 35 2 = nI (a + 1) by rw [uI_same, upd_same], ltm_s]
      exact c1
    have hf0 : frC v (uI (uI v 35 2 (nI (a + 1))) 35 3 (nI (a + 1))) := (frC.up v _ (by decide)).trans (frC.up _ _ (by decide))
    have h350 : v'.1 35 0 = v.1 35 0 := by rw [c4 0 (by decide), uI_same, upd_ne _ (by decide), uI_same, upd_ne _ (by decide)]
    have h353 : v'.1 35 3 = nI (a + 1) := by rw [c4 3 (by decide), uI_same, upd_same]
    have h36 : v'.1 36 = v.1 36 := by
      rw [c5]
      unfold uI
      rw [uA_ne _ (show ¬ 36 = 35 by decide), uA_ne _ (show ¬ 36 = 35 by decide)]
    have hml : ∀ lo hi, ∃ w', f_X6_number n (nI i) lo hi w = jn_X6_number_77 n (nI i) lo hi (nI (a + 1)) (nI (vlN m T (a + 1) D)) w' ∧ mdX w' K m T (a + 1 + D) ∧ atR w w' := by
      intro lo hi
      obtain ⟨w', d1, d2, d3⟩ := dloopM (n := n) (x1 := nI i) (x2 := lo) (x3 := hi) hn hK hw0 hm2 (by omega)
      rw [hDd] at d1 d2
      refine ⟨w', ?_, d2, (atR.up w _).trans d3⟩
      unfold f_X6_number
      rw [his, bnd_s, if_pos one_ne, show (uI w 39 18 (nI (a + 1))).1 39 18 = nI (a + 1) from hw0.2.2.2]
      exact d1
    -- the reference's memory doesn't hang on the bounds
    have huni : ∀ w1 w2 : Mem, mdX w1 K m T (a + 1 + D) → atR w w1 → mdX w2 K m T (a + 1 + D) → atR w w2 → w1 = w2 := by
      intro w1 w2 g1 g2 g3 g4
      have h2 : w1.2 = w2.2 := g2.1.trans g4.1.symm
      have h1 : w1.1 = w2.1 := by
        funext o
        by_cases eo : o = 39
        · subst eo
          funext j
          by_cases ej : j = 18
          · rw [ej, g1.2.2.2, g3.2.2.2]
          · rw [g2.2.2 j ej, g4.2.2 j ej]
        · rw [g2.2.1 o eo, g4.2.1 o eo]
      exact Prod.ext h1 h2
    obtain ⟨w', d1, d2, d3⟩ := hml 0 0
    have hml2 : ∀ lo hi, f_X6_number n (nI i) lo hi w = jn_X6_number_77 n (nI i) lo hi (nI (a + 1)) (nI (vlN m T (a + 1) D)) w' := by
      intro lo hi
      obtain ⟨w2, g1, g2, g3⟩ := hml lo hi
      rw [huni w' w2 d2 d3 g2 g3]
      exact g1
    by_cases eD : D = 0
    · left
      refine ⟨a + 1, uI v' 35 0 (nI (a + 1)), w', by omega, ?_, fun lo hi => ?_, (hf0.trans c3).trans (frC.up v' _ (by decide)), by rw [uI_same, upd_same], d3.q, ?_⟩
      · rw [hcl, eD]
        unfold jn_X3_readNumber_108
        rw [if_neg (show ¬ ¬ nI 0 = 0 from z_nn), c2.2, eD, ltm_s]
      · rw [hml2 lo hi]
        unfold jn_X6_number_77
        rw [d2.2.2.2, eD, if_neg (fun g => g rfl)]
      · rw [d2.2.2.2, eD]
    · right
      have hin : a + 1 + D ≤ m := by
        have := (dg_lt (hD.2.1 (D - 1) (by omega))).1
        omega
      have hV := vl_5 m T (a + 1) hD.1
      refine ⟨vlN m T (a + 1) D, a + 1 + D, uI v' 36 i (nI (vlN m T (a + 1) D)), uI w' 50 i (nI (vlN m T (a + 1) D)), hV, by omega, hin, ?_, (hf0.trans c3).trans (frC.up v' _ (by decide)), ⟨c2.1.fr (by unfold uI; rw [uA_ne _ (show ¬ 18 + K = 36 by omega)]) rfl, ?_⟩, ?_, ?_, by rw [uI_same, upd_same], fun k hk => ?_, d3.q.trans ⟨rfl, fun o ho => uA_ne _ (fun e => ho (by rw [e]; decide)), fun j _ => ?_⟩, ⟨d2.1, ?_, ?_, ?_⟩, by rw [uI_same, upd_same], fun k hk => ?_, fun lo hi2 => ⟨fun g => ?_, fun g => ?_⟩⟩
      · rw [hcl]
        unfold jn_X3_readNumber_108
        rw [if_pos (show ¬ nI D = 0 from fun g => eD ((nI_z (by omega)).mp g)), ck_t (inb_nI hi (by decide)), nI_clamp (by omega), ltm_s]
      · unfold uI
        rw [uA_ne _ (show ¬ 35 = 36 by decide)]; exact c2.2
      · unfold uI
        rw [uA_ne _ (show ¬ 35 = 36 by decide)]; exact h350
      · unfold uI
        rw [uA_ne _ (show ¬ 35 = 36 by decide)]; exact h353
      · rw [uI_same, upd_ne _ hk, h36]
      · unfold uI
        rw [uA_ne _ (show ¬ 39 = 50 by decide)]
      · unfold uI
        rw [uA_ne _ (show ¬ 41 = 50 by decide)]; exact d2.2.1
      · unfold uI
        rw [uA_ne _ (show ¬ 39 = 50 by decide)]; exact d2.2.2.1
      · unfold uI
        rw [uA_ne _ (show ¬ 39 = 50 by decide)]; exact d2.2.2.2
      · rw [uI_same, upd_ne _ hk, d3.2.1 50 (by decide)]
      · rw [hml2 lo hi2]
        unfold jn_X6_number_77
        rw [d2.2.2.2, if_pos (nI_ne (by omega) (by omega) (by omega)), ck_t (inb_nI hi (by decide)), nI_clamp (by omega), ltm_s, g, bnp_s, if_pos one_ne, ck_t (by decide)]
      · rw [hml2 lo hi2]
        unfold jn_X6_number_77
        rw [d2.2.2.2, if_pos (nI_ne (by omega) (by omega) (by omega)), ck_t (inb_nI hi (by decide)), nI_clamp (by omega), ltm_s, g, bnp_s, if_neg z_nn, ltm_s, ck_t (by decide)]
  · left
    rw [if_neg e] at his
    refine ⟨a, uI v 35 0 (nI a), w, by omega, ?_, fun lo hi => ?_, frC.up v _ (by decide), by rw [uI_same, upd_same], (atR.rf w).q, hw.2.2.2⟩
    · unfold f_X3_readNumber
      rw [hsz, hv.2]
      by_cases g : a < m
      · have hT : ¬ T a = 32 := by
          intro g2
          have : sg m T a = T a := if_pos g
          exact e (by rw [this]; exact g2)
        rw [if_neg (by rw [nI_le' (by omega) (by omega)]; omega), asI_y hK hv.1 hm2 g, bnd_s, if_neg hT, hv.2, ltm_s]
      · rw [if_pos (by rw [nI_le' (by omega) (by omega)]; omega), ltm_s]
    · unfold f_X6_number
      rw [his, bnd_s, if_neg z_nn]
