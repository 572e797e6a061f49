/-! layer 2: map, letters and words -/
def sg (m : Nat) (T : Nat → Int32) (i : Nat) : Int32 := if i < m then T i else -1
def mdX (w : Mem) (K m : Nat) (T : Nat → Int32) (a : Nat) : Prop := rwU w K T ∧ w.1 41 K = nI m ∧ w.1 39 17 = nI K ∧ w.1 39 18 = nI a
def clX (v : Mem) (K m : Nat) (T : Nat → Int32) (a : Nat) : Prop := rwT v K m T ∧ v.1 35 2 = nI a
def atR (u u' : Mem) : Prop := u'.2 = u.2 ∧ (∀ o, ¬ o = 39 → u'.1 o = u.1 o) ∧ ∀ j, ¬ j = 18 → u'.1 39 j = u.1 39 j
theorem atR.rf (u : Mem) : atR u u := ⟨rfl, fun _ _ => rfl, fun _ _ => rfl⟩
theorem atR.trans {u u1 u2 : Mem} (h : atR u u1) (g : atR u1 u2) : atR u u2 := ⟨g.1.trans h.1, fun o ho => (g.2.1 o ho).trans (h.2.1 o ho), fun j hj => (g.2.2 j hj).trans (h.2.2 j hj)⟩
theorem atR.up (u : Mem) (x : Int32) : atR u (uI u 39 18 x) := ⟨rfl, fun _ ho => uA_ne _ ho, fun _ hj => m39 hj⟩
theorem mdX.at {w : Mem} {K m a b : Nat} {T : Nat → Int32} (h : mdX w K m T a) : mdX (uI w 39 18 (nI b)) K m T b := by
  obtain ⟨h1, h2, h3, h4⟩ := h
  refine ⟨h1, ?_, ?_, ?_⟩
  · unfold uI
    rw [uA_ne _ (show ¬ 41 = 39 by decide)]; exact h2
  · rw [m39 (by decide)]; exact h3
  · rw [uI_same, upd_same]
theorem sign_y {w : Mem} {K m a : Nat} {T : Nat → Int32} (hK : K < 8) (h : mdX w K m T a) (hm2 : m ≤ 160) (ha : a ≤ 1000) : f_X6_sign w = some (sg m T a, w) := by
  obtain ⟨h1, h2, h3, h4⟩ := h
  unfold f_X6_sign
  rw [h3, ck_t (inb_nI hK (by decide)), nI_clamp (by omega), h2, h4]
  unfold sg
  by_cases e : a < m
  · rw [if_neg (by rw [nI_le' (by omega) (by omega)]; omega), if_pos e, ix160, ck_t (inb_nI (by omega) (by decide)), nI_clamp (by omega), h1 a (by omega)]
  · rw [if_pos (by rw [nI_le' (by omega) (by omega)]; omega), if_neg e]
theorem is_y {w : Mem} {K m a : Nat} {T : Nat → Int32} (c : Int32) (hK : K < 8) (h : mdX w K m T a) (hm2 : m ≤ 160) (ha : a ≤ 1000) : f_X6_is c w = if sg m T a = c then some (1, uI w 39 18 (nI (a + 1))) else some (0, w) := by
  unfold f_X6_is
  rw [sign_y hK h hm2 ha, bnd_s, h.2.2.2, nI_s, ltm_s]
theorem wd_len : ∀ w : Fin 9, f_J0_length_8abf5 w = some (nI (txL.getD w.val 0)) ∧ txL.getD w.val 0 ≤ 5 := by decide +kernel
theorem wd_ch : ∀ w : Fin 9, ∀ i : Fin 5, i.val < txL.getD w.val 0 → f_J0_charAt_5068e w (nI i.val) = some (txC w.val i.val) ∧ ¬ txC w.val i.val = -1 := by decide +kernel
/-- how many lead -/
def ldN (f : Nat → Bool) : Nat → Nat
  | 0 => 0
  | k + 1 => if ldN f k = k ∧ f k = true then k + 1 else ldN f k
theorem ld_eq {f : Nat → Bool} : ∀ {k r : Nat}, r ≤ k → (∀ i, i < r → f i = true) → (r < k → ¬ f r = true) → ldN f k = r
  | 0, r, h1, _, _ => by
    have : r = 0 := by omega
    rw [this]
    rfl
  | k + 1, r, h1, h2, h3 => by
    unfold ldN
    by_cases e : r = k + 1
    · rw [ld_eq (k := k) (r := k) (Nat.le_refl _) (fun i hi => h2 i (by omega)) (fun h => absurd h (Nat.lt_irrefl _)), if_pos ⟨rfl, h2 k (by omega)⟩, e]
    · rw [ld_eq (k := k) (r := r) (by omega) h2 (fun h => h3 (by omega))]
      by_cases e2 : r = k
      · rw [if_neg (fun g => h3 (by omega) (by rw [e2]; exact g.2))]
      · rw [if_neg (fun g => e2 g.1)]
theorem ld_spec (f : Nat → Bool) : ∀ k, ldN f k ≤ k ∧ (∀ i, i < ldN f k → f i = true) ∧ (ldN f k < k → ¬ f (ldN f k) = true)
  | 0 => ⟨Nat.le_refl _, fun i hi => absurd hi (Nat.not_lt_zero i), fun h => absurd h (Nat.not_lt_zero _)⟩
  | k + 1 => by
    obtain ⟨h1, h2, h3⟩ := ld_spec f k
    unfold ldN
    by_cases e : ldN f k = k ∧ f k = true
    · rw [if_pos e]
      refine ⟨Nat.le_refl _, fun i hi => ?_, fun h => by omega⟩
      by_cases e2 : i = k
      · rw [e2]; exact e.2
      · exact h2 i (by omega)
    · rw [if_neg e]
      refine ⟨by omega, h2, fun h => ?_⟩
      by_cases e2 : ldN f k = k
      · rw [e2]
        exact fun g => e ⟨e2, g⟩
      · exact h3 (by omega)
def mtB (m : Nat) (T : Nat → Int32) (w a i : Nat) : Bool := decide (sg m T (a + i) = txC w i)
def mtN (m : Nat) (T : Nat → Int32) (w a : Nat) : Nat := ldN (mtB m T w a) (txL.getD w 0)
theorem mt_le (m : Nat) (T : Nat → Int32) (w a : Nat) : mtN m T w a ≤ txL.getD w 0 := (ld_spec _ _).1
/-- what matches lies in the text -/
theorem mt_in {m a : Nat} {T : Nat → Int32} (w : Fin 9) : ∀ i, i < mtN m T w.val a → a + i < m := by
  intro i hi
  have h1 := (ld_spec (mtB m T w.val a) (txL.getD w.val 0)).2.1 i hi
  have h2 := mt_le m T w.val a
  have h3 := (wd_len w).2
  have h4 := (wd_ch w ⟨i, by omega⟩ (show i < _ by omega)).2
  apply Classical.byContradiction
  intro g
  unfold mtB sg at h1
  rw [if_neg g] at h1
  exact h4 (of_decide_eq_true h1).symm
theorem same_y {v : Mem} {K m a n : Nat} {T : Nat → Int32} (w : Fin 9) (hn : 8 < n) (hK : K < 8) (h : clX v K m T a) (hm2 : m ≤ 160) (ha : a ≤ 1000) : f_X3_sameLetters n ⟨K, hK⟩ w v = some (nI (mtN m T w.val a), v) := by
  have hl := wd_len w
  refine iter_inv (body := bd_X3_sameLetters_2 n ⟨K, hK⟩ w) (txL.getD w.val 0) (fun i s => s = (nI i, v) ∧ ∀ j, j < i → mtB m T w.val a j = true) (fun r => r = some (nI (mtN m T w.val a), v)) ?_ ?_ n 0 _ (Nat.zero_le _) (by omega) ⟨rfl, fun j hj => absurd hj (Nat.not_lt_zero j)⟩
  · intro self i s hi hs
    obtain ⟨rfl, hj⟩ := hs
    have hc := wd_ch w ⟨i, by omega⟩ hi
    have stop : ¬ mtB m T w.val a i = true → mtN m T w.val a = i := fun g => ld_eq (by omega) hj (fun _ => g)
    have st : bd_X3_sameLetters_2 n ⟨K, hK⟩ w self (nI i, v) = if nI m ≤ nI (a + i) then some (nI i, v) else bnd (f_X4_asInt ⟨K, hK⟩ (nI (a + i)) v) fun r4 t5 => if ¬ r4 = txC w.val i then some (nI i, t5) else self (nI (i + 1), t5) := by
      unfold bd_X3_sameLetters_2
      dsimp only
      rw [hl.1, bnp_s, if_neg (show ¬ nI (txL.getD w.val 0) ≤ nI i by rw [nI_le' (by omega) (by omega)]; omega), show v.1 (oSh ⟨K, hK⟩) 1 = nI m from h.1.1, h.2, nI_add, show f_J0_charAt_5068e w (nI i) = some (txC w.val i) from hc.1, nI_s]
      rfl
    rw [st]
    by_cases e : a + i < m
    · rw [if_neg (by rw [nI_le' (by omega) (by omega)]; omega), asI_y hK h.1 hm2 e, bnd_s]
      by_cases e2 : T (a + i) = txC w.val i
      · rw [if_neg (fun g => g e2)]
        refine .inl ⟨_, rfl, rfl, fun j hj2 => ?_⟩
        by_cases e3 : j = i
        · rw [e3]
          unfold mtB sg
          rw [if_pos e]
          exact decide_eq_true e2
        · exact hj j (by omega)
      · rw [if_pos e2, stop]
        · exact .inr rfl
        · unfold mtB sg
          rw [if_pos e]
          simp [e2]
    · rw [if_pos (by rw [nI_le' (by omega) (by omega)]; omega), stop]
      · exact .inr rfl
      · unfold mtB sg
        rw [if_neg e]
        intro g
        exact hc.2 (of_decide_eq_true g).symm
  · intro self s hs
    obtain ⟨rfl, hj⟩ := hs
    have : mtN m T w.val a = txL.getD w.val 0 := ld_eq (Nat.le_refl _) hj (fun h => absurd h (Nat.lt_irrefl _))
    unfold bd_X3_sameLetters_2
    dsimp only
    rw [hl.1, bnp_s, if_pos le8, this]
theorem word_y {u : Mem} {K m a n : Nat} {T : Nat → Int32} (w : Fin 9) (hn : 8 < n) (hK : K < 8) (h : mdX u K m T a) (hm2 : m ≤ 160) (ha : a ≤ 990) : ∃ u', f_X6_word n w u = some (bI (decide (mtN m T w.val a = txL.getD w.val 0)), u') ∧ mdX u' K m T (a + mtN m T w.val a) ∧ atR u u' := by
  have hl := wd_len w
  refine iter_inv (body := bd_X6_word_2 n w) (txL.getD w.val 0) (fun i s => ∃ u', s = (nI i, u') ∧ mdX u' K m T (a + i) ∧ atR u u' ∧ ∀ j, j < i → mtB m T w.val a j = true) (fun r => ∃ u', r = some (bI (decide (mtN m T w.val a = txL.getD w.val 0)), u') ∧ mdX u' K m T (a + mtN m T w.val a) ∧ atR u u') ?_ ?_ n 0 _ (Nat.zero_le _) (by omega) ⟨u, rfl, h, atR.rf u, fun j hj => absurd hj (Nat.not_lt_zero j)⟩
  · intro self i s hi hs
    obtain ⟨u', rfl, hX, hA, hj⟩ := hs
    have hc := wd_ch w ⟨i, by omega⟩ hi
    have st : bd_X6_word_2 n w self (nI i, u') = bnd (if sg m T (a + i) = txC w.val i then some ((1 : Int32), uI u' 39 18 (nI (a + i + 1))) else some (0, u')) fun r4 t5 => if ¬ r4 = 0 then self (nI (i + 1), t5) else some (0, t5) := by
      unfold bd_X6_word_2
      dsimp only
      rw [hl.1, bnp_s, if_neg (show ¬ nI (txL.getD w.val 0) ≤ nI i by rw [nI_le' (by omega) (by omega)]; omega), show f_J0_charAt_5068e w (nI i) = some (txC w.val i) from hc.1, bnp_s, is_y _ hK hX hm2 (by omega), nI_s]
    rw [st]
    by_cases e : sg m T (a + i) = txC w.val i
    · rw [if_pos e, bnd_s, if_pos one_ne]
      refine .inl ⟨_, rfl, _, rfl, hX.at, hA.trans (atR.up u' _), fun j hj2 => ?_⟩
      by_cases e3 : j = i
      · rw [e3]
        exact decide_eq_true e
      · exact hj j (by omega)
    · rw [if_neg e, bnd_s, if_neg z_nn]
      have : mtN m T w.val a = i := ld_eq (by omega) hj (fun _ g => e (of_decide_eq_true g))
      refine .inr ⟨u', ?_, by rw [this]; exact hX, hA⟩
      rw [this, bI_0]
      simp only [decide_eq_true_eq]
      omega
  · intro self s hs
    obtain ⟨u', rfl, hX, hA, hj⟩ := hs
    have : mtN m T w.val a = txL.getD w.val 0 := ld_eq (Nat.le_refl _) hj (fun h => absurd h (Nat.lt_irrefl _))
    refine ⟨u', ?_, by rw [this]; exact hX, hA⟩
    unfold bd_X6_word_2
    dsimp only
    rw [hl.1, bnp_s, if_pos le8, this, bI_1 (decide_eq_true rfl)]
theorem wd_of : ∀ w : Fin 7, f_X3_wordOf (nI w.val) = some (⟨w.val, by omega⟩ : Fin 9) := by decide +kernel
theorem rword_y {v : Mem} {K m a n : Nat} {T : Nat → Int32} (hn : 8 < n) (hK : K < 8) (h : clX v K m T a) (hm2 : m ≤ 160) (ha : a ≤ 990) : (∃ w, w < 7 ∧ mtN m T w a = txL.getD w 0 ∧ f_X3_readWord n ⟨K, hK⟩ v = some (nI w, uI v 35 2 (nI (a + txL.getD w 0)))) ∨ ((∀ w, w < 7 → ¬ mtN m T w a = txL.getD w 0) ∧ f_X3_readWord n ⟨K, hK⟩ v = some (-1, uI v 35 0 (nI (a + mxN (fun w => mtN m T w a) 7)))) := by
  refine iter_inv (body := bd_X3_readWord_4 n ⟨K, hK⟩) 7 (fun w s => s = (nI (mxN (fun w => mtN m T w a) w), nI w, v) ∧ mxN (fun w => mtN m T w a) w ≤ 5 ∧ ∀ w', w' < w → ¬ mtN m T w' a = txL.getD w' 0) (fun r => (∃ w, w < 7 ∧ mtN m T w a = txL.getD w 0 ∧ r = some (nI w, uI v 35 2 (nI (a + txL.getD w 0)))) ∨ ((∀ w, w < 7 → ¬ mtN m T w a = txL.getD w 0) ∧ r = some (-1, uI v 35 0 (nI (a + mxN (fun w => mtN m T w a) 7))))) ?_ ?_ n 0 _ (Nat.zero_le _) (by omega) ⟨rfl, by show 0 ≤ 5; omega, fun w hw => absurd hw (Nat.not_lt_zero w)⟩
  · intro self w s hw hs
    obtain ⟨rfl, hx, hw'⟩ := hs
    have hl := wd_len ⟨w, by omega⟩
    have hle := mt_le m T w a
    have hl2 : txL.getD w 0 ≤ 5 := hl.2
    have hl1 : f_J0_length_8abf5 (⟨w, by omega⟩ : Fin 9) = some (nI (txL.getD w 0)) := hl.1
    have hso : f_X3_sameLetters n ⟨K, hK⟩ (⟨w, by omega⟩ : Fin 9) v = some (nI (mtN m T w a), v) := same_y (n := n) (⟨w, by omega⟩ : Fin 9) hn hK h hm2 (by omega)
    have hwo : f_X3_wordOf (nI w) = some (⟨w, by omega⟩ : Fin 9) := wd_of ⟨w, hw⟩
    have st : bd_X3_readWord_4 n ⟨K, hK⟩ self (nI (mxN (fun w => mtN m T w a) w), nI w, v) = if ¬ nI (mtN m T w a) = nI (txL.getD w 0) then self (nI (mxN (fun w => mtN m T w a) (w + 1)), nI (w + 1), v) else some (nI w, uI v 35 2 (nI (a + mtN m T w a))) := by
      unfold bd_X3_readWord_4
      dsimp only
      rw [if_neg (show ¬ (7 : Int32) ≤ nI w by rw [show (7 : Int32) = nI 7 from rfl, nI_le' (by omega) (by omega)]; omega), hwo, bnp_s, hso, bnd_s, hl1, bnp_s, cost_max (by omega) (by omega), bnp_s, h.2, nI_add, ltm_s, nI_s]
      rfl
    rw [st]
    by_cases e : mtN m T w a = txL.getD w 0
    · rw [if_neg (fun g => g (by rw [e])), e]
      exact .inr (.inl ⟨w, hw, e, rfl⟩)
    · rw [if_pos (nI_ne (by omega) (by omega) e)]
      refine .inl ⟨_, rfl, rfl, ?_, fun w' hw2 => ?_⟩
      · show max (mxN (fun w => mtN m T w a) w) (mtN m T w a) ≤ 5
        omega
      · by_cases e2 : w' = w
        · rw [e2]; exact e
        · exact hw' w' (by omega)
  · intro self s hs
    obtain ⟨rfl, hx, hw'⟩ := hs
    refine .inr ⟨hw', ?_⟩
    unfold bd_X3_readWord_4
    dsimp only
    rw [if_pos (show (7 : Int32) ≤ nI 7 from le8), h.2, nI_add, ltm_s]
