/-! layer 2: KEEP, the reference -/
theorem has_b {I : Nat → Bool} {q : Nat} (hq : q < 8) : f_X6_has (nI (bsN I 8)) (nI q) = some (bI (I q)) := by
  unfold f_X6_has
  rw [bs_bit hq]
  by_cases e : I q = true
  · rw [if_pos e, if_neg (fun g => g rfl), bI_1 e]
  · rw [if_neg e, if_pos (by decide), bI_0 e]
theorem full_all : ∀ c : Fin 9, bsN (fun x => decide (x < c.val)) 8 = 2 ^ c.val - 1 ∧ ((1 : Int32) <<< (nI c.val &&& 31)) - 1 = nI (2 ^ c.val - 1) ∧ 2 ^ c.val - 1 < 256 := by decide +kernel
theorem ntz_all : ∀ m : Fin 255, ∃ k : Fin 8, f_J6_numberOfTrailingZeros_0f7a4 (nI m.val ^^^ (-1)) = some (nI k.val) ∧ m.val.testBit k.val = false ∧ ∀ j : Fin 8, j.val < k.val → m.val.testBit j.val = true := by decide +kernel
theorem b255 : ∀ q : Fin 8, (255 : Nat).testBit q.val = true := by decide
theorem tb8 {I : Nat → Bool} {q : Nat} (hq : q < 8) : (bsN I 8).testBit q = I q := by
  rw [bsN_bit, decide_eq_true hq, Bool.true_and]
/-- the least road so far -/
def mkP (S : Ld) (I : Nat → Bool) (p q : Nat) (b y : Int32) : Prop := (b = -1 ∧ y = nI 10000 ∧ ∀ i j, i < Sc S → j < Sc S → ln p q i j → I i = true → ¬ I j = true → Sw S i j = 0) ∨ ∃ v w, b = nI v ∧ y = nI w ∧ v < Sc S ∧ ¬ I v = true ∧ ¬ w = 0 ∧ w ≤ 999 ∧ (∃ i, i < Sc S ∧ I i = true ∧ Sw S i v = w) ∧ ∀ i j, i < Sc S → j < Sc S → ln p q i j → I i = true → ¬ I j = true → ¬ Sw S i j = 0 → w ≤ Sw S i j
theorem mkP.step {S : Ld} {I : Nat → Bool} {p q : Nat} {b y : Int32} (h : mkP S I p q b y) (hno : I p = true → ¬ I q = true → ¬ Sw S p q = 0 → ∃ w, y = nI w ∧ w ≤ 999 ∧ ¬ b = -1 ∧ w ≤ Sw S p q) : mkP S I p (q + 1) b y := by
  rcases h with ⟨h1, h2, h3⟩ | ⟨v, w, h1, h2, h3, h4, h5, h6, h7, h8⟩
  · refine .inl ⟨h1, h2, fun i j hi hj hl a b' => ?_⟩
    by_cases e : i = p ∧ j = q
    · rw [e.1, e.2]
      apply Classical.byContradiction
      intro z
      obtain ⟨_, _, _, g, _⟩ := hno (by rw [← e.1]; exact a) (by rw [← e.2]; exact b') z
      exact g h1
    · exact h3 i j hi hj (by unfold ln at hl ⊢; omega) a b'
  · refine .inr ⟨v, w, h1, h2, h3, h4, h5, h6, h7, fun i j hi hj hl a b' z => ?_⟩
    by_cases e : i = p ∧ j = q
    · rw [e.1, e.2] at z ⊢
      obtain ⟨w', g1, g2, _, g3⟩ := hno (by rw [← e.1]; exact a) (by rw [← e.2]; exact b') z
      have : w = w' := (nI_eq (by omega) (by omega)).mp (h2.symm.trans g1)
      omega
    · exact h8 i j hi hj (by unfold ln at hl ⊢; omega) a b' z
theorem mkP.row {S : Ld} {I : Nat → Bool} {p : Nat} {b y : Int32} (h : mkP S I p (Sc S) b y) : mkP S I (p + 1) 0 b y := by
  rcases h with ⟨h1, h2, h3⟩ | ⟨v, w, h1, h2, h3, h4, h5, h6, h7, h8⟩
  · exact .inl ⟨h1, h2, fun i j hi hj hl => h3 i j hi hj (by unfold ln at hl ⊢; omega)⟩
  · exact .inr ⟨v, w, h1, h2, h3, h4, h5, h6, h7, fun i j hi hj hl => h8 i j hi hj (by unfold ln at hl ⊢; omega)⟩
theorem mrow_y {u : Mem} {S : Ld} {I : Nat → Bool} {p n : Nat} {s b y : Int32} {s4 : Int32 × Int32 × Mem → Option (Int32 × Mem)} (hn : 8 < n) (hm : isMd u S) (ok : okLd S) (hp : p < Sc S) (h : mkP S I p 0 b y) (self26 : Int32 × Int32 × Int32 × Int32 × Int32 × Mem → Option (Int32 × Mem)) : ∃ b' y', iter (bd_X6_keeps_38 n s4 self26) n (s, nI (bsN I 8), b, y, nI p, 0, u) = self26 (s, nI (bsN I 8), b', y', nI (p + 1), u) ∧ mkP S I (p + 1) 0 b' y' := by
  have hc := ok.1
  refine iter_inv (body := bd_X6_keeps_38 n s4 self26) (Sc S) (fun q r => ∃ b y, r = (s, nI (bsN I 8), b, y, nI p, nI q, u) ∧ mkP S I p q b y) (fun r => ∃ b' y', r = self26 (s, nI (bsN I 8), b', y', nI (p + 1), u) ∧ mkP S I (p + 1) 0 b' y') ?_ ?_ n 0 _ (Nat.zero_le _) (by omega) ⟨b, y, rfl, h⟩
  · intro self q r hq hr
    obtain ⟨b, y, rfl, hP⟩ := hr
    have hw := ok.2.2.2.2.2.1 p q
    have st : bd_X6_keeps_38 n s4 self26 self (s, nI (bsN I 8), b, y, nI p, nI q, u) = if bI (I p) = 0 then self (s, nI (bsN I 8), b, y, nI p, nI (q + 1), u) else if ¬ bI (I q) = 0 then self (s, nI (bsN I 8), b, y, nI p, nI (q + 1), u) else if nI (Sw S p q) = 0 then self (s, nI (bsN I 8), b, y, nI p, nI (q + 1), u) else if nI (Sw S p q) < y then self (s, nI (bsN I 8), nI q, nI (Sw S p q), nI p, nI (q + 1), u) else self (s, nI (bsN I 8), b, y, nI p, nI (q + 1), u) := by
      unfold bd_X6_keeps_38
      dsimp only
      rw [hm.1, if_neg (nle8 hq hc), has_b (by omega), bnp_s, has_b (by omega), bnp_s, ck_t (inb8' (by omega) (by omega)), ck_t (inb8' (by omega) (by omega)), ck_t (inb8' (by omega) (by omega)), clamp8' (by omega) (by omega), hm.2.2.2.2.2.2 p q (by omega) (by omega), lti_s, nI_s]
    rw [st]
    left
    by_cases e1 : I p = true
    · rw [bI_1 e1, if_neg one_ne]
      by_cases e2 : I q = true
      · rw [bI_1 e2, if_pos one_ne]
        exact ⟨_, rfl, b, y, rfl, hP.step (fun _ g => absurd e2 g)⟩
      rw [bI_0 e2, if_neg z_nn]
      by_cases e3 : Sw S p q = 0
      · rw [if_pos (by rw [e3]; rfl)]
        exact ⟨_, rfl, b, y, rfl, hP.step (fun _ _ g => absurd e3 g)⟩
      rw [if_neg (fun g => e3 ((nI_z (by omega)).mp g))]
      rcases hP with ⟨h1, h2, h3⟩ | ⟨v, w, h1, h2, h3, h4, h5, h6, h7, h8⟩
      · rw [h2, if_pos (by rw [nI_lt' (by omega) (by omega)]; omega)]
        refine ⟨_, rfl, nI q, nI (Sw S p q), rfl, .inr ⟨q, Sw S p q, rfl, rfl, hq, e2, e3, hw, ⟨p, hp, e1, rfl⟩, fun i j hi hj hl a b' z => ?_⟩⟩
        by_cases e : i = p ∧ j = q
        · rw [e.1, e.2]; exact Nat.le_refl _
        · exact absurd (h3 i j hi hj (by unfold ln at hl ⊢; omega) a b') z
      · by_cases e4 : Sw S p q < w
        · rw [h2, if_pos (by rw [nI_lt' (by omega) (by omega)]; exact e4)]
          refine ⟨_, rfl, nI q, nI (Sw S p q), rfl, .inr ⟨q, Sw S p q, rfl, rfl, hq, e2, e3, hw, ⟨p, hp, e1, rfl⟩, fun i j hi hj hl a b' z => ?_⟩⟩
          by_cases e : i = p ∧ j = q
          · rw [e.1, e.2]; exact Nat.le_refl _
          · have := h8 i j hi hj (by unfold ln at hl ⊢; omega) a b' z
            omega
        · rw [h2, if_neg (by rw [nI_lt' (by omega) (by omega)]; exact e4)]
          refine ⟨_, rfl, b, _, rfl, mkP.step (.inr ⟨v, w, h1, rfl, h3, h4, h5, h6, h7, h8⟩) (fun _ _ _ => ⟨w, rfl, h6, by rw [h1]; exact nI_nm (by omega), by omega⟩)⟩
    · rw [bI_0 e1, if_pos rfl]
      exact ⟨_, rfl, b, y, rfl, hP.step (fun g => absurd g e1)⟩
  · intro self r hr
    obtain ⟨b, y, rfl, hP⟩ := hr
    refine ⟨b, y, ?_, hP.row⟩
    unfold bd_X6_keeps_38
    dsimp only
    rw [hm.1, if_pos le8, nI_s]
theorem mbest_y {u : Mem} {S : Ld} {I : Nat → Bool} {n s : Nat} (hn : 8 < n) (hm : isMd u S) (ok : okLd S) (hfree : cntN I (Sc S) < Sc S) (self4 : Int32 × Int32 × Mem → Option (Int32 × Mem)) : ∃ v x, tnP S I v x ∧ x ≤ 999 ∧ iter (bd_X6_keeps_26 n self4) n (nI s, nI (bsN I 8), -1, 10000, 0, u) = self4 (nI (s + x), nI (bsN (addI I v) 8), u) := by
  have hc := ok.1
  refine iter_inv (body := bd_X6_keeps_26 n self4) (Sc S) (fun p r => ∃ b y, r = (nI s, nI (bsN I 8), b, y, nI p, u) ∧ mkP S I p 0 b y) (fun r => ∃ v x, tnP S I v x ∧ x ≤ 999 ∧ r = self4 (nI (s + x), nI (bsN (addI I v) 8), u)) ?_ ?_ n 0 _ (Nat.zero_le _) (by omega) ⟨-1, 10000, rfl, .inl ⟨rfl, rfl, fun i j hi hj hl => by unfold ln at hl; omega⟩⟩
  · intro self p r hp hr
    obtain ⟨b, y, rfl, hP⟩ := hr
    obtain ⟨b', y', g1, g2⟩ := mrow_y (n := n) (s := nI s) (s4 := self4) hn hm ok hp hP self
    refine .inl ⟨_, ?_, b', y', rfl, g2⟩
    unfold bd_X6_keeps_26
    dsimp only
    rw [hm.1, if_neg (nle8 hp hc)]
    exact g1
  · intro self r hr
    obtain ⟨b, y, rfl, hP⟩ := hr
    rcases hP with ⟨h1, h2, h3⟩ | ⟨v, w, h1, h2, h3, h4, h5, h6, h7, h8⟩
    · obtain ⟨i, i1, i2⟩ := cnt_free hfree
      have hm256 := bsN_256 I (c := 8) (by omega)
      have hm255 : bsN I 8 < 255 := by
        apply Classical.byContradiction
        intro g
        have e : bsN I 8 = 255 := by omega
        have e2 := tb8 (I := I) (q := i) (by omega)
        rw [e, b255 ⟨i, by omega⟩] at e2
        exact i2 e2.symm
      obtain ⟨k, k1, k2, k3⟩ := ntz_all ⟨bsN I 8, hm255⟩
      have k2' : ¬ I k.val = true := by
        have : (bsN I 8).testBit k.val = false := k2
        rw [tb8 k.isLt] at this
        rw [this]
        decide
      have hk : k.val < Sc S := by
        apply Classical.byContradiction
        intro g
        have : (bsN I 8).testBit i = true := k3 ⟨i, by omega⟩ (show i < k.val by omega)
        rw [tb8 (by omega)] at this
        exact i2 this
      refine ⟨k.val, 0, ⟨hk, k2', .inl ⟨rfl, fun p q hp hq a b' => h3 p q hp hq (by unfold ln; omega) a b'⟩⟩, by omega, ?_⟩
      unfold bd_X6_keeps_26
      dsimp only
      have k1' : f_J6_numberOfTrailingZeros_0f7a4 (nI (bsN I 8) ^^^ (-1)) = some (nI k.val) := k1
      rw [hm.1, if_pos le8, h1, if_neg (fun g => g rfl), k1', bnp_s, bs_set k.isLt k2', lti_s, Nat.add_zero]
    · refine ⟨v, w, ⟨h3, h4, .inr ⟨h5, h7, fun p q hp hq a b' z => h8 p q hp hq (by unfold ln; omega) a b' z⟩⟩, h6, ?_⟩
      unfold bd_X6_keeps_26
      dsimp only
      rw [hm.1, if_pos le8, h1, if_pos (nI_nm (by omega)), bs_set (by omega) h4, lti_s, h2, nI_add]
theorem keep_model {u : Mem} {S : Ld} {n : Nat} (hn : 8 < n) (hm : isMd u S) (ok : okLd S) : ∃ s I, f_X6_keeps n u = some (nI s, u) ∧ kpI S I s ∧ ∀ v, v < Sc S → I v = true := by
  have hc := ok.1
  have hfl := full_all ⟨Sc S, by omega⟩
  refine iter_inv (body := bd_X6_keeps_4 n) (Sc S) (fun i r => ∃ s I, r = (nI s, nI (bsN I 8), u) ∧ kpI S I s ∧ cntN I (Sc S) = i ∧ ∀ x, I x = true → x < Sc S) (fun r => ∃ s I, r = some (nI s, u) ∧ kpI S I s ∧ ∀ v, v < Sc S → I v = true) ?_ ?_ n 0 _ (Nat.zero_le _) (by omega) ⟨0, fun _ => false, rfl, kp_0 S, ?_, fun x g => by cases g⟩
  · intro self i r hi hr
    obtain ⟨s, I, rfl, hk, hcn, hin⟩ := hr
    obtain ⟨v, x, h1, h2, h3⟩ := mbest_y (n := n) (s := s) (I := I) hn hm ok (by omega) self
    refine .inl ⟨_, ?_, s + x, addI I v, rfl, kp_turn ok.w h1 h2 hk, by rw [cnt_add h1.1 h1.2.1, hcn], fun y hy => ?_⟩
    · have hne : ¬ nI (bsN I 8) = ((1 : Int32) <<< (nI (Sc S) &&& 31)) - 1 := by
        intro g
        rw [show ((1 : Int32) <<< (nI (Sc S) &&& 31)) - 1 = nI (2 ^ Sc S - 1) from hfl.2.1] at g
        have hm256 := bsN_256 I (c := 8) (by omega)
        have hlt : 2 ^ Sc S - 1 < 256 := hfl.2.2
        have e := (nI_eq (by omega) (by omega)).mp g
        obtain ⟨j, j1, j2⟩ := cnt_free (I := I) (c := Sc S) (by omega)
        have e1 : bsN (fun x => decide (x < Sc S)) 8 = 2 ^ Sc S - 1 := hfl.1
        have e2 := tb8 (I := I) (q := j) (by omega)
        rw [e, ← e1, tb8 (by omega)] at e2
        exact j2 (by rw [← e2]; exact decide_eq_true j1)
      unfold bd_X6_keeps_4
      dsimp only
      rw [hm.1, if_neg hne]
      exact h3
    · rcases addI_iff.mp hy with g | g
      · exact hin y g
      · rw [g]; exact h1.1
  · intro self r hr
    obtain ⟨s, I, rfl, hk, hcn, hin⟩ := hr
    have hall := cnt_full (Sc S) hcn
    refine ⟨s, I, ?_, hk, hall⟩
    have e : bsN I 8 = 2 ^ Sc S - 1 := by
      rw [← show bsN (fun x => decide (x < Sc S)) 8 = 2 ^ Sc S - 1 from hfl.1]
      refine bsN_congr 8 (fun x _ => bool_eq ?_)
      rw [decide_eq_true_eq]
      exact ⟨hin x, hall x⟩
    unfold bd_X6_keeps_4
    dsimp only
    rw [hm.1, show ((1 : Int32) <<< (nI (Sc S) &&& 31)) - 1 = nI (2 ^ Sc S - 1) from hfl.2.1, e, if_pos rfl]
  · have z : ∀ c, cntN (fun _ => false) c = 0 := by
      intro c
      induction c with
      | zero => rfl
      | succ c ih => show (if false = true then _ else cntN (fun _ => false) c) = 0; rw [if_neg (by decide), ih]
    exact z _
