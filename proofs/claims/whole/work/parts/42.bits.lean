/-! layer 2: counting, and sets of places as bits -/
def cntN (b : Nat → Bool) : Nat → Nat
  | 0 => 0
  | q + 1 => if b q = true then cntN b q + 1 else cntN b q
theorem cnt_le (b : Nat → Bool) : ∀ c, cntN b c ≤ c
  | 0 => Nat.le_refl _
  | q + 1 => by
    have := cnt_le b q
    unfold cntN
    split <;> omega
theorem cnt_mono {b b' : Nat → Bool} : ∀ c, (∀ i, i < c → b i = true → b' i = true) → cntN b c ≤ cntN b' c
  | 0, _ => Nat.le_refl _
  | q + 1, h => by
    have := cnt_mono q (fun i hi => h i (by omega))
    have h2 := h q (by omega)
    unfold cntN
    by_cases e : b q = true
    · rw [if_pos e, if_pos (h2 e)]; omega
    · rw [if_neg e]
      split <;> omega
theorem cnt_lt {b b' : Nat → Bool} : ∀ c, (∀ i, i < c → b i = true → b' i = true) → (∃ k, k < c ∧ b' k = true ∧ ¬ b k = true) → cntN b c < cntN b' c
  | 0, _, h => by obtain ⟨k, h1, _⟩ := h; omega
  | q + 1, h, ⟨k, h1, h2, h3⟩ => by
    by_cases e : k = q
    · subst e
      have := cnt_mono k (fun i hi => h i (by omega))
      unfold cntN
      rw [if_neg h3, if_pos h2]
      omega
    · have := cnt_lt q (fun i hi => h i (by omega)) ⟨k, by omega, h2, h3⟩
      have h4 := h q (by omega)
      unfold cntN
      by_cases e : b q = true
      · rw [if_pos e, if_pos (h4 e)]; omega
      · rw [if_neg e]
        split <;> omega
theorem cnt_congr {b b' : Nat → Bool} {c : Nat} (h : ∀ i, i < c → b i = b' i) : cntN b c = cntN b' c :=
  Nat.le_antisymm (cnt_mono c (fun i hi g => by rw [← h i hi]; exact g)) (cnt_mono c (fun i hi g => by rw [h i hi]; exact g))
def bsN (b : Nat → Bool) : Nat → Nat
  | 0 => 0
  | q + 1 => if b q = true then bsN b q + 2 ^ q else bsN b q
theorem bsN_lt (b : Nat → Bool) : ∀ c, bsN b c < 2 ^ c
  | 0 => Nat.zero_lt_one
  | q + 1 => by
    have := bsN_lt b q
    unfold bsN
    rw [Nat.pow_succ]
    split <;> omega
theorem p8 {q : Nat} (hq : q < 8) : 2 ^ q ≤ 128 := Nat.pow_le_pow_right (n := 2) (j := 7) (by decide) (by omega)
theorem bsN_256 (b : Nat → Bool) {c : Nat} (hc : c ≤ 8) : bsN b c < 256 := Nat.lt_of_lt_of_le (bsN_lt b c) (Nat.pow_le_pow_right (n := 2) (j := 8) (by decide) hc)
theorem bit_or : ∀ q : Fin 8, ∀ m : Fin 256, m.val < 2 ^ q.val → nI m.val ||| ((1 : Int32) <<< (nI q.val &&& 31)) = nI (m.val + 2 ^ q.val) := by decide +kernel
theorem bs_or {m q : Nat} (hq : q < 8) (hm : m < 2 ^ q) : nI m ||| ((1 : Int32) <<< (nI q &&& 31)) = nI (m + 2 ^ q) := bit_or ⟨q, hq⟩ ⟨m, by have := p8 hq; omega⟩ hm
theorem bit_low : ∀ q : Fin 8, ∀ m : Fin 256, nI m.val &&& (((1 : Int32) <<< (nI q.val &&& 31)) - 1) = nI (m.val % 2 ^ q.val) := by decide +kernel
theorem bs_low {m q : Nat} (hq : q < 8) (hm : m < 256) : nI m &&& (((1 : Int32) <<< (nI q &&& 31)) - 1) = nI (m % 2 ^ q) := bit_low ⟨q, hq⟩ ⟨m, hm⟩
theorem bsN_mod (b : Nat → Bool) (q : Nat) : ∀ k, bsN b (q + k) % 2 ^ q = bsN b q
  | 0 => Nat.mod_eq_of_lt (bsN_lt b q)
  | k + 1 => by
    have h := bsN_mod b q k
    show (if b (q + k) = true then bsN b (q + k) + 2 ^ (q + k) else bsN b (q + k)) % 2 ^ q = bsN b q
    split
    · rw [Nat.pow_add, Nat.add_mul_mod_self_left]; exact h
    · exact h
theorem bsN_0 (b : Nat → Bool) : ∀ q, bsN b q = 0 ↔ ∀ i, i < q → ¬ b i = true
  | 0 => ⟨fun _ i hi => absurd hi (Nat.not_lt_zero i), fun _ => rfl⟩
  | q + 1 => by
    have h := bsN_0 b q
    have h2 : 0 < 2 ^ q := Nat.two_pow_pos q
    unfold bsN
    by_cases e : b q = true
    · rw [if_pos e]
      exact ⟨fun g => by omega, fun g => absurd e (g q (by omega))⟩
    · rw [if_neg e, h]
      refine ⟨fun g i hi => ?_, fun g i hi => g i (by omega)⟩
      by_cases e2 : i = q
      · rw [e2]; exact e
      · exact g i (by omega)
theorem bsN_congr {b b' : Nat → Bool} : ∀ c, (∀ i, i < c → b i = b' i) → bsN b c = bsN b' c
  | 0, _ => rfl
  | q + 1, h => by
    unfold bsN
    rw [h q (by omega), bsN_congr q (fun i hi => h i (by omega))]
/-- one mask without another -/
theorem bsN_bit (b : Nat → Bool) (i : Nat) : ∀ c, (bsN b c).testBit i = (decide (i < c) && b i)
  | 0 => by show (0 : Nat).testBit i = _; simp
  | q + 1 => by
    have h := bsN_bit b i q
    have hl := bsN_lt b q
    unfold bsN
    by_cases e : b q = true
    · rw [if_pos e, Nat.add_comm]
      rcases Nat.lt_trichotomy i q with g | g | g
      · rw [Nat.testBit_two_pow_add_gt g, h, decide_eq_true g, decide_eq_true (show i < q + 1 by omega)]
      · subst g
        rw [Nat.testBit_two_pow_add_eq, Nat.testBit_lt_two_pow hl, decide_eq_true (show i < i + 1 by omega), e]
        rfl
      · have h3 : 2 ^ q + bsN b q < 2 ^ i := Nat.lt_of_lt_of_le (show 2 ^ q + bsN b q < 2 ^ (q + 1) by rw [Nat.pow_succ]; omega) (Nat.pow_le_pow_right (by decide) (by omega))
        rw [Nat.testBit_lt_two_pow h3, decide_eq_false (show ¬ i < q + 1 by omega)]
        rfl
    · rw [if_neg e, h]
      by_cases g : i = q
      · subst g
        rw [decide_eq_false (show ¬ i < i by omega), decide_eq_true (show i < i + 1 by omega)]
        simp [e]
      · rw [show (decide (i < q + 1)) = decide (i < q) from decide_eq_decide.mpr (by omega)]
theorem nI_bit (m i : Nat) : (nI m).toBitVec.getLsbD i = (decide (i < 32) && m.testBit i) := BitVec.getLsbD_ofNat 32 m i
theorem m1_bit : ∀ i : Nat, i < 32 → ((-1 : Int32)).toBitVec.getLsbD i = true := by
  intro i hi
  have : ∀ i : Fin 32, ((-1 : Int32)).toBitVec.getLsbD i.val = true := by decide
  exact this ⟨i, hi⟩
theorem bs_diff (b b' : Nat → Bool) (c : Nat) : nI (bsN b c) &&& (nI (bsN b' c) ^^^ (-1)) = nI (bsN (fun i => b i && !b' i) c) := by
  apply Int32.toBitVec_inj.mp
  apply BitVec.eq_of_getLsbD_eq
  intro i hi
  rw [Int32.toBitVec_and, BitVec.getLsbD_and, Int32.toBitVec_xor, BitVec.getLsbD_xor, m1_bit i hi, nI_bit, nI_bit, nI_bit, bsN_bit, bsN_bit, bsN_bit, decide_eq_true hi]
  cases decide (i < c) <;> cases b i <;> cases b' i <;> rfl
/-! bits counted -/
theorem bit_cnt : ∀ q : Fin 8, ∀ m : Fin 256, m.val < 2 ^ q.val → f_J6_bitCount_0f7a4 (nI (m.val + 2 ^ q.val)) = (f_J6_bitCount_0f7a4 (nI m.val)).map (fun x => x + 1) := by decide +kernel
theorem bs_cnt (b : Nat → Bool) : ∀ c, c ≤ 8 → f_J6_bitCount_0f7a4 (nI (bsN b c)) = some (nI (cntN b c))
  | 0, _ => by show f_J6_bitCount_0f7a4 (nI 0) = some (nI 0); decide +kernel
  | q + 1, hq => by
    have h := bs_cnt b q (by omega)
    unfold bsN cntN
    by_cases e : b q = true
    · have g := bit_cnt ⟨q, by omega⟩ ⟨bsN b q, bsN_256 b (by omega)⟩ (bsN_lt b q)
      rw [if_pos e, if_pos e, g, h]
      show some (nI (cntN b q) + 1) = _
      rw [nI_s]
    · rw [if_neg e, if_neg e, h]
