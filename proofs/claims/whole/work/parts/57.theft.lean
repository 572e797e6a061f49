/-! layer 2: theft -/
def soP (c : Nat) (T : Nat → Int32) (D : Nat → Nat → Nat) : Prop := ∀ i j, i < j → j < c → T (prN c i j) = tellN (D i j)
theorem tell_eq {a b : Nat} (ha : a < 10000) (h : tellN a = tellN b) : b < 10000 ∧ a = b := by
  unfold tellN at h
  rw [if_pos ha] at h
  by_cases e : b < 10000
  · rw [if_pos e] at h
    exact ⟨e, (nI_eq (by omega) (by omega)).mp h⟩
  · rw [if_neg e] at h
    exact absurd h (nI_nm (by omega))
theorem tell_nI {a : Nat} (h : a < 10000) : tellN a = nI a := if_pos h
/-- the miles stolen: the fewest -/
def lst (so : Nat → Prop) (w b : Nat) : Prop := (b = 0 ∧ ∀ k, 1 ≤ k → k ≤ 99 → k < w → ¬ so k) ∨ (1 ≤ b ∧ b ≤ 99 ∧ b < w ∧ so b ∧ ∀ k, 1 ≤ k → k < b → ¬ so k)
theorem lst_eq {so : Nat → Prop} {w a b : Nat} (ha : lst so w a) (hb : lst so w b) : a = b := by
  rcases ha with ⟨a1, a2⟩ | ⟨a1, a2, a3, a4, a5⟩
  · rcases hb with ⟨b1, b2⟩ | ⟨b1, b2, b3, b4, b5⟩
    · omega
    · exact absurd b4 (a2 b b1 b2 b3)
  · rcases hb with ⟨b1, b2⟩ | ⟨b1, b2, b3, b4, b5⟩
    · exact absurd a4 (b2 a a1 a2 a3)
    · rcases Nat.lt_trichotomy a b with g | g | g
      · exact absurd a4 (b5 a a1 g)
      · exact g
      · exact absurd b4 (a5 b b1 g)
def soN (S : Ld) (T : Nat → Int32) (p q n : Nat) : Prop := soP (Sc S) T (dS (setW S p q (Sw S p q - n)))
theorem dec_n {S : Ld} {p q n : Nat} (h : okW S) (hp : p < Sc S) (hq : q < Sc S) (hpq : ¬ p = q) (hn : n < Sw S p q) {i j : Nat} (hi : i < Sc S) (hj : j < Sc S) : dS (setW S p q (Sw S p q - n)) i j = min (dS S i j) (Sw S p q - n + besN (dS S) i j p q) := by
  have hw := h.2.2 p q
  exact dec_y h hp hq hpq (by omega) (by rw [wS_road hpq (by omega)]; omega) (by omega) hi hj
theorem steal_1 {S : Ld} {T : Nat → Int32} {p q n : Nat} (h : okW S) (hp : p < Sc S) (hq : q < Sc S) (hpq : p < q) (hn1 : 1 ≤ n) (hn : n < Sw S p q) (hs : soN S T p q n) (h1 : ¬ soN S T p q 1) : T (prN (Sc S) p q) = nI (Sw S p q - n) := by
  have hne : ¬ p = q := by omega
  have hw := h.2.2 p q
  have g := hs p q hpq hq
  rw [dec_n h hp hq hne hn hp hq] at g
  have z1 := dS_0 S p
  have z2 := dS_0 S q
  have hb : besN (dS S) p q p q = 0 := by unfold besN; omega
  rw [hb] at g
  by_cases e : dS S p q ≤ Sw S p q - n
  · exfalso
    apply h1
    intro i j hij hj
    rw [hs i j hij hj, dec_n h hp hq hne hn (by omega) hj, dec_n h hp hq hne (by omega) (by omega) hj]
    have t1 := dS_tri S hp i j
    have t2 := dS_tri S hq p j
    have t3 := dS_tri S hq i j
    have t4 := dS_tri S hp q j
    have t5 := dS_sym h p q
    congr 1
    unfold besN
    omega
  · rw [g, show min (dS S p q) (Sw S p q - n + 0) = Sw S p q - n by omega, tell_nI (by omega)]
theorem theft_y {t : Mem} {S : Ld} {K m n p q k : Nat} {T : Nat → Int32} {x : Int32} (hn : 8 < n) (hK : K < 8) (hl : isLd t 0 S) (ok : okLd S) (hv : isLn t 0 (Sc S) (dS S)) (hT : rwT t K m T) (hm2 : m ≤ 160) (hm3 : prsN (Sc S) ≤ m) (hp : p < Sc S) (hq : q < Sc S) (hpq : p < q) (hx : x = nI k) (hk1 : 1 ≤ k) (hk2 : k ≤ 99) : ∃ r, f_X5_isTheft n ⟨K, hK⟩ (nI p) (nI q) x t = some (r, t) ∧ ((r = 1 ∧ k < Sw S p q ∧ soN S T p q k) ∨ (r = 0 ∧ (k < Sw S p q → ¬ soN S T p q k))) := by
  have hc := ok.1
  have hw := ok.2.2.2.2.2.1 p q
  have hne : ¬ p = q := by omega
  have hD := dS_le ok.w
  unfold f_X5_isTheft
  rw [btw_y hl hc hp hq, bnd_s, hx]
  by_cases e : k < Sw S p q
  · rw [nI_sub (by omega), if_pos (show (1 : Int32) ≤ nI (Sw S p q - k) by rw [show (1 : Int32) = nI 1 from rfl, nI_le' (by omega) (by omega)]; omega)]
    have key : ∃ r, iter (bd_X5_isTheft_25 n ⟨K, hK⟩ (nI p) (nI q) (nI k)) n (nI (Sw S p q - k), 0, t) = some (r, t) ∧ ((r = 1 ∧ soN S T p q k) ∨ (r = 0 ∧ ¬ soN S T p q k)) := by
      refine iter_inv (body := bd_X5_isTheft_25 n ⟨K, hK⟩ (nI p) (nI q) (nI k)) (Sc S) (fun i s => s = (nI (Sw S p q - k), nI i, t) ∧ ∀ a b, a < i → a < b → b < Sc S → T (prN (Sc S) a b) = tellN (dS (setW S p q (Sw S p q - k)) a b)) (fun y => ∃ r, y = some (r, t) ∧ ((r = 1 ∧ soN S T p q k) ∨ (r = 0 ∧ ¬ soN S T p q k))) ?_ ?_ n 0 _ (Nat.zero_le _) (by omega) ⟨rfl, fun a b h => absurd h (Nat.not_lt_zero a)⟩
      · intro self i s hi hs
        obtain ⟨rfl, ha⟩ := hs
        have hin := iter_inv (body := bd_X5_isTheft_43 n ⟨K, hK⟩ (nI p) (nI q) (nI k) self) (Sc S) (fun j s => i < j ∧ s = (nI (Sw S p q - k), nI i, nI j, t) ∧ ∀ b, i < b → b < j → T (prN (Sc S) i b) = tellN (dS (setW S p q (Sw S p q - k)) i b)) (fun y => (y = self (nI (Sw S p q - k), nI (i + 1), t) ∧ ∀ b, i < b → b < Sc S → T (prN (Sc S) i b) = tellN (dS (setW S p q (Sw S p q - k)) i b)) ∨ (y = some (0, t) ∧ ¬ soN S T p q k)) (fun f j s hj hs => by
          obtain ⟨hij, rfl, hb⟩ := hs
          have g := pr_of hc hi hj (show ¬ i = j by omega)
          have g3 : prN (Sc S) i j < prsN (Sc S) := g.2.2.1
          have hbl := bes_le hD i j p q
          have d1 := hD i j
          have dd := dec_n ok.w hp hq hne e hi hj
          have m1 : min (dS S i j) (Sw S p q - k + besN (dS S) i j p q) ≤ 10000 := by omega
          have st : bd_X5_isTheft_43 n ⟨K, hK⟩ (nI p) (nI q) (nI k) self f (nI (Sw S p q - k), nI i, nI j, t) = if T (prN (Sc S) i j) = tellN (dS (setW S p q (Sw S p q - k)) i j) then f (nI (Sw S p q - k), nI i, nI (j + 1), t) else some (0, t) := by
            unfold bd_X5_isTheft_43 jn_X5_isTheft_123
            dsimp only
            rw [hl.1, if_neg (nle8 hj hc), len_y hv hc hi hj, bnd_s, bes_y hv hc hD hi hj hp hq, bnd_s, nI_add, min_nI (by omega) (by omega), bnp_s, hl.1, g.1, bnp_s, asI_y hK hT hm2 (by omega), bnd_s, dd, nI_s]
            unfold tellN
            by_cases e9 : min (dS S i j) (Sw S p q - k + besN (dS S) i j p q) < 10000
            · rw [if_neg (fun h => (le_way m1).mp h e9), if_pos e9]
            · rw [if_pos ((le_way m1).mpr e9), if_neg e9]
          rw [st]
          by_cases e9 : T (prN (Sc S) i j) = tellN (dS (setW S p q (Sw S p q - k)) i j)
          · rw [if_pos e9]
            refine .inl ⟨_, rfl, by omega, rfl, fun b h1 h2 => ?_⟩
            by_cases e10 : b = j
            · rw [e10]; exact e9
            · exact hb b h1 (by omega)
          · rw [if_neg e9]
            exact .inr (.inr ⟨rfl, fun h => e9 (h i j hij hj)⟩)) (fun f s hs => by
          obtain ⟨hij, rfl, hb⟩ := hs
          refine .inl ⟨?_, hb⟩
          unfold bd_X5_isTheft_43
          dsimp only
          rw [hl.1, if_pos le8, nI_s]) n (i + 1) (nI (Sw S p q - k), nI i, nI (i + 1), t) (by omega) (by omega) ⟨by omega, rfl, fun b h1 h2 => by omega⟩
        have k1 : bd_X5_isTheft_25 n ⟨K, hK⟩ (nI p) (nI q) (nI k) self (nI (Sw S p q - k), nI i, t) = iter (bd_X5_isTheft_43 n ⟨K, hK⟩ (nI p) (nI q) (nI k) self) n (nI (Sw S p q - k), nI i, nI (i + 1), t) := by
          unfold bd_X5_isTheft_25
          dsimp only
          rw [hl.1, if_neg (nle8 hi hc), nI_s]
        rw [k1]
        rcases hin with ⟨e1, e2⟩ | ⟨e1, e2⟩
        · refine .inl ⟨_, e1, rfl, fun a b h1 h2 h3 => ?_⟩
          by_cases e10 : a = i
          · rw [e10]; exact e2 b (by omega) h3
          · exact ha a b (by omega) h2 h3
        · exact .inr ⟨0, e1, .inr ⟨rfl, e2⟩⟩
      · intro self s hs
        obtain ⟨rfl, ha⟩ := hs
        refine ⟨1, ?_, .inl ⟨rfl, fun a b h1 h2 => ha a b (by omega) h1 h2⟩⟩
        unfold bd_X5_isTheft_25
        dsimp only
        rw [hl.1, if_pos le8]
    obtain ⟨r, r1, r2⟩ := key
    refine ⟨r, r1, ?_⟩
    rcases r2 with ⟨a, b⟩ | ⟨a, b⟩
    · exact .inl ⟨a, e, b⟩
    · exact .inr ⟨a, fun _ => b⟩
  · rw [if_neg]
    · exact ⟨0, rfl, .inr ⟨rfl, fun h => absurd h e⟩⟩
    · rw [i_le, Int32.toInt_sub, nI_toInt (by omega), nI_toInt (by omega), show (1 : Int32).toInt = 1 by decide, Int.bmod_eq_of_le (by omega) (by omega)]
      omega
theorem stolen_y {t : Mem} {S : Ld} {K m n p q : Nat} {T : Nat → Int32} (hn : 8 < n) (hK : K < 8) (hl : isLd t 0 S) (ok : okLd S) (hv : isLn t 0 (Sc S) (dS S)) (hT : rwT t K m T) (hm2 : m ≤ 160) (hm3 : prsN (Sc S) ≤ m) (hp : p < Sc S) (hq : q < Sc S) (hpq : p < q) : ∃ b, f_X5_stolenOn n ⟨K, hK⟩ (nI p) (nI q) t = some (nI b, t) ∧ lst (soN S T p q) (Sw S p q) b := by
  have hc := ok.1
  have hw := ok.2.2.2.2.2.1 p q
  have hne : ¬ p = q := by omega
  have g := pr_of hc hp hq hne
  have g3 : prN (Sc S) p q < prsN (Sc S) := g.2.2.1
  obtain ⟨r, r1, r2⟩ := theft_y (n := n) (k := 1) (x := 1) hn hK hl ok hv hT hm2 hm3 hp hq hpq rfl (by omega) (by omega)
  unfold f_X5_stolenOn
  rw [r1, bnd_s]
  rcases r2 with ⟨rfl, a, b⟩ | ⟨rfl, a⟩
  · rw [if_neg one_ne]
    exact ⟨1, rfl, .inr ⟨by omega, by omega, a, b, fun k h1 h2 => by omega⟩⟩
  rw [if_pos rfl, btw_y hl hc hp hq, bnd_s, hl.1, g.1, bnp_s, asI_y hK hT hm2 (by omega), bnd_s]
  have hi : ((nI (Sw S p q)).toInt64 - (T (prN (Sc S) p q)).toInt64).toInt = (Sw S p q : Int) - (T (prN (Sc S) p q)).toInt := by
    have b1 := Int32.toInt_lt (T (prN (Sc S) p q))
    have b2 := Int32.le_toInt (T (prN (Sc S) p q))
    rw [Int64.toInt_sub, Int32.toInt_toInt64, Int32.toInt_toInt64, nI_toInt (by omega), Int.bmod_eq_of_le (by omega) (by omega)]
  have h1 : (1 : Int64).toInt = 1 := by decide
  have h99 : (99 : Int64).toInt = 99 := by decide
  have none : (¬ (1 ≤ (Sw S p q : Int) - (T (prN (Sc S) p q)).toInt ∧ (Sw S p q : Int) - (T (prN (Sc S) p q)).toInt ≤ 99)) → ∀ k, 1 ≤ k → k ≤ 99 → k < Sw S p q → ¬ soN S T p q k := by
    intro hno k k1 k2 k3 k4
    have e := steal_1 ok.w hp hq hpq k1 k3 k4 (a (by omega))
    rw [e, nI_toInt (by omega)] at hno
    omega
  by_cases e1 : (Sw S p q : Int) - (T (prN (Sc S) p q)).toInt < 1
  · rw [if_pos ((lg_cmp_lt _ _).mpr (by rw [Int64.lt_iff_toInt_lt, hi, h1]; exact e1))]
    exact ⟨0, rfl, .inl ⟨rfl, none (by omega)⟩⟩
  rw [if_neg (fun h => e1 (by have := (lg_cmp_lt _ _).mp h; rw [Int64.lt_iff_toInt_lt, hi, h1] at this; exact this))]
  by_cases e2 : 99 < (Sw S p q : Int) - (T (prN (Sc S) p q)).toInt
  · rw [if_pos ((lg_cmp_gt _ _).mpr (by rw [Int64.lt_iff_toInt_lt, hi, h99]; exact e2))]
    exact ⟨0, rfl, .inl ⟨rfl, none (by omega)⟩⟩
  rw [if_neg (fun h => e2 (by have := (lg_cmp_gt _ _).mp h; rw [Int64.lt_iff_toInt_lt, hi, h99] at this; exact this))]
  obtain ⟨k, ek⟩ : ∃ k : Nat, (Sw S p q : Int) - (T (prN (Sc S) p q)).toInt = k := ⟨((Sw S p q : Int) - (T (prN (Sc S) p q)).toInt).toNat, by omega⟩
  have ex : ((nI (Sw S p q)).toInt64 - (T (prN (Sc S) p q)).toInt64).toInt32 = nI k := by
    rw [i_eq, nI_toInt (by omega), Int64.toInt_toInt32, hi, ek, Int.bmod_eq_of_le (by omega) (by omega)]
  rw [ex]
  obtain ⟨r', r1', r2'⟩ := theft_y (n := n) (k := k) (x := nI k) hn hK hl ok hv hT hm2 hm3 hp hq hpq rfl (by omega) (by omega)
  rw [r1', bnd_s]
  rcases r2' with ⟨rfl, a', b'⟩ | ⟨rfl, a'⟩
  · rw [if_neg one_ne]
    refine ⟨k, rfl, .inr ⟨by omega, by omega, a', b', fun i i1 i2 i3 => ?_⟩⟩
    have e := steal_1 ok.w hp hq hpq i1 (by omega) i3 (a (by omega))
    rw [e, nI_toInt (by omega)] at ek
    omega
  · rw [if_pos rfl]
    refine ⟨0, rfl, .inl ⟨rfl, fun i i1 i2 i3 i4 => ?_⟩⟩
    have e := steal_1 ok.w hp hq hpq i1 i3 i4 (a (by omega))
    rw [e, nI_toInt (by omega)] at ek
    have : i = k := by omega
    subst this
    exact a' i3 i4
