/-! layer 2: whole -/
def ptB (D : Nat → Nat → Nat) (p : Nat) : Bool := !exB (fun q => decide (D p q < 10000)) p
theorem parts_y {t : Mem} {J : Fin 2} {c n : Nat} {D : Nat → Nat → Nat} (hn : 8 < n) (h : isLn t J c D) (hc : c ≤ 8) (hD : ∀ i j, D i j ≤ 10000) : f_X2_parts n J t = some (nI (cntN (ptB D) c), t) := by
  refine iter_up0 (body := bd_X2_parts_4 n J) c (fun p => (nI (cntN (ptB D) p), nI p, t)) _ rfl (by omega) (fun self p hp => ?_) (fun self => ?_)
  · have r1 : ∀ d, d ≤ 10000 → ((9999 : Int32) < nI d ↔ ¬ d < 10000) := fun d hd => by rw [show (9999 : Int32) = nI 9999 from rfl, nI_lt' (by omega) (by omega)]; omega
    have e : bsN (rcB D p 9999) c % 2 ^ p = bsN (rcB D p 9999) p := by
      have := bsN_mod (rcB D p 9999) p (c - p)
      rw [show p + (c - p) = c by omega] at this
      exact this
    have h256 := bsN_256 (rcB D p 9999) hc
    have hp256 := bsN_256 (rcB D p 9999) (c := p) (by omega)
    have st : cntN (ptB D) (p + 1) = if ptB D p = true then cntN (ptB D) p + 1 else cntN (ptB D) p := rfl
    have hz : bsN (rcB D p 9999) p = 0 ↔ ptB D p = true := by
      rw [bsN_0]
      unfold ptB
      rw [Bool.not_eq_true']
      constructor
      · intro g
        cases e : exB (fun q => decide (D p q < 10000)) p with
        | false => rfl
        | true =>
          obtain ⟨q, h1, h2⟩ := (ex_iff p).mp e
          have h3 := of_decide_eq_true h2
          exact absurd (by unfold rcB; rw [Bool.not_eq_true']; exact decide_eq_false (fun k => (r1 _ (hD p q)).mp k h3)) (g q h1)
      · intro g q hq k
        unfold rcB at k
        rw [Bool.not_eq_true', decide_eq_false_iff_not, r1 _ (hD p q)] at k
        have : exB (fun q => decide (D p q < 10000)) p = true := (ex_iff p).mpr ⟨q, hq, decide_eq_true (by omega)⟩
        rw [g] at this
        cases this
    unfold bd_X2_parts_4
    dsimp only
    rw [h.1, if_neg (nle8 hp hc), lti_s, reach_y hn h hc hp, bnd_s, bs_low (by omega) h256, e, st, nI_s, nI_s]
    by_cases g : ptB D p = true
    · rw [if_pos g, if_neg (show ¬ ¬ nI (bsN (rcB D p 9999) p) = 0 from fun k => k (by rw [hz.mpr g]; rfl))]
    · rw [if_neg g, if_pos (show ¬ nI (bsN (rcB D p 9999) p) = 0 from fun k => g (hz.mp ((nI_z (by omega)).mp k)))]
  · unfold bd_X2_parts_4
    dsimp only
    rw [h.1, if_pos le8]
theorem mparts_y {u : Mem} {S : Ld} {n : Nat} {D : Nat → Nat → Nat} (hn : 8 < n) (hm : isMd u S) (hc : Sc S ≤ 8) (hf : isFar u (Sc S) D) (hD : ∀ i j, D i j ≤ 10000) : f_X6_parts n u = some (nI (cntN (ptB D) (Sc S)), u) := by
  refine iter_up0 (body := bd_X6_parts_4 n) (Sc S) (fun p => (nI (cntN (ptB D) p), nI p, u)) _ rfl (by omega) (fun self p hp => ?_) (fun self => ?_)
  · have st : cntN (ptB D) (p + 1) = if ptB D p = true then cntN (ptB D) p + 1 else cntN (ptB D) p := rfl
    unfold bd_X6_parts_4
    dsimp only
    rw [hm.1, if_neg (nle8 hp hc), st]
    refine iter_up0 (body := bd_X6_parts_17 n self) p (fun q => (nI (cntN (ptB D) p), nI p, bI (!exB (fun q => decide (D p q < 10000)) q), nI q, u)) _ rfl (by omega) (fun self2 q hq => ?_) (fun self2 => ?_)
    · have d1 := hD p q
      have e : exB (fun q => decide (D p q < 10000)) (q + 1) = (exB (fun q => decide (D p q < 10000)) q || decide (D p q < 10000)) := rfl
      unfold bd_X6_parts_17
      dsimp only
      rw [if_neg (nle8 hq (by omega)), ck_t (inb8' (by omega) (by omega)), mfar' hf hc hp (by omega), nI_s, e]
      by_cases g : D p q < 10000
      · rw [if_neg (fun k => (le_way d1).mp k g), decide_eq_true g, Bool.or_true]
        rfl
      · rw [if_pos ((le_way d1).mpr g), decide_eq_false g, Bool.or_false]
    · unfold bd_X6_parts_17
      dsimp only
      rw [if_pos le8, nI_s, nI_s, bI_it]
      show (if ptB D p = true then _ else _) = _
      by_cases g : ptB D p = true
      · rw [if_pos g, if_pos g]
      · rw [if_neg g, if_neg g]
  · unfold bd_X6_parts_4
    dsimp only
    rw [hm.1, if_pos le8]
def mxN (f : Nat → Nat) : Nat → Nat
  | 0 => 0
  | i + 1 => max (mxN f i) (f i)
theorem mx_le {f : Nat → Nat} {B : Nat} (h : ∀ i, f i ≤ B) : ∀ c, mxN f c ≤ B
  | 0 => Nat.zero_le _
  | c + 1 => by
    have h1 := mx_le h c
    have h2 := h c
    unfold mxN
    omega
def fdN (f : Nat → Nat) : Nat → Nat
  | 0 => 0
  | p + 1 => if f p < f (fdN f p) then p else fdN f p
theorem fd_le (f : Nat → Nat) : ∀ p, fdN f p ≤ p
  | 0 => Nat.le_refl _
  | p + 1 => by
    have := fd_le f p
    unfold fdN
    split <;> omega
theorem fd_lt (f : Nat → Nat) : ∀ p, 0 < p → fdN f p < p
  | 0, h => absurd h (Nat.lt_irrefl 0)
  | p + 1, _ => by
    have := fd_le f p
    unfold fdN
    split <;> omega
theorem middle_y {t : Mem} {J : Fin 2} {c n : Nat} {D : Nat → Nat → Nat} (hn : 8 < n) (h : isLn t J c D) (hc : c ≤ 8) (hc0 : 0 < c) (hD : ∀ i j, D i j ≤ 10000) : f_X2_middle n J t = some (nI (fdN (fun p => mxN (D p) c) c), t) := by
  refine iter_up0 (body := bd_X2_middle_6 n J) c (fun p => ((if p = 0 then -1 else nI (fdN (fun p => mxN (D p) c) p)), (if p = 0 then 0 else nI (mxN (D (fdN (fun p => mxN (D p) c) p)) c)), nI p, t)) _ rfl (by omega) (fun self p hp => ?_) (fun self => ?_)
  · have b1 := mx_le (f := D p) (hD p) c
    have b2 := mx_le (f := D (fdN (fun p => mxN (D p) c) p)) (hD _) c
    unfold bd_X2_middle_6
    dsimp only
    rw [h.1, if_neg (nle8 hp hc), if_neg (show ¬ p + 1 = 0 by omega), if_neg (show ¬ p + 1 = 0 by omega)]
    refine iter_up0 (body := bd_X2_middle_20 n J self) c (fun q => ((if p = 0 then -1 else nI (fdN (fun p => mxN (D p) c) p)), (if p = 0 then 0 else nI (mxN (D (fdN (fun p => mxN (D p) c) p)) c)), nI p, nI (mxN (D p) q), nI q, t)) _ rfl (by omega) (fun self2 q hq => ?_) (fun self2 => ?_)
    · have b3 := mx_le (f := D p) (hD p) q
      have d1 := hD p q
      unfold bd_X2_middle_20
      dsimp only
      rw [h.1, if_neg (nle8 hq hc), len_y h hc hp hq, bnd_s, cost_max (by omega) (by omega), bnp_s, nI_s]
      rfl
    · have e : fdN (fun p => mxN (D p) c) (p + 1) = if mxN (D p) c < mxN (D (fdN (fun p => mxN (D p) c) p)) c then p else fdN (fun p => mxN (D p) c) p := rfl
      unfold bd_X2_middle_20
      dsimp only
      rw [h.1, if_pos le8, nI_s, e]
      have hf := fd_le (fun p => mxN (D p) c) p
      by_cases e0 : p = 0
      · subst e0
        have e1 : (if mxN (D 0) c < mxN (D (fdN (fun p => mxN (D p) c) 0)) c then 0 else fdN (fun p => mxN (D p) c) 0) = 0 := by
          split <;> rfl
        rw [if_pos rfl, if_pos rfl, e1]
      · rw [if_neg e0, if_neg e0, if_neg (nI_nm (by omega))]
        by_cases e2 : mxN (D p) c < mxN (D (fdN (fun p => mxN (D p) c) p)) c
        · rw [if_neg (show ¬ nI (mxN (D (fdN (fun p => mxN (D p) c) p)) c) ≤ nI (mxN (D p) c) by rw [nI_le' (by omega) (by omega)]; omega), if_pos e2]
        · rw [if_pos (show nI (mxN (D (fdN (fun p => mxN (D p) c) p)) c) ≤ nI (mxN (D p) c) by rw [nI_le' (by omega) (by omega)]; omega), if_neg e2]
  · unfold bd_X2_middle_6
    dsimp only
    rw [h.1, if_pos le8, if_neg (show ¬ c = 0 by omega)]
theorem far_y {u : Mem} {S : Ld} {n p : Nat} {D : Nat → Nat → Nat} (hn : 8 < n) (hm : isMd u S) (hc : Sc S ≤ 8) (hf : isFar u (Sc S) D) (hD : ∀ i j, D i j ≤ 10000) (hp : p < Sc S) : f_X6_farthest n (nI p) u = some (nI (mxN (D p) (Sc S)), u) := by
  refine iter_up0 (body := bd_X6_farthest_4 n (nI p)) (Sc S) (fun q => (nI (mxN (D p) q), nI q, u)) _ rfl (by omega) (fun self q hq => ?_) (fun self => ?_)
  · have b3 := mx_le (f := D p) (hD p) q
    have d1 := hD p q
    unfold bd_X6_farthest_4
    dsimp only
    rw [hm.1, if_neg (nle8 hq hc), ck_t (inb8' (by omega) (by omega)), mfar' hf hc hp hq, cost_max (by omega) (by omega), bnp_s, nI_s]
    rfl
  · unfold bd_X6_farthest_4
    dsimp only
    rw [hm.1, if_pos le8]
/-- a length that counts for WIDE -/
def wdN (d : Nat) : Nat := if d < 10000 then d else 0
theorem wd_max {a d : Nat} (ha : a ≤ 10000) (hd : d ≤ 10000) : f_J9_max_7cf53 (nI a) (tellN d) = some (nI (max a (wdN d))) := by
  unfold tellN wdN
  by_cases e : d < 10000
  · rw [if_pos e, if_pos e, cost_max (by omega) (by omega)]
  · rw [if_neg e, if_neg e, Nat.max_eq_left (Nat.zero_le _)]
    unfold f_J9_max_7cf53
    rw [if_neg]
    rw [i_lt, nI_toInt (by omega), show ((-1 : Int32)).toInt = -1 from rfl]
    omega
theorem wd_le {d : Nat} : wdN d ≤ 9999 := by
  unfold wdN
  split <;> omega
theorem great_y {t : Mem} {J : Fin 2} {c n : Nat} {D : Nat → Nat → Nat} (hn : 8 < n) (h : isLn t J c D) (hc : c ≤ 8) (hD : ∀ i j, D i j ≤ 10000) : ∃ v, f_X2_greatest n J t = some (nI v, t) ∧ ∀ X, v ≤ X ↔ ∀ i j, i < j → j < c → wdN (D i j) ≤ X := by
  refine iter_inv (body := bd_X2_greatest_4 n J) c (fun p s => ∃ v, s = (nI v, nI p, t) ∧ v ≤ 9999 ∧ ∀ X, v ≤ X ↔ ∀ i j, i < p → i < j → j < c → wdN (D i j) ≤ X) (fun r => ∃ v, r = some (nI v, t) ∧ ∀ X, v ≤ X ↔ ∀ i j, i < j → j < c → wdN (D i j) ≤ X) ?_ ?_ n 0 _ (Nat.zero_le _) (by omega) ⟨0, rfl, by omega, fun X => ⟨fun _ i j h => absurd h (Nat.not_lt_zero i), fun _ => Nat.zero_le _⟩⟩
  · intro self p s hp hs
    obtain ⟨v, rfl, hv, hX⟩ := hs
    have hin := iter_inv (body := bd_X2_greatest_16 n J self) c (fun q s => p < q ∧ ∃ v, s = (nI v, nI p, nI q, t) ∧ v ≤ 9999 ∧ ∀ X, v ≤ X ↔ (∀ i j, i < p → i < j → j < c → wdN (D i j) ≤ X) ∧ ∀ j, p < j → j < q → wdN (D p j) ≤ X) (fun r => ∃ v, r = self (nI v, nI (p + 1), t) ∧ v ≤ 9999 ∧ ∀ X, v ≤ X ↔ ∀ i j, i < p + 1 → i < j → j < c → wdN (D i j) ≤ X) (fun self2 q s hq hs => by
      obtain ⟨hpq, v, rfl, hv, hX⟩ := hs
      have w1 := wd_le (d := D p q)
      refine .inl ⟨(nI (max v (wdN (D p q))), nI p, nI (q + 1), t), ?_, by omega, _, rfl, by omega, fun X => ?_⟩
      · unfold bd_X2_greatest_16
        dsimp only
        rw [h.1, if_neg (nle8 hq hc), lnone_y h hc (hD p q) hp hq, bnd_s, wd_max (by omega) (hD p q), bnp_s, nI_s]
      · rw [Nat.max_le, hX X]
        refine ⟨fun ⟨⟨g1, g2⟩, g3⟩ => ⟨g1, fun j j1 j2 => ?_⟩, fun ⟨g1, g2⟩ => ⟨⟨g1, fun j j1 j2 => g2 j j1 (by omega)⟩, g2 q hpq (by omega)⟩⟩
        by_cases e : j = q
        · rw [e]; exact g3
        · exact g2 j j1 (by omega)) (fun self2 s hs => by
      obtain ⟨hpq, v, rfl, hv, hX⟩ := hs
      refine ⟨v, ?_, hv, fun X => ?_⟩
      · unfold bd_X2_greatest_16
        dsimp only
        rw [h.1, if_pos le8, nI_s]
      · rw [hX X]
        refine ⟨fun ⟨g1, g2⟩ i j h1 h2 h3 => ?_, fun g => ⟨fun i j h1 h2 h3 => g i j (by omega) h2 h3, fun j h1 h2 => g p j (by omega) h1 h2⟩⟩
        by_cases e : i = p
        · rw [e]; exact g2 j (by omega) h3
        · exact g1 i j (by omega) h2 h3) n (p + 1) (nI v, nI p, nI (p + 1), t) (by omega) (by omega) ⟨by omega, v, rfl, hv, fun X => by
      rw [hX X]
      exact ⟨fun g => ⟨g, fun j h1 h2 => by omega⟩, fun g => g.1⟩⟩
    obtain ⟨v', g1, g2, g3⟩ := hin
    refine .inl ⟨_, ?_, v', rfl, g2, g3⟩
    unfold bd_X2_greatest_4
    dsimp only
    rw [h.1, if_neg (nle8 hp hc), nI_s]
    exact g1
  · intro self s hs
    obtain ⟨v, rfl, hv, hX⟩ := hs
    refine ⟨v, ?_, fun X => ?_⟩
    · unfold bd_X2_greatest_4
      dsimp only
      rw [h.1, if_pos le8]
    · rw [hX X]
      exact ⟨fun g i j h1 h2 => g i j (by omega) h1 h2, fun g i j _ h2 h3 => g i j h2 h3⟩
theorem mwide_y {u : Mem} {S : Ld} {n : Nat} {D : Nat → Nat → Nat} {x1 : Int32} (hn : 8 < n) (hm : isMd u S) (hc : Sc S ≤ 8) (hf : isFar u (Sc S) D) (hD : ∀ i j, D i j ≤ 10000) : ∃ v, iter (bd_X6_whole_58 n x1) n (0, 0, 0, u) = (if ¬ x1 = 1 then some (nI v, u) else some (nI (fdN (fun p => mxN (D p) (Sc S)) (Sc S)), u)) ∧ ∀ X, v ≤ X ↔ ∀ i j, i < Sc S → j < Sc S → wdN (D i j) ≤ X := by
  refine iter_inv (body := bd_X6_whole_58 n x1) (Sc S) (fun p s => ∃ v, s = (nI (fdN (fun p => mxN (D p) (Sc S)) p), nI v, nI p, u) ∧ v ≤ 9999 ∧ ∀ X, v ≤ X ↔ ∀ i j, i < p → j < Sc S → wdN (D i j) ≤ X) (fun r => ∃ v, r = (if ¬ x1 = 1 then some (nI v, u) else some (nI (fdN (fun p => mxN (D p) (Sc S)) (Sc S)), u)) ∧ ∀ X, v ≤ X ↔ ∀ i j, i < Sc S → j < Sc S → wdN (D i j) ≤ X) ?_ ?_ n 0 _ (Nat.zero_le _) (by omega) ⟨0, rfl, by omega, fun X => ⟨fun _ i j h => absurd h (Nat.not_lt_zero i), fun _ => Nat.zero_le _⟩⟩
  · intro self p s hp hs
    obtain ⟨v, rfl, hv, hX⟩ := hs
    have hfd := fd_le (fun p => mxN (D p) (Sc S)) p
    have b1 := mx_le (f := D p) (hD p) (Sc S)
    have b2 := mx_le (f := D (fdN (fun p => mxN (D p) (Sc S)) p)) (hD _) (Sc S)
    have hin := iter_inv (body := bd_X6_whole_87 n x1 self) (Sc S) (fun q s => ∃ v, s = (nI (fdN (fun p => mxN (D p) (Sc S)) (p + 1)), nI v, nI p, nI q, u) ∧ v ≤ 9999 ∧ ∀ X, v ≤ X ↔ (∀ i j, i < p → j < Sc S → wdN (D i j) ≤ X) ∧ ∀ j, j < q → wdN (D p j) ≤ X) (fun r => ∃ v, r = self (nI (fdN (fun p => mxN (D p) (Sc S)) (p + 1)), nI v, nI (p + 1), u) ∧ v ≤ 9999 ∧ ∀ X, v ≤ X ↔ ∀ i j, i < p + 1 → j < Sc S → wdN (D i j) ≤ X) (fun self2 q s hq hs => by
      obtain ⟨v, rfl, hv, hX⟩ := hs
      have w1 := wd_le (d := D p q)
      refine .inl ⟨(nI (fdN (fun p => mxN (D p) (Sc S)) (p + 1)), nI (max v (wdN (D p q))), nI p, nI (q + 1), u), ?_, _, rfl, by omega, fun X => ?_⟩
      · unfold bd_X6_whole_87
        dsimp only
        rw [hm.1, if_neg (nle8 hq hc), told_y hf hc (hD p q) hp hq, bnd_s, wd_max (by omega) (hD p q), bnp_s, nI_s]
      · rw [Nat.max_le, hX X]
        refine ⟨fun ⟨⟨g1, g2⟩, g3⟩ => ⟨g1, fun j j2 => ?_⟩, fun ⟨g1, g2⟩ => ⟨⟨g1, fun j j2 => g2 j (by omega)⟩, g2 q (by omega)⟩⟩
        by_cases e : j = q
        · rw [e]; exact g3
        · exact g2 j (by omega)) (fun self2 s hs => by
      obtain ⟨v, rfl, hv, hX⟩ := hs
      refine ⟨v, ?_, hv, fun X => ?_⟩
      · unfold bd_X6_whole_87
        dsimp only
        rw [hm.1, if_pos le8, nI_s]
      · rw [hX X]
        refine ⟨fun ⟨g1, g2⟩ i j h1 h3 => ?_, fun g => ⟨fun i j h1 h3 => g i j (by omega) h3, fun j h2 => g p j (by omega) h2⟩⟩
        by_cases e : i = p
        · rw [e]; exact g2 j h3
        · exact g1 i j (by omega) h3) n 0 (nI (fdN (fun p => mxN (D p) (Sc S)) (p + 1)), nI v, nI p, 0, u) (Nat.zero_le _) (by omega) ⟨v, rfl, hv, fun X => by
      rw [hX X]
      exact ⟨fun g => ⟨g, fun j h1 => absurd h1 (Nat.not_lt_zero j)⟩, fun g => g.1⟩⟩
    obtain ⟨v', g1, g2, g3⟩ := hin
    refine .inl ⟨_, ?_, v', rfl, g2, g3⟩
    have e : fdN (fun p => mxN (D p) (Sc S)) (p + 1) = if mxN (D p) (Sc S) < mxN (D (fdN (fun p => mxN (D p) (Sc S)) p)) (Sc S) then p else fdN (fun p => mxN (D p) (Sc S)) p := rfl
    unfold bd_X6_whole_58 jn_X6_whole_84
    dsimp only
    rw [hm.1, if_neg (nle8 hp hc), far_y hn hm hc hf hD hp, bnd_s, far_y hn hm hc hf hD (show fdN (fun p => mxN (D p) (Sc S)) p < Sc S by omega), bnd_s]
    by_cases e2 : mxN (D p) (Sc S) < mxN (D (fdN (fun p => mxN (D p) (Sc S)) p)) (Sc S)
    · rw [if_pos e2] at e
      rw [if_neg (show ¬ nI (mxN (D (fdN (fun p => mxN (D p) (Sc S)) p)) (Sc S)) ≤ nI (mxN (D p) (Sc S)) by rw [nI_le' (by omega) (by omega)]; omega)]
      rw [e] at g1 ⊢
      exact g1
    · rw [if_neg e2] at e
      rw [if_pos (show nI (mxN (D (fdN (fun p => mxN (D p) (Sc S)) p)) (Sc S)) ≤ nI (mxN (D p) (Sc S)) by rw [nI_le' (by omega) (by omega)]; omega)]
      rw [e] at g1 ⊢
      exact g1
  · intro self s hs
    obtain ⟨v, rfl, hv, hX⟩ := hs
    refine ⟨v, ?_, hX⟩
    unfold bd_X6_whole_58
    dsimp only
    rw [hm.1, if_pos le8]
theorem stp19 {n : Nat} (hn : 8 < n) : Stp19 Rel n := fun t u x1 h0 => by
  obtain ⟨S, hl, hm, ok, ho⟩ := id h0
  have hc := ok.1
  have hD := dS_le ok.w
  unfold f_X5_whole f_X6_whole jn_X5_whole_24 jn_X6_whole_21
  by_cases e1 : x1 < 0
  · rw [if_pos e1, win_n (.inl e1), bnp_s, if_pos rfl]
    exact fin_no 5 h0 (by decide) (by decide)
  by_cases e2 : 3 < x1
  · rw [if_neg e1, if_pos e2, win_n (.inr e2), bnp_s, if_pos rfl]
    exact fin_no 5 h0 (by decide) (by decide)
  rw [if_neg e1, if_neg e2, win_y e1 e2, bnp_s, if_neg one_ne, hl.1, hm.1]
  obtain ⟨v, w, a, b, hl', hm', ho', hv, hw⟩ := both_y (n := n) hn hl hm ok ho
  have hR : Rel v w := ⟨S, hl', hm', ok, ho'⟩
  have key : (¬ x1 = 1 ∨ 0 < Sc S) → ∃ r t' u', jn_X5_whole_31 n x1 t = some (r, t') ∧ jn_X6_whole_28 n x1 u = some (r, u') ∧ Rel t' u' := by
    intro h1
    unfold jn_X5_whole_31 jn_X6_whole_28
    rw [b, bnd_s]
    by_cases e3 : x1 = 3
    · rw [if_neg (fun g => g e3), if_pos (by rw [e3]; decide), if_neg (fun g => g e3)]
      obtain ⟨s, I, k1, k2, k3⟩ := keep_class (n := n) hn hl ok
      obtain ⟨s', I', j1, j2, j3⟩ := keep_model (n := n) hn hm' ok
      have es := kp_end k3 j3 k2 j2
      rw [k1, bnd_s, j1, bnd_s, es]
      obtain ⟨w', w1, w2, w3⟩ := walk_y (n := n) hn hm ok.w
      have : w' = w := by
        rw [w1] at b
        have := Option.some.inj b
        exact (Prod.mk.inj this).2
      subst this
      exact ⟨_, _, _, rfl, rfl, S, hl, hm', ok, ho.two (Fr.rf t []) w2 (by decide) (by decide) (by decide)⟩
    rw [if_pos e3, a, bnd_s]
    by_cases e4 : x1 = 0
    · rw [if_pos e4, if_neg (fun g => g e4), parts_y hn hv hc hD, bnd_s, mparts_y hn hm' hc hw hD, bnd_s]
      exact ⟨_, _, _, rfl, rfl, hR⟩
    rw [if_neg e4, if_pos e4, if_pos e3]
    obtain ⟨y, y1, y2⟩ := mwide_y (n := n) (x1 := x1) hn hm' hc hw hD
    rw [y1]
    by_cases e5 : x1 = 1
    · rw [if_pos e5, if_neg (fun g => g e5), middle_y hn hv hc (h1.resolve_left (fun g => g e5)) hD, bnd_s]
      exact ⟨_, _, _, rfl, rfl, hR⟩
    · obtain ⟨z, z1, z2⟩ := great_y (n := n) hn hv hc hD
      have ezy : z = y := by
        apply Nat.le_antisymm
        · rw [z2]
          intro i j h1 h2
          exact (y2 y).mp (Nat.le_refl _) i j (by omega) h2
        · rw [y2]
          intro i j h1 h2
          have g := (z2 z).mp (Nat.le_refl _)
          rcases Nat.lt_trichotomy i j with k | k | k
          · exact g i j k h2
          · rw [k, dS_0]
            exact Nat.zero_le _
          · rw [dS_sym ok.w i j]
            exact g j i k h1
      rw [if_neg e5, if_pos e5, z1, bnd_s, ezy]
      exact ⟨_, _, _, rfl, rfl, hR⟩
  by_cases e3 : x1 = 1
  · rw [if_neg (show ¬ ¬ x1 = 1 from fun g => g e3), if_neg (show ¬ ¬ x1 = 1 from fun g => g e3)]
    by_cases e4 : Sc S = 0
    · rw [if_neg (by rw [e4]; exact z_nn), if_neg (by rw [e4]; exact z_nn)]
      exact fin_no 5 h0 (by decide) (by decide)
    · rw [if_pos (show ¬ nI (Sc S) = 0 from fun g => e4 ((nI_z (by omega)).mp g)), if_pos (show ¬ nI (Sc S) = 0 from fun g => e4 ((nI_z (by omega)).mp g))]
      exact key (.inr (by omega))
  · rw [if_pos e3, if_pos e3]
    exact key (.inl e3)
