/-! layer 2: cheapest -/
def cpX (x : Int32) : Prop := x = -1 ∨ ∃ a, a ≤ 3000 ∧ x = nI a
theorem costN_le {S : Ld} (ok : okLd S) {p q n : Nat} (hn : n ≤ 999) : costN S p q n ≤ 3000 := by
  have a1 := asksN_le (k := Sk S p) (ok.2.2.2.2.1 p) hn
  have a2 := asksN_le (k := Sk S q) (ok.2.2.2.2.1 q) hn
  unfold costN
  omega
/-- whether a cost is better than what was found -/
def btr (x : Int32) (a : Nat) : Bool := decide (x = -1) || decide (nI a < x)
theorem btr_no {x : Int32} {a b : Nat} (hx : cpX x) (hb : b ≤ 3000) (h : a ≤ b) (g : ¬ btr x a = true) : ¬ btr x b = true := by
  unfold btr at g ⊢
  rcases hx with rfl | ⟨y, hy, rfl⟩
  · simp at g
  · simp only [Bool.or_eq_true, decide_eq_true_eq, not_or] at g ⊢
    refine ⟨g.1, fun k => g.2 ?_⟩
    rw [nI_lt' (by omega) (by omega)] at k ⊢
    omega
theorem mcheap_in {w : Mem} {S : Ld} {p q b k d n : Nat} {x y X5 X6 X7 x4 : Int32} {s104 : Int32 × Int32 × Int32 × Int32 × Mem → Option (Int32 × Mem)} {s119 : Int32 × Int32 × Int32 × Int32 × Int32 × Mem → Option (Int32 × Mem)} (hn : 999 < n) (hm : isMd w S) (ok : okLd S) (hp : p < Sc S) (hq : q < Sc S) (h0 : ¬ Sw S p q = 0) (hb : b ≤ 20000) (hd : d ≤ 9999) (hk : 1 ≤ k) (hf : ∀ i, 1 ≤ i → i < Sw S p q → (b + Sw S p q - i ≤ d ↔ k ≤ i)) (hx : cpX X5) : iter (bd_X6_cheapest_234 n x y (nI d) x4 s104 s119) n (X5, X6, X7, nI p, nI q, nI (Sw S p q), nI b, 1, w) = if k < Sw S p q ∧ btr X5 (costN S p q k) = true then s119 (nI (costN S p q k), nI (100 * p + q), nI k, nI p, nI (q + 1), w) else s119 (X5, X6, X7, nI p, nI (q + 1), w) := by
  have hw := ok.2.2.2.2.2.1 p q
  refine iter_inv (body := bd_X6_cheapest_234 n x y (nI d) x4 s104 s119) (Sw S p q) (fun i s => 1 ≤ i ∧ s = if k < i ∧ btr X5 (costN S p q k) = true then (nI (costN S p q k), nI (100 * p + q), nI k, nI p, nI q, nI (Sw S p q), nI b, nI i, w) else (X5, X6, X7, nI p, nI q, nI (Sw S p q), nI b, nI i, w)) (fun r => r = if k < Sw S p q ∧ btr X5 (costN S p q k) = true then s119 (nI (costN S p q k), nI (100 * p + q), nI k, nI p, nI (q + 1), w) else s119 (X5, X6, X7, nI p, nI (q + 1), w)) ?_ ?_ n 1 _ (by omega) (by omega) ⟨Nat.le_refl _, by rw [if_neg (by omega)]; rfl⟩
  · intro self i s hi hs
    obtain ⟨hi1, rfl⟩ := hs
    have hci := costN_le ok (p := p) (q := q) (n := i) (by omega)
    have step : ∀ Y5 Y6 Y7 : Int32, bd_X6_cheapest_234 n x y (nI d) x4 s104 s119 self (Y5, Y6, Y7, nI p, nI q, nI (Sw S p q), nI b, nI i, w) = if k ≤ i ∧ btr Y5 (costN S p q i) = true then self (nI (costN S p q i), nI (100 * p + q), nI i, nI p, nI q, nI (Sw S p q), nI b, nI (i + 1), w) else self (Y5, Y6, Y7, nI p, nI q, nI (Sw S p q), nI b, nI (i + 1), w) := by
      intro Y5 Y6 Y7
      unfold bd_X6_cheapest_234 jn_X6_cheapest_277
      dsimp only
      rw [if_neg (show ¬ nI (Sw S p q) ≤ nI i by rw [nI_le' (by omega) (by omega)]; omega), nI_add, nI_sub (by omega)]
      by_cases e1 : k ≤ i
      · rw [if_neg (show ¬ nI d < nI (b + Sw S p q - i) by rw [nI_lt' (by omega) (by omega)]; have := (hf i hi1 hi).mpr e1; omega), mcost_y hm ok hp hq (by omega), bnd_s, nI_s, ix100]
        by_cases e2 : Y5 = -1
        · rw [if_pos e2, if_pos ⟨e1, by unfold btr; simp [e2]⟩]
        · rw [if_neg e2, bnd_s]
          by_cases e3 : nI (costN S p q i) < Y5
          · rw [if_pos e3, mcost_y hm ok hp hq (by omega), bnd_s, if_pos ⟨e1, by unfold btr; simp [e3]⟩]
          · rw [if_neg e3, if_neg (by unfold btr; simp [e2, e3])]
      · rw [if_pos (show nI d < nI (b + Sw S p q - i) by rw [nI_lt' (by omega) (by omega)]; exact Nat.lt_of_not_le (fun g => e1 ((hf i hi1 hi).mp g))), nI_s, if_neg (fun g => e1 g.1)]
    refine .inl ⟨_, ?_, by omega, rfl⟩
    by_cases e : k < i ∧ btr X5 (costN S p q k) = true
    · have hmo := costN_mono (S := S) (p := p) (q := q) (a := k) (b := i) (by omega)
      rw [if_pos e, if_pos ⟨by omega, e.2⟩, step, if_neg (fun g => ?_)]
      have g2 := g.2
      unfold btr at g2
      have hck : costN S p q k ≤ 3000 := by omega
      simp only [Bool.or_eq_true, decide_eq_true_eq] at g2
      rcases g2 with g2 | g2
      · exact nI_nm (by omega) g2
      · rw [nI_lt' (by omega) (by omega)] at g2
        omega
    · rw [if_neg e, step]
      by_cases e1 : k ≤ i
      · by_cases e2 : k = i
        · subst e2
          by_cases e3 : btr X5 (costN S p q k) = true
          · rw [if_pos ⟨e1, e3⟩, if_pos ⟨by omega, e3⟩]
          · rw [if_neg (fun g => e3 g.2), if_neg (fun g => e3 g.2)]
        · have e3 : ¬ btr X5 (costN S p q k) = true := fun g => e ⟨by omega, g⟩
          rw [if_neg (fun g => btr_no hx hci (costN_mono (by omega)) e3 g.2), if_neg (fun g => e3 g.2)]
      · rw [if_neg (fun g => e1 g.1), if_neg (by omega)]
  · intro self s hs
    obtain ⟨hi1, rfl⟩ := hs
    by_cases e : k < Sw S p q ∧ btr X5 (costN S p q k) = true
    · rw [if_pos e, if_pos e]
      unfold bd_X6_cheapest_234
      dsimp only
      rw [if_pos le8, nI_s]
    · rw [if_neg e, if_neg e]
      unfold bd_X6_cheapest_234
      dsimp only
      rw [if_pos le8, nI_s]
theorem cheap_go {t u : Mem} {S : Ld} {x y d n : Nat} {x4 : Int32} (hn : 999 < n) (ok : okLd S) (hG : Gg S t u) (hx : x < Sc S) (hy : y < Sc S) (hd : d < dS S x y) (hd9 : d ≤ 9999) (hv : isLn t 0 (Sc S) (dS S)) : ∃ r t' u', f_X5_cheapestPinch n (nI x) (nI y) (nI d) x4 t = some (r, t') ∧ iter (bd_X6_cheapest_104 n (nI x) (nI y) (nI d) x4) n (-1, -1, -1, 0, u) = some (r, u') ∧ Gg S t' u' := by
  have hc := ok.1
  have hD := dS_le ok.w
  refine iter_pair (b1 := bd_X5_cheapestPinch_12 n (nI x) (nI y) (nI d) x4) (b2 := bd_X6_cheapest_104 n (nI x) (nI y) (nI d) x4) (Sc S) (fun p s1 s2 => ∃ a b e w, s1 = (a, b, e, nI p, t) ∧ s2 = (a, b, e, nI p, w) ∧ cpX a ∧ Gg S t w) (fun r1 r2 => ∃ r t' u', r1 = some (r, t') ∧ r2 = some (r, u') ∧ Gg S t' u') ?_ ?_ n n 0 _ _ (Nat.zero_le _) (by omega) (by omega) ⟨-1, -1, -1, u, rfl, rfl, .inl rfl, hG⟩
  · intro self1 self2 p s1 s2 hp hR
    obtain ⟨a, b, e, w, rfl, rfl, ha, hG'⟩ := hR
    have hin := iter_pair (b1 := bd_X5_cheapestPinch_30 n (nI x) (nI y) (nI d) x4 self1) (b2 := bd_X6_cheapest_119 n (nI x) (nI y) (nI d) x4 self2) (Sc S) (fun q s1 s2 => ∃ a b e w, p < q ∧ s1 = (a, b, e, nI p, nI q, t) ∧ s2 = (a, b, e, nI p, nI q, w) ∧ cpX a ∧ Gg S t w) (fun r1 r2 => ∃ a b e w, r1 = self1 (a, b, e, nI (p + 1), t) ∧ r2 = self2 (a, b, e, nI (p + 1), w) ∧ cpX a ∧ Gg S t w) (fun f1 f2 q a1 a2 hq hR => by
      obtain ⟨a, b, e, w, hpq, rfl, rfl, ha, hG'⟩ := hR
      have hne : ¬ p = q := by omega
      have hw := ok.2.2.2.2.2.1 p q
      have hb := bes_le hD x y p q
      by_cases e0 : Sw S p q = 0
      · refine .inl ⟨(a, b, e, nI p, nI (q + 1), t), (a, b, e, nI p, nI (q + 1), w), ?_, ?_, a, b, e, w, by omega, rfl, rfl, ha, hG'⟩
        · unfold bd_X5_cheapestPinch_30
          dsimp only
          rw [hG.1.1, if_neg (nle8 hq hc), btw_y hG.1 hc hp hq, bnd_s, bes_y hv hc hD hx hy hp hq, bnd_s, nI_s]
          by_cases g : (nI (Sw S p q) + nI (besN (dS S) x y p q)) - nI d < 1
          · rw [if_pos g]
          · rw [if_neg g, if_pos]
            rw [i_lt] at g
            rw [i_le, e0, show (nI 0).toInt = 0 from rfl]
            have : (1 : Int32).toInt = 1 := rfl
            rw [e0] at g
            omega
        · unfold bd_X6_cheapest_119
          dsimp only
          rw [hG'.2.1.1, if_neg (nle8 hq hc), ck_t (inb8' (by omega) (by omega)), clamp8' (by omega) (by omega), hG'.2.1.2.2.2.2.2.2 p q (by omega) (by omega), lti_s, if_neg (by rw [e0]; exact z_nn), nI_s]
      · have hz : ¬ nI (Sw S p q) = 0 := fun g => e0 ((nI_z (by omega)).mp g)
        have hge := bes_ge (x := x) (y := y) ok.w hp hq hne e0
        have hci := fun i h1 h2 => cheap_iff (n := i) ok.w hp hq hne e0 hx hy hd h1 h2
        obtain ⟨u3, u4, l1, l2, l3, l4, l5⟩ := relay_y (x := 0) (n := n) (by omega) hG'.2.1 ok.w hp hq (by omega)
        obtain ⟨u5, m1, m2, m3⟩ := mlay_y (p := p) (q := q) (n := Sw S p q) l3 (by omega) (by omega)
        rw [setW_back (ok.w.2.1 p q)] at m2
        have l4' : isFar u5 (Sc S) (dS (setW S p q 0)) := fun i j hi hj => by rw [m3.1 51 (by decide)]; exact l4 i j hi hj
        have hD0 := dS_le (ok.w.setW (p := p) (q := q) (n := 0) (by omega))
        have hb0 := bes_le hD0 x y p q
        have hG5 : Gg S t u5 := ⟨hG.1, m2, hG'.2.2.two (Fr.rf t []) (l5.trans (m3.mono (by decide))) (by decide) (by decide) (by decide)⟩
        have g1 := hD0 x p
        have g2 := hD0 q y
        have g3 := hD0 x q
        have g4 := hD0 p y
        generalize hk : Sw S p q + besN (dS S) x y p q - d = k
        have hk1 : 1 ≤ k := by omega
        have hf : ∀ i, 1 ≤ i → i < Sw S p q → (besN (dS (setW S p q 0)) x y p q + Sw S p q - i ≤ d ↔ k ≤ i) := by
          intro i h1 h2
          rw [hci i h1 h2]
          omega
        have K2 : bd_X6_cheapest_119 n (nI x) (nI y) (nI d) x4 self2 f2 (a, b, e, nI p, nI q, w) = if k < Sw S p q ∧ btr a (costN S p q k) = true then f2 (nI (costN S p q k), nI (100 * p + q), nI k, nI p, nI (q + 1), u5) else f2 (a, b, e, nI p, nI (q + 1), u5) := by
          unfold bd_X6_cheapest_119
          dsimp only
          rw [hG'.2.1.1, if_neg (nle8 hq hc), ck_t (inb8' (by omega) (by omega)), clamp8' (by omega) (by omega), hG'.2.1.2.2.2.2.2.2 p q (by omega) (by omega), lti_s, if_pos hz, show (0 : Int32) = nI 0 from rfl, l1, bnd_s, l2, bnd_s, m1, bnd_s, ck_t (inb8' (by omega) (by omega)), ck_t (inb8' (by omega) (by omega)), ck_t (inb8' (by omega) (by omega)), ck_t (inb8' (by omega) (by omega)), mfar' l4' hc hx hp, mfar' l4' hc hq hy, mfar' l4' hc hx hq, mfar' l4' hc hp hy, nI_add, nI_add, min_nI (by omega) (by omega), bnp_s]
          exact mcheap_in hn m2 ok hp hq e0 hb0 hd9 hk1 hf ha
        have K1 : bd_X5_cheapestPinch_30 n (nI x) (nI y) (nI d) x4 self1 f1 (a, b, e, nI p, nI q, t) = if k < Sw S p q ∧ btr a (costN S p q k) = true then f1 (nI (costN S p q k), nI (100 * p + q), nI k, nI p, nI (q + 1), t) else f1 (a, b, e, nI p, nI (q + 1), t) := by
          unfold bd_X5_cheapestPinch_30 jn_X5_cheapestPinch_112
          dsimp only
          rw [hG.1.1, if_neg (nle8 hq hc), btw_y hG.1 hc hp hq, bnd_s, bes_y hv hc hD hx hy hp hq, bnd_s, nI_s, nI_add, nI_sub (by omega), hk, if_neg (show ¬ nI k < 1 by rw [show (1 : Int32) = nI 1 from rfl, nI_lt' (by omega) (by omega)]; omega)]
          by_cases g : k < Sw S p q
          · rw [if_neg (show ¬ nI (Sw S p q) ≤ nI k by rw [nI_le' (by omega) (by omega)]; omega), cost_y hG.1 ok hp hq (by omega), bnd_s, ix100]
            by_cases e2 : a = -1
            · rw [if_pos e2, if_pos ⟨g, by unfold btr; simp [e2]⟩]
            · rw [if_neg e2, bnd_s]
              by_cases e3 : a ≤ nI (costN S p q k)
              · rw [if_pos e3, if_neg (by unfold btr; simp [e2, e3])]
              · rw [if_neg e3, cost_y hG.1 ok hp hq (by omega), bnd_s, if_pos ⟨g, by unfold btr; simp [Int32.not_le.mp e3]⟩]
          · rw [if_pos (show nI (Sw S p q) ≤ nI k by rw [nI_le' (by omega) (by omega)]; omega), if_neg (fun h => g h.1)]
        rw [K1, K2]
        by_cases g : k < Sw S p q ∧ btr a (costN S p q k) = true
        · rw [if_pos g, if_pos g]
          exact .inl ⟨_, _, rfl, rfl, _, _, _, _, by omega, rfl, rfl, .inr ⟨_, costN_le ok (by omega), rfl⟩, hG5⟩
        · rw [if_neg g, if_neg g]
          exact .inl ⟨_, _, rfl, rfl, _, _, _, _, by omega, rfl, rfl, ha, hG5⟩) (fun f1 f2 a1 a2 hR => by
      obtain ⟨a, b, e, w, hpq, rfl, rfl, ha, hG'⟩ := hR
      refine ⟨a, b, e, w, ?_, ?_, ha, hG'⟩
      · unfold bd_X5_cheapestPinch_30
        dsimp only
        rw [hG.1.1, if_pos le8, nI_s]
      · unfold bd_X6_cheapest_119
        dsimp only
        rw [hG'.2.1.1, if_pos le8, nI_s]) n n (p + 1) (a, b, e, nI p, nI (p + 1), t) (a, b, e, nI p, nI (p + 1), w) (by omega) (by omega) (by omega) ⟨a, b, e, w, by omega, rfl, rfl, ha, hG'⟩
    obtain ⟨a', b', e', w', g1, g2, ha', hG''⟩ := hin
    refine .inl ⟨_, _, ?_, ?_, a', b', e', w', rfl, rfl, ha', hG''⟩
    · unfold bd_X5_cheapestPinch_12
      dsimp only
      rw [hG.1.1, if_neg (nle8 hp hc), nI_s]
      exact g1
    · unfold bd_X6_cheapest_104
      dsimp only
      rw [hG'.2.1.1, if_neg (nle8 hp hc), nI_s]
      exact g2
  · intro self1 self2 s1 s2 hR
    obtain ⟨a, b, e, w, rfl, rfl, ha, hG'⟩ := hR
    unfold bd_X5_cheapestPinch_12 bd_X6_cheapest_104
    dsimp only
    rw [hG.1.1, hG'.2.1.1, if_pos le8, if_pos le8]
    by_cases e1 : x4 = 0
    · rw [if_pos e1, if_neg (fun g => g e1)]
      exact ⟨_, _, _, rfl, rfl, hG'⟩
    · rw [if_neg e1, if_pos e1]
      by_cases e2 : x4 = 1
      · rw [if_pos e2, if_neg (fun g => g e2)]
        exact ⟨_, _, _, rfl, rfl, hG'⟩
      · rw [if_neg e2, if_pos e2]
        exact ⟨_, _, _, rfl, rfl, hG'⟩
theorem stp22 {n : Nat} (hn : 999 < n) : Stp22 Rel n := fun t u x1 x2 x3 x4 h0 => by
  obtain ⟨S, hl, hm, ok, ho⟩ := id h0
  unfold f_X5_cheapest f_X6_cheapest jn_X6_cheapest_16 jn_X6_cheapest_55 jn_X5_cheapest_29 jn_X5_cheapest_53
  rcases e1 : plc (Sc S) x1 with _ | p
  · rw [hasBoth_n hl ok.1 (.inl e1), bnd_s, if_neg z_nn, isPl_n hm ok.1 e1, bnd_s, if_pos rfl]
    exact fin_no10 1 h0 (by decide) (by decide)
  obtain ⟨rfl, hp⟩ := plc_some e1
  rw [isPl_y hm ok.1 hp, bnd_s, if_neg one_ne]
  rcases e2 : plc (Sc S) x2 with _ | q
  · rw [hasBoth_n hl ok.1 (.inr e2), bnd_s, if_neg z_nn, isPl_n hm ok.1 e2, bnd_s, if_neg z_nn]
    exact fin_no10 1 h0 (by decide) (by decide)
  obtain ⟨rfl, hq⟩ := plc_some e2
  rw [hasBoth_y hl ok.1 hp hq, bnd_s, if_pos one_ne, isPl_y hm ok.1 hq, bnd_s, if_pos one_ne]
  have hc := ok.1
  by_cases e3 : x4 < 0
  · rw [if_pos e3, win_n (.inl e3), bnp_s, if_neg z_nn]
    exact fin_no10 5 h0 (by decide) (by decide)
  by_cases e4 : x4 ≤ 2
  · rw [if_neg e3, if_pos e4, win_y e3 (Int32.not_lt.mpr e4), bnp_s, if_pos one_ne]
    by_cases e5 : nI p = nI q
    · rw [if_pos e5, if_pos e5]
      exact fin_no10 6 h0 (by decide) (by decide)
    rw [if_neg e5, if_neg e5]
    by_cases e6 : x3 < 1
    · rw [if_pos e6, win_n (.inl e6), bnp_s, if_neg z_nn]
      exact fin_no10 6 h0 (by decide) (by decide)
    by_cases e7 : x3 ≤ 9999
    · rw [if_neg e6, if_pos e7, win_y e6 (Int32.not_lt.mpr e7), bnp_s, if_pos one_ne]
      have e8 : ¬ x3.toInt < 1 := fun e => e6 (i_lt.mpr e)
      have e9 : x3.toInt ≤ 9999 := i_le.mp e7
      obtain ⟨d, ed⟩ : ∃ j : Nat, x3.toInt = j := ⟨x3.toInt.toNat, by omega⟩
      have ex : x3 = nI d := Int32.toInt_inj.mp (by rw [nI_toInt (by omega)]; exact ed)
      subst ex
      obtain ⟨v, w, a, b, hl', hm', ho', hv, hw⟩ := both_y (n := n) (by omega) hl hm ok ho
      have hD := dS_le ok.w p q
      rw [a, b, bnd_s, bnd_s, len_y hv hc hp hq, bnd_s, ck_t (inb8' (by omega) (by omega)), mfar' hw hc hp hq]
      by_cases e10 : d < dS S p q
      · rw [if_pos (show nI d < nI (dS S p q) by rw [nI_lt' (by omega) (by omega)]; exact e10), if_pos (show nI d < nI (dS S p q) by rw [nI_lt' (by omega) (by omega)]; exact e10)]
        obtain ⟨r, t', u', g1, g2, g3⟩ := cheap_go (x4 := x4) hn ok ⟨hl', hm', ho'⟩ hp hq e10 (by omega) hv
        rw [g1, bnd_s, g2]
        exact ⟨_, _, _, rfl, rfl, g3.rel ok⟩
      · rw [if_neg (show ¬ nI d < nI (dS S p q) by rw [nI_lt' (by omega) (by omega)]; exact e10), if_neg (show ¬ nI d < nI (dS S p q) by rw [nI_lt' (by omega) (by omega)]; exact e10)]
        by_cases e11 : x4 = 0
        · rw [if_neg (fun g => g e11), if_neg (fun g => g e11)]
          exact ⟨_, _, _, rfl, rfl, S, hl', hm', ok, ho'⟩
        · rw [if_pos e11, if_pos e11]
          exact ⟨_, _, _, rfl, rfl, S, hl', hm', ok, ho'⟩
    · rw [if_neg e6, if_neg e7, win_n (.inr (Int32.not_le.mp e7)), bnp_s, if_neg z_nn]
      exact fin_no10 6 h0 (by decide) (by decide)
  · rw [if_neg e3, if_neg e4, win_n (.inr (Int32.not_le.mp e4)), bnp_s, if_neg z_nn]
    exact fin_no10 5 h0 (by decide) (by decide)
