theorem mso_y {w : Mem} {S' : Ld} {K n : Nat} {T : Nat → Int32} {D : Nat → Nat → Nat} {x1 x2 v4 v5 v6 v7 v8 v9 v10 : Int32} {s41 : Int32 × Int32 × Int32 × Mem → Option (Int32 × Mem)} {s56 : Int32 × Int32 × Int32 × Int32 × Mem → Option (Int32 × Mem)} {s86 : Int32 × Int32 × Int32 × Int32 × Int32 × Int32 × Int32 × Mem → Option (Int32 × Mem)} (hn : 8 < n) (hK : K < 8) (hx : x1 = nI K) (hm : isMd w S') (hc : Sc S' ≤ 8) (hf : isFar w (Sc S') D) (hD : ∀ i j, D i j ≤ 10000) (hU : rwU w K T) : (soP (Sc S') T D ∧ iter (bd_X6_theft_129 n x1 x2 s41 s56 s86) n (v4, v5, v6, v7, v8, v9, v10, 1, 0, w) = s86 (v4, v5, v6, v7, v8, v10, v10 + 1, w)) ∨ (¬ soP (Sc S') T D ∧ iter (bd_X6_theft_129 n x1 x2 s41 s56 s86) n (v4, v5, v6, v7, v8, v9, v10, 1, 0, w) = s86 (v4, v5, v6, v7, v8, v9, v10 + 1, w)) := by
  subst hx
  refine iter_inv (body := bd_X6_theft_129 n (nI K) x2 s41 s56 s86) (Sc S') (fun i s => (s = (v4, v5, v6, v7, v8, v9, v10, 1, nI i, w) ∧ ∀ a b, a < i → a < b → b < Sc S' → T (prN (Sc S') a b) = tellN (D a b)) ∨ (s = (v4, v5, v6, v7, v8, v9, v10, 0, nI i, w) ∧ ¬ soP (Sc S') T D)) (fun x => (soP (Sc S') T D ∧ x = s86 (v4, v5, v6, v7, v8, v10, v10 + 1, w)) ∨ (¬ soP (Sc S') T D ∧ x = s86 (v4, v5, v6, v7, v8, v9, v10 + 1, w))) ?_ ?_ n 0 _ (Nat.zero_le _) (by omega) (.inl ⟨rfl, fun a b h => absurd h (Nat.not_lt_zero a)⟩)
  · intro self i s hi hs
    have hin := fun (fl : Int32) (h : (fl = 1) ∨ (fl = 0 ∧ ¬ soP (Sc S') T D)) => iter_inv (body := bd_X6_theft_144 n (nI K) x2 s41 s56 s86 self) (Sc S') (fun j s => i < j ∧ ((s = (v4, v5, v6, v7, v8, v9, v10, fl, nI i, nI j, w) ∧ ∀ b, i < b → b < j → T (prN (Sc S') i b) = tellN (D i b)) ∨ (s = (v4, v5, v6, v7, v8, v9, v10, 0, nI i, nI j, w) ∧ ¬ soP (Sc S') T D))) (fun y => (y = self (v4, v5, v6, v7, v8, v9, v10, fl, nI (i + 1), w) ∧ ∀ b, i < b → b < Sc S' → T (prN (Sc S') i b) = tellN (D i b)) ∨ (y = self (v4, v5, v6, v7, v8, v9, v10, 0, nI (i + 1), w) ∧ ¬ soP (Sc S') T D)) (fun f j s hj hs => by
      obtain ⟨hij, hs⟩ := hs
      have g := pr_of hc hi hj (show ¬ i = j by omega)
      have st : ∀ fl2, bd_X6_theft_144 n (nI K) x2 s41 s56 s86 self f (v4, v5, v6, v7, v8, v9, v10, fl2, nI i, nI j, w) = if tellN (D i j) = T (prN (Sc S') i j) then f (v4, v5, v6, v7, v8, v9, v10, fl2, nI i, nI (j + 1), w) else f (v4, v5, v6, v7, v8, v9, v10, 0, nI i, nI (j + 1), w) := by
        intro fl2
        unfold bd_X6_theft_144
        dsimp only
        rw [hm.1, if_neg (nle8 hj hc), told_y hf hc (hD i j) hi hj, bnd_s, g.2.1 w hm.1, bnd_s, tld_y hK hU (by have := g.2.2.2; omega), bnd_s, nI_s]
      rcases hs with ⟨rfl, hb⟩ | ⟨rfl, hb⟩
      · rw [st]
        by_cases e : tellN (D i j) = T (prN (Sc S') i j)
        · rw [if_pos e]
          refine .inl ⟨_, rfl, by omega, .inl ⟨rfl, fun b h1 h2 => ?_⟩⟩
          by_cases e10 : b = j
          · rw [e10, e]
          · exact hb b h1 (by omega)
        · rw [if_neg e]
          exact .inl ⟨_, rfl, by omega, .inr ⟨rfl, fun h => e (h i j hij hj).symm⟩⟩
      · rw [st]
        by_cases e : tellN (D i j) = T (prN (Sc S') i j)
        · rw [if_pos e]
          exact .inl ⟨_, rfl, by omega, .inr ⟨rfl, hb⟩⟩
        · rw [if_neg e]
          exact .inl ⟨_, rfl, by omega, .inr ⟨rfl, hb⟩⟩) (fun f s hs => by
      obtain ⟨hij, hs⟩ := hs
      have st : ∀ fl2, bd_X6_theft_144 n (nI K) x2 s41 s56 s86 self f (v4, v5, v6, v7, v8, v9, v10, fl2, nI i, nI (Sc S'), w) = self (v4, v5, v6, v7, v8, v9, v10, fl2, nI (i + 1), w) := by
        intro fl2
        unfold bd_X6_theft_144
        dsimp only
        rw [hm.1, if_pos le8, nI_s]
      rcases hs with ⟨rfl, hb⟩ | ⟨rfl, hb⟩
      · exact .inl ⟨st _, hb⟩
      · exact .inr ⟨st _, hb⟩) n (i + 1) (v4, v5, v6, v7, v8, v9, v10, fl, nI i, nI (i + 1), w) (by omega) (by omega) ⟨by omega, .inl ⟨rfl, fun b h1 h2 => by omega⟩⟩
    have st : ∀ fl2, bd_X6_theft_129 n (nI K) x2 s41 s56 s86 self (v4, v5, v6, v7, v8, v9, v10, fl2, nI i, w) = iter (bd_X6_theft_144 n (nI K) x2 s41 s56 s86 self) n (v4, v5, v6, v7, v8, v9, v10, fl2, nI i, nI (i + 1), w) := by
      intro fl2
      unfold bd_X6_theft_129
      dsimp only
      rw [hm.1, if_neg (nle8 hi hc), nI_s]
    rcases hs with ⟨rfl, ha⟩ | ⟨rfl, ha⟩
    · rw [st]
      rcases hin 1 (.inl rfl) with ⟨e1, e2⟩ | ⟨e1, e2⟩
      · refine .inl ⟨_, e1, .inl ⟨rfl, fun a b h1 h2 h3 => ?_⟩⟩
        by_cases e10 : a = i
        · rw [e10]; exact e2 b (by omega) h3
        · exact ha a b (by omega) h2 h3
      · exact .inl ⟨_, e1, .inr ⟨rfl, e2⟩⟩
    · rw [st]
      rcases hin 0 (.inr ⟨rfl, ha⟩) with ⟨e1, e2⟩ | ⟨e1, e2⟩
      · exact .inl ⟨_, e1, .inr ⟨rfl, ha⟩⟩
      · exact .inl ⟨_, e1, .inr ⟨rfl, ha⟩⟩
  · intro self s hs
    rcases hs with ⟨rfl, ha⟩ | ⟨rfl, ha⟩
    · refine .inl ⟨fun a b h1 h2 => ha a b (by omega) h1 h2, ?_⟩
      unfold bd_X6_theft_129
      dsimp only
      rw [hm.1, if_pos le8, if_neg one_ne]
    · refine .inr ⟨ha, ?_⟩
      unfold bd_X6_theft_129
      dsimp only
      rw [hm.1, if_pos le8, if_pos rfl]
theorem ixt (p q b : Nat) : 10000 * nI p + 100 * nI q + nI b = nI (10000 * p + 100 * q + b) := by
  rw [show (10000 : Int32) = nI 10000 from rfl, show (100 : Int32) = nI 100 from rfl, nI_mul, nI_mul, nI_add, nI_add]
/-- what the reference does behind the pinches of a road -/
def thX (s56 : Int32 × Int32 × Int32 × Int32 × Mem → Option (Int32 × Mem)) (a x : Int32) (p q b : Nat) (w : Mem) : Option (Int32 × Mem) := if b = 0 then s56 (a, x, nI p, nI (q + 1), w) else if x = -1 then s56 (a + 1, nI (10000 * p + 100 * q + b), nI p, nI (q + 1), w) else s56 (a + 1, x, nI p, nI (q + 1), w)
theorem msteal_y {u : Mem} {S : Ld} {K n p q : Nat} {T : Nat → Int32} {x2 a x : Int32} {s41 : Int32 × Int32 × Int32 × Mem → Option (Int32 × Mem)} {s56 : Int32 × Int32 × Int32 × Int32 × Mem → Option (Int32 × Mem)} (hn : 100 < n) (hK : K < 8) (hm : isMd u S) (ok : okLd S) (hU : rwU u K T) (hp : p < Sc S) (hq : q < Sc S) (hpq : p < q) : ∃ b w, iter (bd_X6_theft_86 n (nI K) x2 s41 s56) n (a, x, nI p, nI q, nI (Sw S p q), 0, 1, u) = thX s56 a x p q b w ∧ lst (soN S T p q) (Sw S p q) b ∧ isMd w S ∧ Fr u w [45, 51] := by
  have hc := ok.1
  have hw := ok.2.2.2.2.2.1 p q
  have hne : ¬ p = q := by omega
  have back : ∀ y, setW (setW S p q y) p q (Sw S p q) = S := fun y => setW_back (ok.w.2.1 p q)
  have fin : ∀ (w : Mem) (y b : Nat), isMd w (setW S p q y) → Fr u w [45, 51] → lst (soN S T p q) (Sw S p q) b → ∃ b2 w', jn_X6_theft_207 n (nI K) x2 s41 s56 a x (nI p) (nI q) (nI (Sw S p q)) (nI b) w = thX s56 a x p q b2 w' ∧ lst (soN S T p q) (Sw S p q) b2 ∧ isMd w' S ∧ Fr u w' [45, 51] := by
    intro w y b h1 h2 h3
    obtain ⟨w', c1, c2, c3⟩ := mlay_y (p := p) (q := q) (n := Sw S p q) h1 (by omega) (by omega)
    rw [back] at c2
    refine ⟨b, w', ?_, h3, c2, h2.trans (c3.mono (by decide))⟩
    have hb : b ≤ 99 := by
      rcases h3 with ⟨h, _⟩ | ⟨_, h, _⟩ <;> omega
    unfold jn_X6_theft_207 thX
    rw [c1, bnd_s, nI_s]
    by_cases e : b = 0
    · rw [if_pos e, if_neg (by rw [e]; exact z_nn)]
    · rw [if_neg e, if_pos (show ¬ nI b = 0 from fun g => e ((nI_z (by omega)).mp g))]
      by_cases e2 : x = -1
      · rw [if_pos e2, if_neg (fun g => g e2), ixt, lti_s]
      · rw [if_neg e2, if_pos e2]
  refine iter_inv (body := bd_X6_theft_86 n (nI K) x2 s41 s56) 100 (fun i s => 1 ≤ i ∧ ∃ w y b, s = (a, x, nI p, nI q, nI (Sw S p q), nI b, nI i, w) ∧ isMd w (setW S p q y) ∧ Fr u w [45, 51] ∧ ((b = 0 ∧ ∀ k, 1 ≤ k → k < i → k < Sw S p q → ¬ soN S T p q k) ∨ (1 ≤ b ∧ b ≤ 99 ∧ b < Sw S p q ∧ soN S T p q b ∧ ∀ k, 1 ≤ k → k < b → ¬ soN S T p q k))) (fun r => ∃ b w, r = thX s56 a x p q b w ∧ lst (soN S T p q) (Sw S p q) b ∧ isMd w S ∧ Fr u w [45, 51]) ?_ ?_ n 1 _ (by omega) (by omega) ⟨Nat.le_refl _, u, Sw S p q, 0, rfl, ?_, Fr.rf _ _, .inl ⟨rfl, fun k h1 h2 => by omega⟩⟩
  · intro self i s hi hs
    obtain ⟨hi1, w, y, b, rfl, hmw, hF, hb⟩ := hs
    have e100 : ¬ (100 : Int32) ≤ nI i := by rw [show (100 : Int32) = nI 100 from rfl, nI_le' (by omega) (by omega)]; omega
    rcases hb with ⟨rfl, hb⟩ | hb
    · by_cases e : Sw S p q ≤ i
      · right
        unfold bd_X6_theft_86
        dsimp only
        rw [if_neg e100, if_pos (show nI (Sw S p q) ≤ nI i by rw [nI_le' (by omega) (by omega)]; exact e)]
        exact fin w y 0 hmw hF (.inl ⟨rfl, fun k h1 h2 h3 => hb k h1 (by omega) h3⟩)
      · left
        have hW : okW (setW S p q y) ∨ True := .inr trivial
        obtain ⟨u3, b1, b2, b3⟩ := mlay_y (p := p) (q := q) (n := Sw S p q - i) hmw (by omega) (by omega)
        have es : setW (setW S p q y) p q (Sw S p q - i) = setW S p q (Sw S p q - i) := by
          have : (fun i' j' => if (i' = p ∧ j' = q) ∨ (i' = q ∧ j' = p) then Sw S p q - i else Sw (setW S p q y) i' j') = fun i' j' => if (i' = p ∧ j' = q) ∨ (i' = q ∧ j' = p) then Sw S p q - i else Sw S i' j' := by
            funext i' j'
            by_cases g : (i' = p ∧ j' = q) ∨ (i' = q ∧ j' = p)
            · rw [if_pos g, if_pos g]
            · rw [if_neg g, if_neg g]
              exact if_neg g
          unfold setW at this ⊢
          show (Sc S, Sk S, Sm S, _, Sf S, Sd S, Se S) = (Sc S, Sk S, Sm S, _, Sf S, Sd S, Se S)
          rw [this]
        rw [es] at b2
        have hW2 := ok.w.setW (p := p) (q := q) (n := Sw S p q - i) (by omega)
        obtain ⟨u4, c1, c2, c3⟩ := walk_y (n := n) (by omega) b2 hW2
        have hm4 := b2.fr c2 (by decide) (by decide) (by decide) (by decide)
        have hF4 : Fr u u4 [45, 51] := (hF.trans (b3.mono (by decide))).trans (c2.mono (by decide))
        have st : bd_X6_theft_86 n (nI K) x2 s41 s56 self (a, x, nI p, nI q, nI (Sw S p q), nI 0, nI i, w) = iter (bd_X6_theft_129 n (nI K) x2 s41 s56 self) n (a, x, nI p, nI q, nI (Sw S p q), 0, nI i, 1, 0, u4) := by
          unfold bd_X6_theft_86
          dsimp only
          rw [if_neg e100, if_neg (show ¬ nI (Sw S p q) ≤ nI i by rw [nI_le' (by omega) (by omega)]; exact e), if_neg (show ¬ ¬ nI 0 = 0 from z_nn), nI_sub (by omega), b1, bnd_s, c1, bnd_s]
          rfl
        rw [st]
        rcases mso_y (n := n) (x1 := nI K) (x2 := x2) (v4 := a) (v5 := x) (v6 := nI p) (v7 := nI q) (v8 := nI (Sw S p q)) (v9 := 0) (v10 := nI i) (s41 := s41) (s56 := s56) (s86 := self) (by omega) hK rfl hm4 hc c3 (dS_le hW2) (hU.fr hF4.2) with ⟨g1, g2⟩ | ⟨g1, g2⟩
        · exact ⟨_, by rw [g2, nI_s], by omega, u4, _, i, rfl, hm4, hF4, .inr ⟨hi1, by omega, by omega, g1, fun k h1 h2 => hb k h1 h2 (by omega)⟩⟩
        · refine ⟨_, by rw [g2, nI_s]; rfl, by omega, u4, _, 0, rfl, hm4, hF4, .inl ⟨rfl, fun k h1 h2 h3 => ?_⟩⟩
          by_cases e9 : k = i
          · rw [e9]; exact g1
          · exact hb k h1 (by omega) h3
    · right
      obtain ⟨b1, b2, b3, b4, b5⟩ := id hb
      unfold bd_X6_theft_86
      dsimp only
      rw [if_neg e100, if_pos (show ¬ nI b = 0 from fun g => by have := (nI_z (by omega)).mp g; omega)]
      split
      · exact fin w y b hmw hF (.inr hb)
      · exact fin w y b hmw hF (.inr hb)
  · intro self s hs
    obtain ⟨hi1, w, y, b, rfl, hmw, hF, hb⟩ := hs
    unfold bd_X6_theft_86
    dsimp only
    rw [if_pos (show (100 : Int32) ≤ nI 100 from le8)]
    rcases hb with ⟨rfl, hb⟩ | hb
    · exact fin w y 0 hmw hF (.inl ⟨rfl, fun k h1 h2 h3 => hb k h1 (by omega) h3⟩)
    · exact fin w y b hmw hF (.inr hb)
  · have : setW S p q (Sw S p q) = S := by
      have e := back (Sw S p q)
      have e2 : setW (setW S p q (Sw S p q)) p q (Sw S p q) = setW S p q (Sw S p q) := by
        have : (fun i' j' => if (i' = p ∧ j' = q) ∨ (i' = q ∧ j' = p) then Sw S p q else Sw (setW S p q (Sw S p q)) i' j') = fun i' j' => if (i' = p ∧ j' = q) ∨ (i' = q ∧ j' = p) then Sw S p q else Sw S i' j' := by
          funext i' j'
          by_cases g : (i' = p ∧ j' = q) ∨ (i' = q ∧ j' = p)
          · rw [if_pos g, if_pos g]
          · rw [if_neg g, if_neg g]
            exact if_neg g
        unfold setW at this ⊢
        show (Sc S, Sk S, Sm S, _, Sf S, Sd S, Se S) = (Sc S, Sk S, Sm S, _, Sf S, Sd S, Se S)
        rw [this]
      rw [← e2, e]
    rw [this]
    exact hm
def thR (a x : Int32) (M : Nat) : Prop := (a = 0 ∧ x = -1) ∨ ∃ m y, 1 ≤ m ∧ m ≤ M ∧ y ≤ 100000 ∧ a = nI m ∧ x = nI y
theorem stp30 {n : Nat} (hn : 100 < n) : Stp30 Rel n := fun t u x1 x2 h0 => by
  obtain ⟨S, hl, hm, ok, ho⟩ := id h0
  have hc := ok.1
  unfold f_X5_theft f_X6_theft jn_X5_theft_27 jn_X5_theft_31
  rcases tabp x1 hl hm ok ho with ⟨s, k, k1, k2, a, b, c⟩ | ⟨K, hK, m, T, rfl, hm2, hm3, a, b, c, hT, hU⟩
  · rw [a, bnd_s, b, bnd_s, c, bnd_s, if_pos (ng_ne k1 k2), if_neg (ng_ne k1 k2), if_neg (ng_lt k1 k2)]
    exact fin_no k h0 k1 k2
  rw [a, bnd_s, b, bnd_s, c, bnd_s, if_neg z_nn, if_pos (show (0 : Int32) ≤ 0 by decide)]
  by_cases e3 : x2 < 0
  · rw [if_pos e3, win_n (.inl e3), bnp_s, if_neg z_nn, if_neg (by decide)]
    exact fin_no 5 h0 (by decide) (by decide)
  by_cases e4 : x2 ≤ 1
  · rw [if_neg e3, if_pos e4, win_y e3 (Int32.not_lt.mpr e4), bnp_s, if_pos one_ne, if_pos rfl]
    obtain ⟨v, v1, v2, v3⟩ := measure_y (n := n) (J := 0) (by omega) hl ok.w
    rw [v1, bnd_s]
    have hlv := hl.lc v2
    have hTv : rwT v K m T := hT.fr (v2.1 _ (sh_n hK (by decide))) v2.2
    refine iter_pair (b1 := bd_X5_theft_63 n (nI K) x2) (b2 := bd_X6_theft_41 n (nI K) x2) (Sc S) (fun p s1 s2 => ∃ a x w, s1 = (some ⟨K, hK⟩, a, x, nI p, v) ∧ s2 = (a, x, nI p, w) ∧ thR a x (8 * p) ∧ isMd w S ∧ Fr u w [45, 51]) (fun r1 r2 => ∃ r t' u', r1 = some (r, t') ∧ r2 = some (r, u') ∧ Rel t' u') ?_ ?_ n n 0 _ _ (Nat.zero_le _) (by omega) (by omega) ⟨0, -1, u, rfl, rfl, .inl ⟨rfl, rfl⟩, hm, Fr.rf _ _⟩
    · intro s1 s2 p y1 y2 hp hR
      obtain ⟨a, x, w, rfl, rfl, hax, hmw, hF⟩ := hR
      have hin := iter_pair (b1 := bd_X5_theft_81 n (nI K) x2 s1) (b2 := bd_X6_theft_56 n (nI K) x2 s2) (Sc S) (fun q s1 s2 => ∃ a x w, p < q ∧ s1 = (some ⟨K, hK⟩, a, x, nI p, nI q, v) ∧ s2 = (a, x, nI p, nI q, w) ∧ thR a x (8 * p + q) ∧ isMd w S ∧ Fr u w [45, 51]) (fun r1 r2 => ∃ a x w, r1 = s1 (some ⟨K, hK⟩, a, x, nI (p + 1), v) ∧ r2 = s2 (a, x, nI (p + 1), w) ∧ thR a x (8 * (p + 1)) ∧ isMd w S ∧ Fr u w [45, 51]) (fun f1 f2 q a1 a2 hq hR => by
        obtain ⟨a, x, w, hpq, rfl, rfl, hax, hmw, hF⟩ := hR
        obtain ⟨b, c1, c2⟩ := stolen_y (n := n) (by omega) hK hlv ok v3 hTv hm2 hm3 hp hq hpq
        obtain ⟨b', w', d1, d2, d3, d4⟩ := msteal_y (n := n) (x2 := x2) (a := a) (x := x) (s41 := s2) (s56 := f2) hn hK hmw ok (hU.fr hF.2) hp hq hpq
        have eb := lst_eq c2 d2
        subst eb
        have hb : b ≤ 99 := by
          rcases c2 with ⟨h, _⟩ | ⟨_, h, _⟩ <;> omega
        have K2 : bd_X6_theft_56 n (nI K) x2 s2 f2 (a, x, nI p, nI q, w) = thX f2 a x p q b w' := by
          unfold bd_X6_theft_56
          dsimp only
          rw [hmw.1, if_neg (nle8 hq hc), ck_t (inb8' (by omega) (by omega)), clamp8' (by omega) (by omega), hmw.2.2.2.2.2.2 p q (by omega) (by omega), lti_s]
          exact d1
        have K1 : bd_X5_theft_81 n (nI K) x2 s1 f1 (some ⟨K, hK⟩, a, x, nI p, nI q, v) = if nI b = 0 then f1 (some ⟨K, hK⟩, a, x, nI p, nI (q + 1), v) else if ¬ a = 0 then f1 (some ⟨K, hK⟩, a + 1, x, nI p, nI (q + 1), v) else f1 (some ⟨K, hK⟩, a + 1, nI (10000 * p + 100 * q + b), nI p, nI (q + 1), v) := by
          unfold bd_X5_theft_81
          dsimp only
          rw [hlv.1, if_neg (nle8 hq hc), nn_s, c1, bnd_s, ixt, lti_s, nI_s]
        rw [K1, K2]
        unfold thX
        by_cases e : b = 0
        · rw [if_pos e, if_pos (by rw [e]; rfl)]
          refine .inl ⟨_, _, rfl, rfl, a, x, w', by omega, rfl, rfl, ?_, d3, hF.trans d4⟩
          rcases hax with h | ⟨m', y, h1, h2, h3⟩
          · exact .inl h
          · exact .inr ⟨m', y, h1, by omega, h3⟩
        · rw [if_neg e, if_neg (fun g => e ((nI_z (by omega)).mp g))]
          rcases hax with ⟨rfl, rfl⟩ | ⟨m', y, h1, h2, h3, rfl, rfl⟩
          · rw [if_pos rfl, if_neg (fun g => g rfl)]
            exact .inl ⟨_, _, rfl, rfl, _, _, w', by omega, rfl, rfl, .inr ⟨1, 10000 * p + 100 * q + b, by omega, by omega, by omega, rfl, rfl⟩, d3, hF.trans d4⟩
          · rw [if_neg (nI_nm (by omega)), if_pos (show ¬ nI m' = 0 from fun g => by have := (nI_z (by omega)).mp g; omega)]
            exact .inl ⟨_, _, rfl, rfl, _, _, w', by omega, rfl, rfl, .inr ⟨m' + 1, y, by omega, by omega, h3, by rw [nI_s], rfl⟩, d3, hF.trans d4⟩) (fun f1 f2 a1 a2 hR => by
        obtain ⟨a, x, w, hpq, rfl, rfl, hax, hmw, hF⟩ := hR
        refine ⟨a, x, w, ?_, ?_, ?_, hmw, hF⟩
        · unfold bd_X5_theft_81
          dsimp only
          rw [hlv.1, if_pos le8, nI_s]
        · unfold bd_X6_theft_56
          dsimp only
          rw [hmw.1, if_pos le8, nI_s]
        · rcases hax with h | ⟨m', y, h1, h2, h3⟩
          · exact .inl h
          · exact .inr ⟨m', y, h1, by omega, h3⟩) n n (p + 1) (some ⟨K, hK⟩, a, x, nI p, nI (p + 1), v) (a, x, nI p, nI (p + 1), w) (by omega) (by omega) (by omega) ⟨a, x, w, by omega, rfl, rfl, by
          rcases hax with h | ⟨m', y, h1, h2, h3⟩
          · exact .inl h
          · exact .inr ⟨m', y, h1, by omega, h3⟩, hmw, hF⟩
      obtain ⟨a', x', w', g1, g2, g3, g4, g5⟩ := hin
      refine .inl ⟨_, _, ?_, ?_, a', x', w', rfl, rfl, g3, g4, g5⟩
      · unfold bd_X5_theft_63
        dsimp only
        rw [hlv.1, if_neg (nle8 hp hc), nI_s]
        exact g1
      · unfold bd_X6_theft_41
        dsimp only
        rw [hmw.1, if_neg (nle8 hp hc), nI_s]
        exact g2
    · intro s1 s2 y1 y2 hR
      obtain ⟨a, x, w, rfl, rfl, hax, hmw, hF⟩ := hR
      have hR : Rel v w := ⟨S, hlv, hmw, ok, ho.two v2 hF (lc_k 0) (by decide) (by decide)⟩
      unfold bd_X5_theft_63 bd_X6_theft_41
      dsimp only
      rw [hlv.1, hmw.1, if_pos le8, if_pos le8]
      by_cases e : x2 = 0
      · rw [if_neg (fun g => g e), if_neg (fun g => g e)]
        exact ⟨_, _, _, rfl, rfl, hR⟩
      · rw [if_pos e, if_pos e]
        rcases hax with ⟨rfl, rfl⟩ | ⟨m', y, h1, h2, h3, rfl, rfl⟩
        · rw [if_neg (fun g => g rfl), if_neg (fun g => g rfl)]
          exact fin_no 5 hR (by decide) (by decide)
        · rw [if_pos (nI_nm (by omega)), if_pos (show ¬ nI m' = 0 from fun g => by have := (nI_z (by omega)).mp g; omega)]
          exact ⟨_, _, _, rfl, rfl, hR⟩
  · rw [if_neg e3, if_neg e4, win_n (.inr (Int32.not_le.mp e4)), bnp_s, if_neg z_nn, if_neg (by decide)]
    exact fin_no 5 h0 (by decide) (by decide)
