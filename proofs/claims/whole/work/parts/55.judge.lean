/-! layer 2: told tables -/
def prL (c a b : Nat) : Nat := a * c - a * (a + 1) / 2 + b - a - 1
def prN (c p q : Nat) : Nat := prL c (min p q) (max p q)
theorem pr_all : ∀ c : Fin 9, ∀ a b : Fin 8, a.val < b.val → b.val < c.val → (((nI a.val * nI c.val - (nI a.val * (nI a.val + 1)) / 2) + nI b.val) - nI a.val) - 1 = nI (prL c.val a.val b.val) ∧ ((((nI a.val * (((2 * nI c.val) - nI a.val) - 1)) / 2) + nI b.val) - nI a.val) - 1 = nI (prL c.val a.val b.val) ∧ prL c.val a.val b.val < c.val * (c.val - 1) / 2 ∧ prL c.val a.val b.val < 28 := by decide +kernel
theorem pr_of {c p q : Nat} (hc : c ≤ 8) (hp : p < c) (hq : q < c) (h : ¬ p = q) : f_X5_pairOf (nI p) (nI q) (nI c) = some (nI (prN c p q)) ∧ (∀ u : Mem, u.1 39 3 = nI c → f_X6_pair (nI p) (nI q) u = some (nI (prN c p q), u)) ∧ prN c p q < c * (c - 1) / 2 ∧ prN c p q < 28 := by
  have g := pr_all ⟨c, by omega⟩ ⟨min p q, by omega⟩ ⟨max p q, by omega⟩ (by show min p q < max p q; omega) (by show max p q < c; omega)
  refine ⟨?_, fun u hu => ?_, g.2.2⟩
  · unfold f_X5_pairOf
    rw [min_nI (by omega) (by omega), bnp_s, cost_max (by omega) (by omega), bnp_s, g.1]
    rfl
  · unfold f_X6_pair
    rw [hu, min_nI (by omega) (by omega), bnp_s, cost_max (by omega) (by omega), bnp_s, g.2.1]
    rfl
def prsN (c : Nat) : Nat := c * (c - 1) / 2
theorem prs_all : ∀ c : Fin 9, (nI c.val * (nI c.val - 1)) / 2 = nI (prsN c.val) ∧ prsN c.val ≤ 28 := by decide +kernel
theorem prs_y {c : Nat} (hc : c ≤ 8) : (nI c * (nI c - 1)) / 2 = nI (prsN c) ∧ prsN c ≤ 28 := prs_all ⟨c, by omega⟩
/-- what a call that asks for a table meets -/
theorem tabp {t u : Mem} {S : Ld} (x : Int32) (hl : isLd t 0 S) (hm : isMd u S) (ok : okLd S) (ho : Oth (Sc S) t u) : (∃ s k, 1 ≤ k ∧ k < 8 ∧ f_X5_shelfAt x t = some (s, t) ∧ f_X5_tableProblem s t = some (-nI k, t) ∧ f_X6_noTable x u = some (-nI k, u)) ∨ ∃ (K : Nat) (hK : K < 8) (m : Nat) (T : Nat → Int32), x = nI K ∧ m ≤ 160 ∧ prsN (Sc S) ≤ m ∧ f_X5_shelfAt x t = some (some ⟨K, hK⟩, t) ∧ f_X5_tableProblem (some ⟨K, hK⟩) t = some (0, t) ∧ f_X6_noTable x u = some (0, u) ∧ rwT t K m T ∧ rwU u K T := by
  have hc := ok.1
  rcases rowp x ok ho with ⟨s, k, k1, k2, a, b, c⟩ | ⟨K, hK, m, T, rfl, hm2, a, b, c, d, hT, hU⟩
  · refine .inl ⟨s, k, k1, by omega, a, ?_, ?_⟩
    · unfold f_X5_tableProblem
      rw [b, bnd_s, if_pos (ng_ne k1 (by omega))]
    · unfold f_X6_noTable
      rw [c, bnd_s, if_neg (ng_lt k1 (by omega))]
  have hp := prs_y hc
  have hC : f_X5_tableProblem (some ⟨K, hK⟩) t = if nI (prsN (Sc S)) ≤ nI m then some (0, t) else some (-5, t) := by
    unfold f_X5_tableProblem f_X5_pairsOf
    rw [b, bnd_s, if_neg z_nn, nn_s, hl.1, bnp_s, hp.1, show t.1 (oSh ⟨K, hK⟩) 1 = nI m from hT.1]
  have hM : f_X6_noTable (nI K) u = if nI (prsN (Sc S)) ≤ nI m then some (0, u) else some (-5, u) := by
    unfold f_X6_noTable f_X6_pairs
    rw [c, bnd_s, if_pos (by decide), ck_t (inb_nI hK (by decide)), bnd_s, hm.1, hp.1, nI_clamp (by omega), d]
  by_cases e : prsN (Sc S) ≤ m
  · rw [if_pos (by rw [nI_le' (by omega) (by omega)]; exact e)] at hC hM
    exact .inr ⟨K, hK, m, T, rfl, hm2, e, a, hC, hM, hT, hU⟩
  · rw [if_neg (by rw [nI_le' (by omega) (by omega)]; exact e)] at hC hM
    exact .inl ⟨_, 5, by omega, by omega, a, hC, hM⟩
def exB (f : Nat → Bool) : Nat → Bool
  | 0 => false
  | r + 1 => exB f r || f r
theorem ex_true {f : Nat → Bool} {r : Nat} : ∀ c, r < c → f r = true → exB f c = true
  | 0, h, _ => absurd h (Nat.not_lt_zero r)
  | c + 1, h, g => by
    unfold exB
    by_cases e : r = c
    · rw [← e, g, Bool.or_true]
    · rw [ex_true c (by omega) g, Bool.true_or]
/-- whether a third place is wrong for a pair -/
def thB (c : Nat) (T : Nat → Int32) (p q r : Nat) : Bool := !decide (r = p) && !decide (r = q) && !decide ((T (prN c p q)).toInt64 ≤ (T (prN c p r)).toInt64 + (T (prN c r q)).toInt64)
theorem wrong_y {t : Mem} {S : Ld} {K m n p q : Nat} {T : Nat → Int32} (hn : 8 < n) (hK : K < 8) (hl : isLd t 0 S) (hc : Sc S ≤ 8) (hT : rwT t K m T) (hm2 : m ≤ 160) (hm3 : prsN (Sc S) ≤ m) (hp : p < Sc S) (hq : q < Sc S) (hpq : ¬ p = q) : f_X5_isWrongInTable n ⟨K, hK⟩ (nI p) (nI q) t = if 0 ≤ lg_cmp (T (prN (Sc S) p q)).toInt64 1 then some (bI (exB (thB (Sc S) T p q) (Sc S)), t) else some (1, t) := by
  have g := pr_of hc hp hq hpq
  have g3 : prN (Sc S) p q < prsN (Sc S) := g.2.2.1
  unfold f_X5_isWrongInTable
  rw [hl.1, g.1, bnp_s, asI_y hK hT hm2 (by omega), bnd_s]
  by_cases e0 : 0 ≤ lg_cmp (T (prN (Sc S) p q)).toInt64 1
  · rw [if_pos e0, if_pos e0]
    refine iter_inv (body := bd_X5_isWrongInTable_31 n ⟨K, hK⟩ (nI p) (nI q)) (Sc S) (fun r s => s = ((T (prN (Sc S) p q)).toInt64, nI r, t) ∧ exB (thB (Sc S) T p q) r = false) (fun x => x = some (bI (exB (thB (Sc S) T p q) (Sc S)), t)) ?_ ?_ n 0 _ (Nat.zero_le _) (by omega) ⟨rfl, rfl⟩
    · intro self r s hr hs
      obtain ⟨rfl, hb⟩ := hs
      unfold bd_X5_isWrongInTable_31
      dsimp only
      rw [hl.1, if_neg (nle8 hr hc)]
      by_cases e1 : r = p
      · rw [if_pos (by rw [e1]), nI_s]
        exact .inl ⟨_, rfl, rfl, by unfold exB; rw [hb]; unfold thB; simp [e1]⟩
      rw [if_neg (nI_ne (by omega) (by omega) e1)]
      by_cases e2 : r = q
      · rw [if_pos (by rw [e2]), nI_s]
        exact .inl ⟨_, rfl, rfl, by unfold exB; rw [hb]; unfold thB; simp [e2]⟩
      have g1 := pr_of hc hp hr (fun e => e1 e.symm)
      have g2 := pr_of hc hr hq e2
      have g13 : prN (Sc S) p r < prsN (Sc S) := g1.2.2.1
      have g23 : prN (Sc S) r q < prsN (Sc S) := g2.2.2.1
      rw [if_neg (nI_ne (by omega) (by omega) e2), g1.1, bnp_s, asI_y hK hT hm2 (by omega), bnd_s, hl.1, g2.1, bnp_s, asI_y hK hT hm2 (by omega), bnd_s]
      by_cases e3 : (T (prN (Sc S) p q)).toInt64 ≤ (T (prN (Sc S) p r)).toInt64 + (T (prN (Sc S) r q)).toInt64
      · rw [if_pos ((lg_cmp_le _ _).mpr e3), nI_s]
        exact .inl ⟨_, rfl, rfl, by unfold exB; rw [hb]; unfold thB; simp [e3]⟩
      · rw [if_neg (fun h => e3 ((lg_cmp_le _ _).mp h))]
        have : exB (thB (Sc S) T p q) (Sc S) = true := ex_true _ hr (by unfold thB; simp [e1, e2, e3])
        exact .inr (by rw [this]; rfl)
    · intro self s hs
      obtain ⟨rfl, hb⟩ := hs
      unfold bd_X5_isWrongInTable_31
      dsimp only
      rw [hl.1, if_pos le8, hb]
      rfl
  · rw [if_neg e0, if_neg e0]
theorem mwrong_y {u : Mem} {S : Ld} {K n p q : Nat} {T : Nat → Int32} {s18 : Int32 × Mem → Option (Int32 × Mem)} {s31 : Int32 × Int32 × Mem → Option (Int32 × Mem)} (hn : 8 < n) (hK : K < 8) (hm : isMd u S) (hc : Sc S ≤ 8) (hU : rwU u K T) (hp : p < Sc S) (hq : q < Sc S) (hpq : ¬ p = q) : iter (bd_X6_judge_73 n (nI K) s18 s31) n (nI p, nI q, (T (prN (Sc S) p q)).toInt64, 0, u) = if exB (thB (Sc S) T p q) (Sc S) = true then some (nI (prN (Sc S) p q), u) else s31 (nI p, nI (q + 1), u) := by
  have g := pr_of hc hp hq hpq
  refine iter_inv (body := bd_X6_judge_73 n (nI K) s18 s31) (Sc S) (fun r s => s = (nI p, nI q, (T (prN (Sc S) p q)).toInt64, nI r, u) ∧ exB (thB (Sc S) T p q) r = false) (fun x => x = if exB (thB (Sc S) T p q) (Sc S) = true then some (nI (prN (Sc S) p q), u) else s31 (nI p, nI (q + 1), u)) ?_ ?_ n 0 _ (Nat.zero_le _) (by omega) ⟨rfl, rfl⟩
  · intro self r s hr hs
    obtain ⟨rfl, hb⟩ := hs
    unfold bd_X6_judge_73
    dsimp only
    rw [hm.1, if_neg (nle8 hr hc)]
    by_cases e1 : r = p
    · rw [if_pos (by rw [e1]), nI_s]
      exact .inl ⟨_, rfl, rfl, by unfold exB; rw [hb]; unfold thB; simp [e1]⟩
    rw [if_neg (nI_ne (by omega) (by omega) e1)]
    by_cases e2 : r = q
    · rw [if_pos (by rw [e2]), nI_s]
      exact .inl ⟨_, rfl, rfl, by unfold exB; rw [hb]; unfold thB; simp [e2]⟩
    have g1 := pr_of hc hp hr (fun e => e1 e.symm)
    have g2 := pr_of hc hr hq e2
    rw [if_neg (nI_ne (by omega) (by omega) e2), g1.2.1 u hm.1, bnd_s, tld_y hK hU (by have := g1.2.2.2; omega), bnd_s, g2.2.1 u hm.1, bnd_s, tld_y hK hU (by have := g2.2.2.2; omega), bnd_s]
    by_cases e3 : (T (prN (Sc S) p q)).toInt64 ≤ (T (prN (Sc S) p r)).toInt64 + (T (prN (Sc S) r q)).toInt64
    · rw [if_pos ((lg_cmp_le _ _).mpr e3), nI_s]
      exact .inl ⟨_, rfl, rfl, by unfold exB; rw [hb]; unfold thB; simp [e3]⟩
    · rw [if_neg (fun h => e3 ((lg_cmp_le _ _).mp h)), g.2.1 u hm.1, bnd_s]
      have : exB (thB (Sc S) T p q) (Sc S) = true := ex_true _ hr (by unfold thB; simp [e1, e2, e3])
      exact .inr (by rw [if_pos this])
  · intro self s hs
    obtain ⟨rfl, hb⟩ := hs
    unfold bd_X6_judge_73
    dsimp only
    rw [hm.1, if_pos le8, hb, nI_s, if_neg (by decide)]
theorem stp25 {n : Nat} (hn : 8 < n) : Stp25 Rel n := fun t u x1 h0 => by
  obtain ⟨S, hl, hm, ok, ho⟩ := id h0
  have hc := ok.1
  unfold f_X5_judge f_X6_judge
  rcases tabp x1 hl hm ok ho with ⟨s, k, k1, k2, a, b, c⟩ | ⟨K, hK, m, T, rfl, hm2, hm3, a, b, c, hT, hU⟩
  · rw [a, bnd_s, b, bnd_s, c, bnd_s, if_neg (ng_ne k1 k2), if_neg (ng_lt k1 k2)]
    exact fin_no10 k h0 k1 k2
  rw [a, bnd_s, b, bnd_s, c, bnd_s, if_pos rfl, if_pos (by decide)]
  refine iter_pair (b1 := bd_X5_judge_25 n (nI K)) (b2 := bd_X6_judge_18 n (nI K)) (Sc S) (fun p s1 s2 => s1 = (some ⟨K, hK⟩, nI p, t) ∧ s2 = (nI p, u)) (fun r1 r2 => ∃ r t' u', r1 = some (r, t') ∧ r2 = some (r, u') ∧ Rel t' u') ?_ ?_ n n 0 _ _ (Nat.zero_le _) (by omega) (by omega) ⟨rfl, rfl⟩
  · intro s1 s2 p y1 y2 hp hR
    obtain ⟨rfl, rfl⟩ := hR
    have hin := iter_pair (b1 := bd_X5_judge_43 n (nI K) s1) (b2 := bd_X6_judge_31 n (nI K) s2) (Sc S) (fun q a1 a2 => p < q ∧ a1 = (some ⟨K, hK⟩, nI p, nI q, t) ∧ a2 = (nI p, nI q, u)) (fun r1 r2 => (r1 = s1 (some ⟨K, hK⟩, nI (p + 1), t) ∧ r2 = s2 (nI (p + 1), u)) ∨ ∃ r t' u', r1 = some (r, t') ∧ r2 = some (r, u') ∧ Rel t' u') (fun f1 f2 q a1 a2 hq hR => by
      obtain ⟨hpq, rfl, rfl⟩ := hR
      have hne : ¬ p = q := by omega
      have g := pr_of hc hp hq hne
      have K1 : bd_X5_judge_43 n (nI K) s1 f1 (some ⟨K, hK⟩, nI p, nI q, t) = if 0 ≤ lg_cmp (T (prN (Sc S) p q)).toInt64 1 then (if exB (thB (Sc S) T p q) (Sc S) = true then some (nI (prN (Sc S) p q), t) else f1 (some ⟨K, hK⟩, nI p, nI (q + 1), t)) else some (nI (prN (Sc S) p q), t) := by
        unfold bd_X5_judge_43
        dsimp only
        rw [hl.1, if_neg (nle8 hq hc), nn_s, wrong_y hn hK hl hc hT hm2 hm3 hp hq hne]
        by_cases e0 : 0 ≤ lg_cmp (T (prN (Sc S) p q)).toInt64 1
        · rw [if_pos e0, if_pos e0, bnd_s, bI_it, hl.1, g.1, bnp_s, nI_s]
        · rw [if_neg e0, if_neg e0, bnd_s, if_neg one_ne, hl.1, g.1, bnp_s]
      have K2 : bd_X6_judge_31 n (nI K) s2 f2 (nI p, nI q, u) = if 0 ≤ lg_cmp (T (prN (Sc S) p q)).toInt64 1 then (if exB (thB (Sc S) T p q) (Sc S) = true then some (nI (prN (Sc S) p q), u) else f2 (nI p, nI (q + 1), u)) else some (nI (prN (Sc S) p q), u) := by
        unfold bd_X6_judge_31
        dsimp only
        rw [hm.1, if_neg (nle8 hq hc), g.2.1 u hm.1, bnd_s, tld_y hK hU (by have := g.2.2.2; omega), bnd_s, mwrong_y hn hK hm hc hU hp hq hne, g.2.1 u hm.1, bnd_s]
      rw [K1, K2]
      by_cases e0 : 0 ≤ lg_cmp (T (prN (Sc S) p q)).toInt64 1
      · rw [if_pos e0, if_pos e0]
        by_cases e1 : exB (thB (Sc S) T p q) (Sc S) = true
        · rw [if_pos e1, if_pos e1]
          exact .inr (.inr ⟨_, _, _, rfl, rfl, h0⟩)
        · rw [if_neg e1, if_neg e1]
          exact .inl ⟨_, _, rfl, rfl, by omega, rfl, rfl⟩
      · rw [if_neg e0, if_neg e0]
        exact .inr (.inr ⟨_, _, _, rfl, rfl, h0⟩)) (fun f1 f2 a1 a2 hR => by
      obtain ⟨hpq, rfl, rfl⟩ := hR
      refine .inl ⟨?_, ?_⟩
      · unfold bd_X5_judge_43
        dsimp only
        rw [hl.1, if_pos le8, nI_s]
      · unfold bd_X6_judge_31
        dsimp only
        rw [hm.1, if_pos le8, nI_s]) n n (p + 1) (some ⟨K, hK⟩, nI p, nI (p + 1), t) (nI p, nI (p + 1), u) (by omega) (by omega) (by omega) ⟨by omega, rfl, rfl⟩
    have k1 : bd_X5_judge_25 n (nI K) s1 (some ⟨K, hK⟩, nI p, t) = iter (bd_X5_judge_43 n (nI K) s1) n (some ⟨K, hK⟩, nI p, nI (p + 1), t) := by
      unfold bd_X5_judge_25
      dsimp only
      rw [hl.1, if_neg (nle8 hp hc), nI_s]
    have k2 : bd_X6_judge_18 n (nI K) s2 (nI p, u) = iter (bd_X6_judge_31 n (nI K) s2) n (nI p, nI (p + 1), u) := by
      unfold bd_X6_judge_18
      dsimp only
      rw [hm.1, if_neg (nle8 hp hc), nI_s]
    rw [k1, k2]
    rcases hin with ⟨e1, e2⟩ | h
    · exact .inl ⟨_, _, e1, e2, rfl, rfl⟩
    · exact .inr h
  · intro s1 s2 y1 y2 hR
    obtain ⟨rfl, rfl⟩ := hR
    refine ⟨-1, t, u, ?_, ?_, h0⟩
    · unfold bd_X5_judge_25
      dsimp only
      rw [hl.1, if_pos le8]
    · unfold bd_X6_judge_18
      dsimp only
      rw [hm.1, if_pos le8]
