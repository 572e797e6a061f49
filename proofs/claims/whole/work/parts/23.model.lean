/-! the reference: what its small methods answer, in the same numbers -/
def isMd (u : Mem) (S : Ld) : Prop := u.1 39 3 = nI (Sc S) ∧ u.1 39 7 = nI (Sf S) ∧ u.1 39 8 = nI (Sd S) ∧ u.1 39 9 = Se S ∧ (∀ i, i < 8 → u.1 43 i = nI (Sk S i)) ∧ (∀ i, i < 8 → u.1 44 i = nI (Sm S i)) ∧ ∀ p q, p < 8 → q < 8 → u.1 45 (8 * p + q) = nI (Sw S p q)
theorem isMd.fr {u u' : Mem} {S : Ld} {l : List Nat} (h : isMd u S) (hF : Fr u u' l) (h1 : ¬ 39 ∈ l) (h2 : ¬ 43 ∈ l) (h3 : ¬ 44 ∈ l) (h4 : ¬ 45 ∈ l) : isMd u' S := by
  unfold isMd
  rw [hF.1 _ h1, hF.1 _ h2, hF.1 _ h3, hF.1 _ h4]
  exact h
theorem ix8' (p q : Nat) : 8 * nI p + nI q = nI (8 * p + q) := by
  rw [show (8 : Int32) = nI 8 from rfl, nI_mul, nI_add]
theorem inb8' {p q : Nat} (hp : p < 8) (hq : q < 8) : inb (8 * nI p + nI q) 64 = true := by
  rw [ix8']
  exact inb_nI (by omega) (by decide)
theorem clamp8' {p q : Nat} (hp : p < 8) (hq : q < 8) : (8 * nI p + nI q).toNatClampNeg = 8 * p + q := by
  rw [ix8', nI_clamp (by omega)]
theorem win_y {x lo hi : Int32} (h1 : ¬ x < lo) (h2 : ¬ hi < x) : f_X6_within x lo hi = some 1 := by
  unfold f_X6_within
  rw [if_neg h1, if_neg h2]
theorem win_n {x lo hi : Int32} (h : x < lo ∨ hi < x) : f_X6_within x lo hi = some 0 := by
  unfold f_X6_within
  by_cases h1 : x < lo
  · rw [if_pos h1]
  · rw [if_neg h1, if_pos (h.resolve_left h1)]
theorem isPl_y {u : Mem} {S : Ld} {p : Nat} (h : isMd u S) (hc : Sc S ≤ 8) (hp : p < Sc S) : f_X6_isPlace (nI p) u = some (1, u) := by
  unfold f_X6_isPlace
  rw [h.1, show (1 : Int32) = nI 1 from rfl, nI_sub (by omega), win_y (nI_pos (by omega)) (nI_nlt (by omega) (by omega)), bnp_s]
  rfl
theorem isPl_n {u : Mem} {S : Ld} {x : Int32} (h : isMd u S) (hc : Sc S ≤ 8) (hx : plc (Sc S) x = none) : f_X6_isPlace x u = some (0, u) := by
  unfold f_X6_isPlace
  rw [h.1, win_n ?_, bnp_s]
  · rfl
  · rcases plc_none (by omega) hx with h1 | ⟨h1, h2⟩
    · exact Or.inl h1
    · refine Or.inr ?_
      rw [i_le, nI_toInt (by omega)] at h2
      rw [i_lt, Int32.toInt_sub, nI_toInt (by omega), show (1 : Int32).toInt = 1 by decide, Int.bmod_eq_of_le (by omega) (by omega)]
      omega
theorem noRoad_y {u : Mem} {S : Ld} {p q : Nat} (h : isMd u S) (ok : okLd S) (hp : p < Sc S) (hq : q < Sc S) : f_X6_noRoad (nI p) (nI q) u = some (bI (decide (Sw S p q = 0)), u) := by
  have hc := ok.1
  have hw := ok.2.2.2.2.2.1 p q
  unfold f_X6_noRoad
  by_cases hpq : p = q
  · subst hpq
    rw [if_pos rfl, decide_eq_true (ok.2.2.2.2.2.2.2.1 p)]
    rfl
  · rw [if_neg (nI_ne (by omega) (by omega) hpq), ck_t (inb8' (by omega) (by omega)), clamp8' (by omega) (by omega), h.2.2.2.2.2.2 p q (by omega) (by omega)]
    by_cases h0 : Sw S p q = 0
    · rw [h0, if_neg (by decide)]
      rfl
    · rw [if_pos (show ¬ nI (Sw S p q) = 0 from nI_ne (b := 0) (by omega) (by omega) h0), decide_eq_false h0]
      rfl
theorem mlay_y {u : Mem} {S : Ld} {p q n : Nat} (h : isMd u S) (hp : p < 8) (hq : q < 8) : ∃ u', f_X6_lay (nI p) (nI q) (nI n) u = some (nI (Sw S p q), u') ∧ isMd u' (setW S p q n) ∧ Fr u u' [45] := by
  refine ⟨uA u 45 (upd (upd (u.1 45) (8 * p + q) (nI n)) (8 * q + p) (nI n)), ?_, ?_, Fr.uA u _ (List.mem_singleton.mpr rfl)⟩
  · unfold f_X6_lay
    rw [ck_t (inb8' (by omega) (by omega)), lti_s, ck_t (inb8' (by omega) (by omega)), ltm_s, ck_t (inb8' (by omega) (by omega)), ltm_s, clamp8' (by omega) (by omega), clamp8' (by omega) (by omega), h.2.2.2.2.2.2 p q hp hq]
    unfold uI
    rw [uA_same, uA_uA]
  · have hn : ∀ o, ¬ o = 45 → (uA u 45 (upd (upd (u.1 45) (8 * p + q) (nI n)) (8 * q + p) (nI n))).1 o = u.1 o := fun o ho => uA_ne _ ho
    unfold isMd
    rw [hn 39 (by decide), hn 43 (by decide), hn 44 (by decide), uA_same]
    exact ⟨h.1, h.2.1, h.2.2.1, h.2.2.2.1, h.2.2.2.2.1, h.2.2.2.2.2.1, row2 h.2.2.2.2.2.2 hp hq⟩
theorem masks_y {u : Mem} {S : Ld} {p n : Nat} (h : isMd u S) (ok : okLd S) (hp : p < Sc S) (hn : n ≤ 999) : f_X6_asks (nI p) (nI n) u = some (nI (asksN (Sk S p) (Sm S p) n), u) := by
  have hc := ok.1
  have hm := ok.2.2.2.2.1 p
  have hk := ok.2.2.2.1 p
  have e10 : nI n - nI n / 10 = nI (n - n / 10) := by
    rw [show (10 : Int32) = nI 10 from rfl, nI_div (by omega) (by omega), nI_sub (Nat.div_le_self _ _)]
  unfold f_X6_asks
  rw [ck_t (inb_nI (by omega) (by decide)), lti_s, nI_clamp (by omega), h.2.2.2.2.1 p (by omega)]
  rw [show (1 : Int32) = nI 1 from rfl, show (2 : Int32) = nI 2 from rfl, show (3 : Int32) = nI 3 from rfl, show (4 : Int32) = nI 4 from rfl, show (5 : Int32) = nI 5 from rfl, show (6 : Int32) = nI 6 from rfl]
  rw [nI_iteq (by omega) (by omega), nI_iteq (by omega) (by omega), nI_iteq (by omega) (by omega), nI_iteq (by omega) (by omega), nI_iteq (by omega) (by omega), nI_iteq (by omega) (by omega)]
  unfold asksN
  rw [ck_t (inb_nI (by omega) (by decide)), ck_t (inb_nI (by omega) (by decide)), e10, nI_mul, nI_mul, h.2.2.2.2.2.1 p (by omega), nI_add, nI_add]
  split; rfl
  split; rfl
  split; rfl
  split; rfl
  split; rfl
  split
  · by_cases h1 : 1 ≤ n - n / 10
    · rw [nI_sub h1, show (0 : Int32) = nI 0 from rfl, cost_max (by omega) (by omega), bnp_s, Nat.zero_max]
    · rw [show n - n / 10 = 0 by omega]
      rfl
  · rfl
theorem mcost_y {u : Mem} {S : Ld} {p q n : Nat} (h : isMd u S) (ok : okLd S) (hp : p < Sc S) (hq : q < Sc S) (hn : n ≤ 999) : f_X6_costs (nI p) (nI q) (nI n) u = some (nI (costN S p q n), u) := by
  have a1 := asksN_le (k := Sk S p) (ok.2.2.2.2.1 p) hn
  have a2 := asksN_le (k := Sk S q) (ok.2.2.2.2.1 q) hn
  unfold f_X6_costs
  rw [masks_y h ok hp hn, bnd_s, masks_y h ok hq hn, bnd_s, cost_max (by omega) (by omega), bnp_s]
  rfl
theorem myield_y {u : Mem} {S : Ld} {p q n : Nat} (h : isMd u S) (ok : okLd S) (hp : p < Sc S) (hq : q < Sc S) (hn : 5 ≤ n) : f_X6_yieldOf n (nI p) (nI q) u = some (nI (yieldN S p q), u) := by
  have hc := ok.1
  have hw := ok.2.2.2.2.2.1 p q
  obtain ⟨m, rfl⟩ : ∃ m, n = m + 5 := ⟨n - 5, by omega⟩
  have e4 : ∀ y, y ≤ 999 → nI y - nI y / 4 = nI (y - y / 4) := fun y hy => by rw [show (4 : Int32) = nI 4 from rfl, nI_div (by omega) (by omega), nI_sub (Nat.div_le_self _ _)]
  have e2 : ∀ y, y ≤ 999 → nI y / 2 = nI (y / 2) := fun y hy => by rw [show (2 : Int32) = nI 2 from rfl, nI_div (by omega) (by omega)]
  have kp : u.1 43 (nI p).toNatClampNeg = nI (Sk S p) := by rw [nI_clamp (by omega)]; exact h.2.2.2.2.1 p (by omega)
  have kq : u.1 43 (nI q).toNatClampNeg = nI (Sk S q) := by rw [nI_clamp (by omega)]; exact h.2.2.2.2.1 q (by omega)
  have bp : inb (nI p) 8 = true := inb_nI (by omega) (by decide)
  have bq : inb (nI q) 8 = true := inb_nI (by omega) (by decide)
  have i1 : ∀ k2, k2 ≤ 6 → f_X6_isUnder (m + 5) (nI (Sk S p)) (nI k2) = some (bI (under (Sk S p) k2)) := fun k2 hk => isUnder_loop (ok.2.2.2.1 p) hk
  have i2 : ∀ k2, k2 ≤ 6 → f_X6_isUnder (m + 5) (nI (Sk S q)) (nI k2) = some (bI (under (Sk S q) k2)) := fun k2 hk => isUnder_loop (ok.2.2.2.1 q) hk
  have j44 : ∀ y, y ≤ 999 → jn_X6_yieldOf_44 (m + 5) (nI p) (nI q) (nI y) u = some (nI (if (under (Sk S p) 2 || under (Sk S q) 2) = true then y / 2 else y), u) := by
    intro y hy
    unfold jn_X6_yieldOf_44
    rw [ck_t bp, ck_t bq, kp, kq, show (2 : Int32) = nI 2 from rfl, i1 2 (by omega), bnp_s, bI_itn, i2 2 (by omega), bnp_s, bI_it, ← show (2 : Int32) = nI 2 from rfl, e2 y hy]
    cases under (Sk S p) 2 <;> cases under (Sk S q) 2 <;> rfl
  unfold f_X6_yieldOf jn_X6_yieldOf_38
  rw [ck_t (inb8' (by omega) (by omega)), lti_s, clamp8' (by omega) (by omega), h.2.2.2.2.2.2 p q (by omega) (by omega), ck_t bp, ck_t bq, kp, kq, show (1 : Int32) = nI 1 from rfl, i1 1 (by omega), bnp_s, bI_itn, i2 1 (by omega), bnp_s, bI_it, e4 _ hw, j44 _ hw, j44 _ (by omega)]
  unfold yieldN
  cases under (Sk S p) 1 <;> cases under (Sk S q) 1 <;> rfl
theorem mmay_n {u : Mem} {S : Ld} {x1 x2 x : Int32} (h : isMd u S) (hc : Sc S ≤ 8) (hx : plc (Sc S) x1 = none ∨ plc (Sc S) x2 = none) : f_X6_may x1 x2 x u = some (0, u) := by
  unfold f_X6_may
  cases h1 : plc (Sc S) x1 with
  | none => rw [isPl_n h hc h1, bnd_s, if_pos rfl]
  | some p =>
    obtain ⟨rfl, hp⟩ := plc_some h1
    have h2 : plc (Sc S) x2 = none := hx.resolve_left (by rw [h1]; exact fun q => by cases q)
    rw [isPl_y h hc hp, bnd_s, if_neg one_ne, isPl_n h hc h2, bnd_s, if_pos rfl]
theorem mmay_y {u : Mem} {S : Ld} {p q : Nat} {x : Int32} (h : isMd u S) (ok : okLd S) (hp : p < Sc S) (hq : q < Sc S) : (mayS S p q x.toInt → f_X6_may (nI p) (nI q) x u = some (1, u)) ∧ (¬ mayS S p q x.toInt → f_X6_may (nI p) (nI q) x u = some (0, u)) := by
  have hc := ok.1
  have hw := ok.2.2.2.2.2.1 p q
  have hf := ok.2.1
  have z0 : (0 : Int32).toInt = 0 := rfl
  have zm : (-998 : Int32).toInt = -998 := by decide
  have zp : (998 : Int32).toInt = 998 := by decide
  have z1 : (1 : Int32).toInt = 1 := by decide
  have z9 : (999 : Int32).toInt = 999 := by decide
  unfold f_X6_may mayS
  rw [isPl_y h hc hp, bnd_s, if_neg one_ne, isPl_y h hc hq, bnd_s, if_neg one_ne, noRoad_y h ok hp hq, bnd_s, bI_itn]
  by_cases c1 : Sw S p q = 0
  · rw [if_pos (decide_eq_true c1)]
    exact ⟨fun q => absurd c1 q.1, fun _ => rfl⟩
  rw [if_neg (by simpa using c1)]
  by_cases c2 : x.toInt = 0
  · rw [if_pos (i_eq.mpr (by rw [z0]; exact c2))]
    exact ⟨fun q => absurd c2 q.2.1, fun _ => rfl⟩
  rw [if_neg (fun q => c2 (by rw [i_eq, z0] at q; exact q))]
  by_cases c34 : -998 ≤ x.toInt ∧ x.toInt ≤ 998
  · obtain ⟨c3, c4⟩ := c34
    rw [win_y (by rw [i_lt, zm]; omega) (by rw [i_lt, zp]; omega), bnp_s, if_pos one_ne, ck_t (inb8' (by omega) (by omega)), clamp8' (by omega) (by omega), h.2.2.2.2.2.2 p q (by omega) (by omega), lti_s]
    have ea := add_toInt (w := Sw S p q) (x := x) (by omega) (by omega) (by omega)
    by_cases c56 : 1 ≤ (Sw S p q : Int) + x.toInt ∧ (Sw S p q : Int) + x.toInt ≤ 999
    · obtain ⟨c5, c6⟩ := c56
      rw [win_y (by rw [i_lt, ea, z1]; omega) (by rw [i_lt, ea, z9]; omega), bnp_s, if_neg one_ne, abs_nI c3 c4, bnp_s, mcost_y h ok hp hq (by omega), bnd_s, h.2.1]
      have hcl : costN S p q x.toInt.natAbs ≤ 3000 := by
        unfold costN
        exact Nat.max_le.mpr ⟨asksN_le (ok.2.2.2.2.1 p) (by omega), asksN_le (ok.2.2.2.2.1 q) (by omega)⟩
      by_cases c7 : costN S p q x.toInt.natAbs ≤ Sf S
      · rw [if_neg (nI_nlt c7 (by omega))]
        exact ⟨fun _ => rfl, fun q => absurd ⟨c1, c2, c3, c4, c5, c6, c7⟩ q⟩
      · rw [if_pos (nI_lt (by omega) (by omega))]
        exact ⟨fun q => absurd q.2.2.2.2.2.2 c7, fun _ => rfl⟩
    · rw [win_n (by rw [i_lt, i_lt, ea, z1, z9]; omega), bnp_s, if_pos rfl]
      exact ⟨fun q => absurd ⟨q.2.2.2.2.1, q.2.2.2.2.2.1⟩ c56, fun _ => rfl⟩
  · rw [win_n (by rw [i_lt, i_lt, zm, zp]; omega), bnp_s, if_neg (by decide)]
    exact ⟨fun q => absurd ⟨q.2.2.1, q.2.2.2.1⟩ c34, fun _ => rfl⟩
theorem isMd.setF {u : Mem} {S : Ld} {f : Nat} (h : isMd u S) : isMd (uI u 39 7 (nI f)) (setF S f) ∧ Fr u (uI u 39 7 (nI f)) [39] := by
  refine ⟨?_, Fr.uA u _ (List.mem_singleton.mpr rfl)⟩
  unfold isMd
  rw [uA_same, uA_ne _ (show ¬ 43 = 39 by decide), uA_ne _ (show ¬ 44 = 39 by decide), uA_ne _ (show ¬ 45 = 39 by decide)]
  exact ⟨(upd_ne _ (by decide)).trans h.1, upd_same _ _ _, (upd_ne _ (by decide)).trans h.2.2.1, (upd_ne _ (by decide)).trans h.2.2.2.1, h.2.2.2.2⟩
theorem mpinch_y {u : Mem} {S : Ld} {p q : Nat} {x : Int32} (h : isMd u S) (ok : okLd S) (hp : p < Sc S) (hq : q < Sc S) (hm : mayS S p q x.toInt) : ∃ u', f_X6_pinch (nI p) (nI q) x u = some ((), u') ∧ isMd u' (setW (setF S (Sf S - costN S p q x.toInt.natAbs)) p q ((Sw S p q : Int) + x.toInt).toNat) ∧ u'.2 = u.2 ∧ (∀ o, ¬ o ∈ [39, 45] → u'.1 o = u.1 o) ∧ ∀ j, ¬ j = 7 → u'.1 39 j = u.1 39 j := by
  have hc := ok.1
  have hw := ok.2.2.2.2.2.1 p q
  obtain ⟨m1, m2, m3, m4, m5, m6, m7⟩ := hm
  obtain ⟨f1, f2⟩ := h.setF (f := Sf S - costN S p q x.toInt.natAbs)
  obtain ⟨u', l1, l2, l3⟩ := mlay_y (p := p) (q := q) (n := ((Sw S p q : Int) + x.toInt).toNat) f1 (by omega) (by omega)
  have hF : Fr u u' [39, 45] := (f2.mono (by simp)).trans (l3.mono (by simp))
  refine ⟨u', ?_, l2, hF.2, hF.1, fun j hj => ?_⟩
  · unfold f_X6_pinch
    have ea := add_toInt (w := Sw S p q) (x := x) (by omega) (by omega) (by omega)
    have en : nI (Sw S p q) + x = nI ((Sw S p q : Int) + x.toInt).toNat := by
      rw [i_eq, ea, nI_toInt (by omega)]
      omega
    rw [abs_nI m3 m4, bnp_s, mcost_y h ok hp hq (by omega), bnd_s, h.2.1, nI_sub m7, ltm_s, ck_t (inb8' (by omega) (by omega)), clamp8' (by omega) (by omega), f1.2.2.2.2.2.2 p q (by omega) (by omega)]
    show bnd (f_X6_lay (nI p) (nI q) (nI (Sw S p q) + x) _) _ = _
    rw [en, l1, bnd_s]
  · rw [l3.1 39 (by decide), uA_same]
    exact upd_ne _ hj
/-! refusals -/
theorem no_y {u : Mem} {k : Nat} (hk : k < 8) : f_X6_no (-nI k) u = some (-nI k, uI u 46 k (u.1 46 k + 1)) := by
  unfold f_X6_no
  rw [show -(-nI k) = nI k by simp, ck_t (inb_nI hk (by decide)), ck_t (inb_nI hk (by decide)), ltm_s, nI_clamp (by omega)]
theorem no10_y {u : Mem} {k : Nat} (hk : k < 8) : f_X6_no10 (-nI k) u = some (-nI k - 10, uI u 46 k (u.1 46 k + 1)) := by
  unfold f_X6_no10
  rw [show -(-nI k) = nI k by simp, ck_t (inb_nI hk (by decide)), ck_t (inb_nI hk (by decide)), ltm_s, nI_clamp (by omega)]
