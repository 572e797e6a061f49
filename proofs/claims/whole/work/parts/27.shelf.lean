/-! layer 2: the shelves -/
theorem nI_nm {p : Nat} (h : p < 2 ^ 31) : ¬ nI p = -1 := fun e => by
  have := i_eq.mp e
  rw [nI_toInt h, show ((-1 : Int32)).toInt = -1 from rfl] at this
  omega
theorem nI_nneg {p : Nat} (h : p < 2 ^ 31) : ¬ nI p < 0 := nI_pos h
theorem nI_le' {a b : Nat} (ha : a < 2 ^ 31) (hb : b < 2 ^ 31) : nI a ≤ nI b ↔ a ≤ b := by
  rw [i_le, nI_toInt ha, nI_toInt hb]; omega
theorem nI_lt' {a b : Nat} (ha : a < 2 ^ 31) (hb : b < 2 ^ 31) : nI a < nI b ↔ a < b := by
  rw [i_lt, nI_toInt ha, nI_toInt hb]; omega
theorem slot_y {t : Mem} {K : Nat} (hK : K < 8) : f_X5_shelfAt (nI K) t = some (some ⟨K, hK⟩, t) := by
  unfold f_X5_shelfAt
  rw [if_neg (nI_nneg (by omega)), if_neg (show ¬ (8 : Int32) ≤ nI K by rw [show (8 : Int32) = nI 8 from rfl, nI_le' (by omega) (by omega)]; omega), ck_t (inb_nI hK (by decide)), nI_clamp (by omega)]
  rw [show Fin.ofNat 8 K = ⟨K, hK⟩ from Fin.ext (Nat.mod_eq_of_lt hK)]
theorem slot_n {t : Mem} {x : Int32} (hx : plc 8 x = none) : f_X5_shelfAt x t = some (none, t) := by
  unfold f_X5_shelfAt
  rcases plc_none (by decide) hx with h | ⟨h, h2⟩
  · rw [if_pos h]
  · rw [if_neg h, if_pos (show (8 : Int32) ≤ x from h2)]
theorem win7_y {K : Nat} (hK : K < 8) : f_X6_within (nI K) 0 7 = some 1 := win_y (nI_nneg (by omega)) (show ¬ nI 7 < nI K by rw [nI_lt' (by omega) (by omega)]; omega)
theorem win7_n {x : Int32} (hx : plc 8 x = none) : f_X6_within x 0 7 = some 0 := by
  rcases plc_none (by decide) hx with h | ⟨h, h2⟩
  · exact win_n (.inl h)
  · refine win_n (.inr ?_)
    rw [i_le] at h2
    rw [i_lt]
    have : (nI 8).toInt = 8 := rfl
    have : (7 : Int32).toInt = 7 := rfl
    omega
theorem hpl_n {t : Mem} {K : Fin 8} (h : t.1 (18 + K.val) 3 = -1) : f_X4_holdsPlace K t = some (0, t) := if_pos h
theorem hpl_y {t : Mem} {K : Fin 8} {p : Nat} (hp : p < 2 ^ 31) (h : t.1 (18 + K.val) 3 = nI p) : f_X4_holdsPlace K t = some (1, t) := if_neg (fun e => nI_nm hp (h.symm.trans e))
theorem hrw_n {t : Mem} {K : Fin 8} (h : t.1 (18 + K.val) 2 = -1) : f_X4_holdsRow K t = some (0, t) := if_pos h
theorem hrw_y {t : Mem} {K : Fin 8} {p : Nat} (hp : p < 2 ^ 31) (h : t.1 (18 + K.val) 2 = nI p) : f_X4_holdsRow K t = some (1, t) := if_neg (fun e => nI_nm hp (h.symm.trans e))
theorem isRow_n {u : Mem} {K : Nat} (hK : K < 8) (h : u.1 40 K < 100) : f_X6_isRow (nI K) u = some (0, u) := by
  unfold f_X6_isRow
  rw [ck_t (inb_nI hK (by decide)), nI_clamp (by omega), if_pos h]
theorem isRow_y {u : Mem} {K : Nat} (hK : K < 8) (h : ¬ u.1 40 K < 100) : f_X6_isRow (nI K) u = some (1, u) := by
  unfold f_X6_isRow
  rw [ck_t (inb_nI hK (by decide)), nI_clamp (by omega), if_neg h]
theorem pl_100 {p : Nat} (h : p < 8) : nI p < 100 := by
  rw [show (100 : Int32) = nI 100 from rfl, nI_lt' (by omega) (by omega)]; omega
theorem rw_100 {s : Nat} (h : s ≤ 3) : ¬ nI (100 + s) < 100 := by
  rw [show (100 : Int32) = nI 100 from rfl, nI_lt' (by omega) (by omega)]; omega
theorem stp5 {n : Nat} : Stp5 Rel n := fun t u x h0 => by
  obtain ⟨S, hl, hm, ok, ho⟩ := id h0
  unfold f_X5_holds f_X6_holds
  have hc := ok.1
  rcases e1 : plc 8 x with _ | K
  · rw [slot_n e1, bnd_s, nul_n, win7_n e1, bnp_s, if_pos rfl]
    exact ⟨_, _, _, rfl, rfl, h0⟩
  obtain ⟨rfl, hK⟩ := plc_some e1
  rw [slot_y hK, bnd_s, nul_s, win7_y hK, bnp_s, if_neg one_ne, ck_t (inb_nI hK (by decide)), nI_clamp (by omega)]
  rcases ho.1 K hK with ⟨a, b, c⟩ | ⟨p, hp, a, b, c⟩ | ⟨s, m, hs, hm', a, b, c, d, e, f⟩
  · rw [hrw_n a, bnd_s, if_pos rfl, show t.1 (oSh ⟨K, hK⟩) 3 = -1 from b, c]
    exact ⟨_, _, _, rfl, rfl, h0⟩
  · rw [hrw_n a, bnd_s, if_pos rfl, show t.1 (oSh ⟨K, hK⟩) 3 = nI p from b, c]
    exact ⟨_, _, _, rfl, rfl, h0⟩
  · rw [hrw_y (by omega) a, bnd_s, if_neg one_ne, show t.1 (oSh ⟨K, hK⟩) 2 = nI s from a, d, show (100 : Int32) = nI 100 from rfl, nI_add]
    exact ⟨_, _, _, rfl, rfl, h0⟩
/-- what a call that asks for a row meets -/
theorem prob {c : Nat} {t u : Mem} {K : Nat} (hc : c ≤ 8) (hK : K < 8) (h : shR c t u K) : (f_X5_rowProblem (some ⟨K, hK⟩) t = some (-3, t) ∧ f_X6_noRow (nI K) u = some (-3, u) ∧ f_X6_isRow (nI K) u = some (0, u)) ∨ (f_X5_rowProblem (some ⟨K, hK⟩) t = some (-2, t) ∧ f_X6_noRow (nI K) u = some (-2, u) ∧ f_X6_isRow (nI K) u = some (0, u)) ∨ (f_X5_rowProblem (some ⟨K, hK⟩) t = some (0, t) ∧ f_X6_noRow (nI K) u = some (0, u) ∧ f_X6_isRow (nI K) u = some (1, u) ∧ ∃ s n, s ≤ 3 ∧ n ≤ 160 ∧ t.1 (18 + K) 2 = nI s ∧ t.1 (18 + K) 3 = -1 ∧ t.1 (18 + K) 1 = nI n ∧ u.1 40 K = nI (100 + s) ∧ u.1 41 K = nI n ∧ ∀ i, i < 160 → t.2 (26 + K) i = u.2 42 (160 * K + i)) := by
  unfold f_X5_rowProblem f_X6_noRow jn_X6_noRow_32
  rw [nul_s, win7_y hK, bnp_s, if_pos one_ne, ck_t (inb_nI hK (by decide)), ck_t (inb_nI hK (by decide)), nI_clamp (by omega)]
  rcases h with ⟨a, b, c⟩ | ⟨p, hp, a, b, c⟩ | ⟨s, m, hs, hm', a, b, c, d, e, f⟩
  · refine .inl ⟨?_, ?_, isRow_n hK (by rw [c]; decide)⟩
    · rw [hpl_n b, bnd_s, if_pos rfl, hrw_n a, bnd_s, if_pos rfl]
    · rw [c, if_pos (by decide), if_neg (by decide)]
  · refine .inr (.inl ⟨?_, ?_, isRow_n hK (by rw [c]; exact pl_100 (by omega))⟩)
    · rw [hpl_y (by omega) b, bnd_s, if_neg one_ne]
    · rw [isRow_n hK (by rw [c]; exact pl_100 (by omega)), c, if_neg (nI_nneg (by omega)), bnd_s, if_neg z_nn]
  · refine .inr (.inr ⟨?_, ?_, isRow_y hK (by rw [d]; exact rw_100 hs), s, m, hs, hm', a, b, c, d, e, f⟩)
    · rw [hpl_n b, bnd_s, if_pos rfl, hrw_y (by omega) a, bnd_s, if_neg one_ne]
    · rw [isRow_y hK (by rw [d]; exact rw_100 hs), d, if_neg (nI_nneg (by omega)), bnd_s, if_pos one_ne, ck_t (inb_nI hK (by decide)), d, if_pos (show (0 : Int32) ≤ nI (100 + s) by rw [show (0 : Int32) = nI 0 from rfl, nI_le' (by omega) (by omega)]; omega)]
theorem win_len_y {i m : Nat} (hm : m ≤ 160) (hi : i < m) : f_X6_within (nI i) 0 (nI m - 1) = some 1 := by
  rw [show (1 : Int32) = nI 1 from rfl, nI_sub (by omega)]
  exact win_y (nI_nneg (by omega)) (by rw [nI_lt' (by omega) (by omega)]; omega)
theorem win_len_n {x : Int32} {m : Nat} (hm : m ≤ 160) (hx : plc m x = none) : f_X6_within x 0 (nI m - 1) = some 0 := by
  refine win_n ?_
  rcases plc_none (by omega) hx with h | ⟨h, h2⟩
  · exact .inl h
  · refine .inr ?_
    rw [i_le, nI_toInt (by omega)] at h2
    rw [i_lt]
    have e : (nI m - 1).toInt = (m : Int) - 1 := by
      rcases Nat.eq_zero_or_pos m with e | e
      · subst e; rfl
      · rw [show (1 : Int32) = nI 1 from rfl, nI_sub (by omega), nI_toInt (by omega)]; omega
    omega
theorem ix160 {K i : Nat} : 160 * nI K + nI i = nI (160 * K + i) := by
  rw [show (160 : Int32) = nI 160 from rfl, nI_mul, nI_add]
theorem stp3 {n : Nat} : Stp3 Rel n := fun t u x1 x2 h0 => by
  obtain ⟨S, hl, hm, ok, ho⟩ := id h0
  unfold f_X5_element f_X6_element
  rcases e1 : plc 8 x1 with _ | K
  · rw [slot_n e1, bnd_s, win7_n e1, bnp_s, if_pos rfl]
    unfold f_X5_rowProblem
    rw [nul_n, bnd_s, if_pos (by decide)]
    exact ⟨_, _, _, rfl, rfl, h0⟩
  obtain ⟨rfl, hK⟩ := plc_some e1
  rw [slot_y hK, bnd_s, win7_y hK, bnp_s, if_neg one_ne]
  rcases prob ok.1 hK (ho.1 K hK) with ⟨a, _, b⟩ | ⟨a, _, b⟩ | ⟨a, _, b, s, m, hs, hm', c, d, e, f, g, k⟩
  · rw [a, b, bnd_s, bnd_s, if_pos (by decide), if_pos rfl]
    exact ⟨_, _, _, rfl, rfl, h0⟩
  · rw [a, b, bnd_s, bnd_s, if_pos (by decide), if_pos rfl]
    exact ⟨_, _, _, rfl, rfl, h0⟩
  · rw [a, b, bnd_s, bnd_s, if_neg z_nn, if_neg one_ne, nn_s, ck_t (inb_nI hK (by decide)), nI_clamp (by omega), g]
    unfold f_X4_at
    rcases e2 : plc m x2 with _ | i
    · rw [win_len_n hm' e2, bnp_s, if_pos rfl]
      rcases plc_none (by omega) e2 with h | ⟨h, h2⟩
      · rw [if_pos h, bnd_s]
        exact ⟨_, _, _, rfl, rfl, h0⟩
      · rw [if_neg h, if_pos (by rw [show t.1 (oSh ⟨K, hK⟩) 1 = nI m from e]; exact h2), bnd_s]
        exact ⟨_, _, _, rfl, rfl, h0⟩
    · obtain ⟨rfl, hi⟩ := plc_some e2
      rw [win_len_y hm' hi, bnp_s, if_neg one_ne, if_neg (nI_nneg (by omega)), if_neg (by rw [show t.1 (oSh ⟨K, hK⟩) 1 = nI m from e, nI_le' (by omega) (by omega)]; omega), ck_t (inb_nI (by omega) (by decide)), bnd_s, ix160, ck_t (inb_nI (by omega) (by decide)), nI_clamp (by omega), nI_clamp (by omega), show t.2 (oEl ⟨K, hK⟩) i = _ from k i (by omega)]
      exact ⟨_, _, _, rfl, rfl, h0⟩
