/-! layer 2: rows that tell something -/
def rwT (t : Mem) (K m : Nat) (T : Nat → Int32) : Prop := t.1 (18 + K) 1 = nI m ∧ ∀ i, i < 160 → (t.2 (26 + K) i).toInt32 = T i
def rwU (u : Mem) (K : Nat) (T : Nat → Int32) : Prop := ∀ i, i < 160 → (u.2 42 (160 * K + i)).toInt32 = T i
theorem rwT.fr {t t' : Mem} {K m : Nat} {T : Nat → Int32} (h : rwT t K m T) (h1 : t'.1 (18 + K) = t.1 (18 + K)) (h2 : t'.2 = t.2) : rwT t' K m T := ⟨by rw [h1]; exact h.1, by rw [h2]; exact h.2⟩
theorem rwU.fr {u u' : Mem} {K : Nat} {T : Nat → Int32} (h : rwU u K T) (h2 : u'.2 = u.2) : rwU u' K T := by
  unfold rwU
  rw [h2]
  exact h
theorem asI_y {t : Mem} {K m i : Nat} {T : Nat → Int32} (hK : K < 8) (h : rwT t K m T) (hm : m ≤ 160) (hi : i < m) : f_X4_asInt ⟨K, hK⟩ (nI i) t = some (T i, t) := by
  unfold f_X4_asInt
  rw [if_neg (nI_nneg (by omega)), show t.1 (oSh ⟨K, hK⟩) 1 = nI m from h.1, if_neg (by rw [nI_le' (by omega) (by omega)]; omega), ck_t (inb_nI (by omega) (by decide)), nI_clamp (by omega), show (t.2 (oEl ⟨K, hK⟩) i).toInt32 = T i from h.2 i (by omega)]
theorem tld_y {u : Mem} {K i : Nat} {T : Nat → Int32} (hK : K < 8) (h : rwU u K T) (hi : i < 160) : f_X6_told (nI K) (nI i) u = some (T i, u) := by
  unfold f_X6_told
  rw [ix160, ck_t (inb_nI (by omega) (by decide)), nI_clamp (by omega), h i hi]
theorem ng_i {k : Nat} (hk : k < 8) : (-nI k).toInt = -(k : Int) := by
  rw [Int32.toInt_neg, nI_toInt (by omega)]
  rw [Int.bmod_eq_of_le] <;> omega
theorem ng_ne {k : Nat} (h1 : 1 ≤ k) (hk : k < 8) : ¬ (-nI k) = 0 := by
  rw [i_eq, ng_i hk, Int32.toInt_zero]; omega
theorem ng_lt {k : Nat} (h1 : 1 ≤ k) (hk : k < 8) : ¬ 0 ≤ (-nI k) := by
  rw [i_le, ng_i hk, Int32.toInt_zero]; omega
theorem lmul {a b m : Nat} (ha : a < 2 ^ 31) (hb : b = 3 ∨ b = 4) (hm : m ≤ 160) : ((nI a).toInt64 * (nI b).toInt64 ≤ (nI m).toInt64) ↔ a * b ≤ m := by
  rcases hb with rfl | rfl
  all_goals
    rw [Int64.le_iff_toInt_le, Int64.toInt_mul, Int32.toInt_toInt64, Int32.toInt_toInt64, Int32.toInt_toInt64, nI_toInt ha, nI_toInt (by omega), nI_toInt (by omega), Int.bmod_eq_of_le (by omega) (by omega)]
    omega
theorem tp_neg {t : Mem} {k : Fin 8} {x b M : Int32} (h : ¬ 0 ≤ x) : f_X5_toldProblem k x b M t = some (-4, t) := if_neg h
theorem tp_y {t : Mem} {K m j b M : Nat} {T : Nat → Int32} (hK : K < 8) (h : rwT t K m T) (hm : m ≤ 160) (hj : j < 2 ^ 31) (hb : b = 3 ∨ b = 4) (hM : M ≤ 20) : f_X5_toldProblem ⟨K, hK⟩ (nI j) (nI b) (nI M) t = some (if j * b ≤ m then (if j ≤ M then 0 else -6) else -5, t) := by
  unfold f_X5_toldProblem
  rw [if_pos (show (0 : Int32) ≤ nI j by rw [show (0 : Int32) = nI 0 from rfl, nI_le' (by omega) hj]; omega), show t.1 (oSh ⟨K, hK⟩) 1 = nI m from h.1]
  by_cases e : j * b ≤ m
  · rw [if_pos ((lg_cmp_le _ _).mpr ((lmul hj hb hm).mpr e)), if_pos e]
    by_cases e2 : j ≤ M
    · rw [if_pos (by rw [nI_le' hj (by omega)]; exact e2), if_pos e2]
    · rw [if_neg (by rw [nI_le' hj (by omega)]; exact e2), if_neg e2]
  · rw [if_neg (fun g => e ((lmul hj hb hm).mp ((lg_cmp_le _ _).mp g))), if_neg e]
/-- what a call that asks for a row meets -/
theorem rowp {t u : Mem} {S : Ld} (x : Int32) (ok : okLd S) (ho : Oth (Sc S) t u) : (∃ s k, 1 ≤ k ∧ k ≤ 3 ∧ f_X5_shelfAt x t = some (s, t) ∧ f_X5_rowProblem s t = some (-nI k, t) ∧ f_X6_noRow x u = some (-nI k, u)) ∨ ∃ (K : Nat) (hK : K < 8) (m : Nat) (T : Nat → Int32), x = nI K ∧ m ≤ 160 ∧ f_X5_shelfAt x t = some (some ⟨K, hK⟩, t) ∧ f_X5_rowProblem (some ⟨K, hK⟩) t = some (0, t) ∧ f_X6_noRow x u = some (0, u) ∧ u.1 41 K = nI m ∧ rwT t K m T ∧ rwU u K T := by
  rcases e1 : plc 8 x with _ | K
  · refine .inl ⟨none, 1, by omega, by omega, slot_n e1, ?_, ?_⟩
    · unfold f_X5_rowProblem
      rw [nul_n]
      rfl
    · unfold f_X6_noRow
      rw [win7_n e1, bnp_s, if_neg z_nn]
      rfl
  obtain ⟨rfl, hK⟩ := plc_some e1
  rcases prob ok.1 hK (ho.1 K hK) with ⟨a, a', b⟩ | ⟨a, a', b⟩ | ⟨a, a', b, s, m, hs, hm', c, d, e, f, g, k⟩
  · exact .inl ⟨_, 3, by omega, by omega, slot_y hK, a, a'⟩
  · exact .inl ⟨_, 2, by omega, by omega, slot_y hK, a, a'⟩
  · exact .inr ⟨K, hK, m, fun i => (t.2 (26 + K) i).toInt32, rfl, hm', slot_y hK, a, a', g, ⟨e, fun i _ => rfl⟩, fun i hi => by show _ = (t.2 (26 + K) i).toInt32; rw [k i hi]⟩
theorem ge_0 {x : Int32} (h : 0 ≤ x) : ∃ j, j < 2 ^ 31 ∧ x = nI j := as_nat' (Int32.not_lt.mpr h)
theorem pin_prob {t u : Mem} {S : Ld} (x y : Int32) (ok : okLd S) (ho : Oth (Sc S) t u) : (∃ s k, 1 ≤ k ∧ k < 8 ∧ f_X5_shelfAt x t = some (s, t) ∧ f_X5_pinchesProblem s y t = some (-nI k, t) ∧ f_X6_noPinches x y u = some (-nI k, u)) ∨ ∃ (K : Nat) (hK : K < 8) (m : Nat) (T : Nat → Int32) (j : Nat), x = nI K ∧ y = nI j ∧ m ≤ 160 ∧ j * 3 ≤ m ∧ j ≤ 20 ∧ f_X5_shelfAt x t = some (some ⟨K, hK⟩, t) ∧ f_X5_pinchesProblem (some ⟨K, hK⟩) y t = some (0, t) ∧ f_X6_noPinches x y u = some (0, u) ∧ rwT t K m T ∧ rwU u K T := by
  rcases rowp x ok ho with ⟨s, k, k1, k2, a, b, c⟩ | ⟨K, hK, m, T, rfl, hm, a, b, c, d, hT, hU⟩
  · refine .inl ⟨s, k, k1, by omega, a, ?_, ?_⟩
    · unfold f_X5_pinchesProblem
      rw [b, bnd_s, if_pos (ng_ne k1 (by omega))]
    · unfold f_X6_noPinches
      rw [c, bnd_s, if_neg (ng_lt k1 (by omega))]
  have hC : f_X5_pinchesProblem (some ⟨K, hK⟩) y t = bnd (f_X5_toldProblem ⟨K, hK⟩ y (nI 3) (nI 20) t) fun r5 t6 => some (r5, t6) := by
    unfold f_X5_pinchesProblem
    rw [b, bnd_s, if_neg z_nn, nn_s]
    rfl
  have hM : f_X6_noPinches (nI K) y u = if 0 ≤ y then (if lg_cmp (3 * y.toInt64) ((u.1 41 (nI K).toNatClampNeg).toInt64) ≤ 0 then (if y ≤ 20 then some (0, u) else some (-6, u)) else some (-5, u)) else some (-4, u) := by
    unfold f_X6_noPinches
    rw [c, bnd_s, if_pos (by decide), ck_t (inb_nI hK (by decide))]
  by_cases e1 : 0 ≤ y
  · obtain ⟨j, hj, rfl⟩ := ge_0 e1
    have hm2 : (lg_cmp (3 * (nI j).toInt64) ((u.1 41 (nI K).toNatClampNeg).toInt64) ≤ 0) ↔ j * 3 ≤ m := by
      rw [nI_clamp (by omega), d, lg_cmp_le, Int64.mul_comm, show (3 : Int64) = (nI 3).toInt64 from rfl, lmul hj (.inl rfl) hm]
    have hp := tp_y (b := 3) (M := 20) hK hT hm hj (.inl rfl) (by omega)
    rw [hp, bnd_s] at hC
    rw [if_pos e1] at hM
    by_cases e2 : j * 3 ≤ m
    · rw [if_pos e2] at hC
      rw [if_pos (hm2.mpr e2)] at hM
      by_cases e3 : j ≤ 20
      · rw [if_pos e3] at hC
        rw [if_pos (show nI j ≤ 20 by rw [show (20 : Int32) = nI 20 from rfl, nI_le' hj (by omega)]; exact e3)] at hM
        exact .inr ⟨K, hK, m, T, j, rfl, rfl, hm, e2, e3, a, hC, hM, hT, hU⟩
      · rw [if_neg e3] at hC
        rw [if_neg (show ¬ nI j ≤ 20 by rw [show (20 : Int32) = nI 20 from rfl, nI_le' hj (by omega)]; exact e3)] at hM
        exact .inl ⟨_, 6, by omega, by omega, a, hC, hM⟩
    · rw [if_neg e2] at hC
      rw [if_neg (fun g => e2 (hm2.mp g))] at hM
      exact .inl ⟨_, 5, by omega, by omega, a, hC, hM⟩
  · rw [tp_neg e1, bnd_s] at hC
    rw [if_neg e1] at hM
    exact .inl ⟨_, 4, by omega, by omega, a, hC, hM⟩
