-- layer 2: the relation of the two memories, and the calls that only look or lay
def shR (c : Nat) (t u : Mem) (K : Nat) : Prop := (t.1 (18 + K) 2 = -1 ∧ t.1 (18 + K) 3 = -1 ∧ u.1 40 K = -1) ∨ (∃ p, p < c ∧ t.1 (18 + K) 2 = -1 ∧ t.1 (18 + K) 3 = nI p ∧ u.1 40 K = nI p) ∨ ∃ s n, s ≤ 3 ∧ n ≤ 160 ∧ t.1 (18 + K) 2 = nI s ∧ t.1 (18 + K) 3 = -1 ∧ t.1 (18 + K) 1 = nI n ∧ u.1 40 K = nI (100 + s) ∧ u.1 41 K = nI n ∧ ∀ i, i < 160 → t.2 (26 + K) i = u.2 42 (160 * K + i)
def oldR (u : Mem) (S : Ld) : Prop := (∀ i, i < 8 → u.1 48 i = nI (Sk S i)) ∧ (∀ i, i < 8 → u.1 48 (8 + i) = nI (Sm S i)) ∧ (∀ p q, p < 8 → q < 8 → u.1 48 (16 + (8 * p + q)) = nI (Sw S p q)) ∧ u.1 48 80 = nI (Sc S) ∧ u.1 48 81 = nI (Sf S) ∧ u.1 48 82 = nI (Sd S) ∧ u.1 48 83 = Se S
def imR (t u : Mem) : Prop := (t.1 0 9 = 0 ∧ u.1 39 14 = 0) ∨ (t.1 0 9 = 1 ∧ u.1 39 14 = 1 ∧ ∃ S, isLd t 2 S ∧ oldR u S ∧ okLd S)
def Oth (c : Nat) (t u : Mem) : Prop := (∀ K, K < 8 → shR c t u K) ∧ imR t u ∧ (∀ k, k < 8 → t.1 34 k = u.1 46 k) ∧ t.1 35 0 = u.1 39 10 ∧ t.1 37 1 = u.1 39 12 ∧ ∀ j, j < 20 → nI j < t.1 37 1 → t.1 38 j = u.1 47 j
def Rel (t u : Mem) : Prop := ∃ S, isLd t 0 S ∧ isMd u S ∧ okLd S ∧ Oth (Sc S) t u
def keptT : List Nat := [0, 3, 6, 9, 12, 18, 19, 20, 21, 22, 23, 24, 25, 34, 35, 37, 38]
def keptU : List Nat := [40, 41, 46, 47, 48]
theorem shR.fr {c : Nat} {t u t' u' : Mem} {K : Nat} (h : shR c t u K) (h1 : t'.1 (18 + K) = t.1 (18 + K)) (h2 : t'.2 = t.2) (h3 : u'.1 40 = u.1 40) (h4 : u'.1 41 = u.1 41) (h5 : u'.2 = u.2) : shR c t' u' K := by
  unfold shR
  rw [h1, h2, h3, h4, h5]
  exact h
theorem imR.fr {t u t' u' : Mem} (h : imR t u) (h0 : t'.1 0 = t.1 0) (h1 : t'.1 3 = t.1 3) (h2 : t'.1 6 = t.1 6) (h3 : t'.1 9 = t.1 9) (h4 : t'.1 12 = t.1 12) (h5 : u'.1 39 14 = u.1 39 14) (h6 : u'.1 48 = u.1 48) : imR t' u' := by
  unfold imR isLd oldR
  rw [h0, h5, h6, show t'.1 (oLd 2) = t.1 (oLd 2) from h1, show t'.1 (oKn 2) = t.1 (oKn 2) from h2, show t'.1 (oMk 2) = t.1 (oMk 2) from h3, show t'.1 (oRd 2) = t.1 (oRd 2) from h4]
  exact h
theorem Oth.fr {c : Nat} {t u t' u' : Mem} (h : Oth c t u) (h1 : ∀ o, o ∈ keptT → t'.1 o = t.1 o) (h2 : t'.2 = t.2) (h3 : ∀ o, o ∈ keptU → u'.1 o = u.1 o) (h4 : u'.2 = u.2) (h5 : u'.1 39 10 = u.1 39 10) (h6 : u'.1 39 12 = u.1 39 12) (h7 : u'.1 39 14 = u.1 39 14) : Oth c t' u' := by
  refine ⟨fun K hK => (h.1 K hK).fr (h1 _ ?_) h2 (h3 _ (by decide)) (h3 _ (by decide)) h4, h.2.1.fr (h1 _ (by decide)) (h1 _ (by decide)) (h1 _ (by decide)) (h1 _ (by decide)) (h1 _ (by decide)) h7 (h3 _ (by decide)), ?_⟩
  · revert K hK; decide
  · rw [h1 34 (by decide), h1 35 (by decide), h1 37 (by decide), h1 38 (by decide), h3 46 (by decide), h3 47 (by decide), h5, h6]
    exact h.2.2
theorem Oth.fr2 {c : Nat} {t u t' u' : Mem} {l l' : List Nat} (h : Oth c t u) (h1 : Fr t t' l) (h2 : Fr u u' l') (h3 : ∀ o, o ∈ keptT → ¬ o ∈ l) (h4 : ∀ o, o ∈ keptU → ¬ o ∈ l') (h5 : u'.1 39 10 = u.1 39 10) (h6 : u'.1 39 12 = u.1 39 12) (h7 : u'.1 39 14 = u.1 39 14) : Oth c t' u' := h.fr (fun o ho => h1.1 o (h3 o ho)) h1.2 (fun o ho => h2.1 o (h4 o ho)) h2.2 h5 h6 h7
theorem refuse_y {t : Mem} {k : Nat} (h1 : 1 ≤ k) (hk : k < 8) : f_X5_refuse (-nI k) t = some (-nI k, uI t 34 k (t.1 34 k + 1)) := by
  have e : (-nI k).toInt = -(k : Int) := by
    rw [Int32.toInt_neg, nI_toInt (by omega)]
    rw [Int.bmod_eq_of_le] <;> omega
  unfold f_X5_refuse
  rw [if_neg (by rw [i_lt, e, show ((-7 : Int32)).toInt = -7 by decide]; omega), if_neg (by rw [i_lt, e, show ((-1 : Int32)).toInt = -1 by decide]; omega), show -(-nI k) = nI k by simp, ck_t (inb_nI hk (by decide)), ck_t (inb_nI hk (by decide)), ltm_s, nI_clamp (by omega)]
theorem Rel.no {t u : Mem} (h : Rel t u) (k : Nat) : Rel (uI t 34 k (t.1 34 k + 1)) (uI u 46 k (u.1 46 k + 1)) := by
  obtain ⟨S, hl, hm, ok, hs, hi, hr, hf, hd, hj⟩ := h
  have ht : Fr t (uI t 34 k (t.1 34 k + 1)) [34] := Fr.uA t _ (List.mem_singleton.mpr rfl)
  have hu : Fr u (uI u 46 k (u.1 46 k + 1)) [46] := Fr.uA u _ (List.mem_singleton.mpr rfl)
  refine ⟨S, hl.fr ht (by decide) (by decide) (by decide) (by decide), hm.fr hu (by decide) (by decide) (by decide) (by decide), ok, fun K hK => (hs K hK).fr (ht.1 _ ?_) ht.2 (hu.1 _ (by decide)) (hu.1 _ (by decide)) hu.2, hi.fr (ht.1 _ (by decide)) (ht.1 _ (by decide)) (ht.1 _ (by decide)) (ht.1 _ (by decide)) (ht.1 _ (by decide)) (congrFun (hu.1 39 (by decide)) 14) (hu.1 _ (by decide)), ?_, ?_⟩
  · revert K hK; decide
  · intro j hj8
    show (uA t 34 _).1 34 j = (uA u 46 _).1 46 j
    rw [uA_same, uA_same]
    by_cases e : j = k
    · rw [e, upd_same, upd_same, hr k (by omega)]
    · rw [upd_ne _ e, upd_ne _ e, hr j hj8]
  · rw [ht.1 35 (by decide), ht.1 37 (by decide), ht.1 38 (by decide), hu.1 39 (by decide), hu.1 47 (by decide)]
    exact ⟨hf, hd, hj⟩
theorem Rel.ref {t u : Mem} (h : Rel t u) {k : Nat} (h1 : 1 ≤ k) (hk : k < 8) : ∃ t' u', f_X5_refuse (-nI k) t = some (-nI k, t') ∧ f_X6_no (-nI k) u = some (-nI k, u') ∧ Rel t' u' := ⟨_, _, refuse_y h1 hk, no_y hk, h.no k⟩
theorem Rel.ref10 {t u : Mem} (h : Rel t u) {k : Nat} (h1 : 1 ≤ k) (hk : k < 8) : ∃ t' u', f_X5_refuseBelowTen (-nI k) t = some (-nI k - 10, t') ∧ f_X6_no10 (-nI k) u = some (-nI k - 10, u') ∧ Rel t' u' := by
  refine ⟨_, _, ?_, no10_y hk, h.no k⟩
  unfold f_X5_refuseBelowTen
  rw [refuse_y h1 hk, bnd_s]
theorem stp13 {n : Nat} : Stp13 Rel n := fun t u h => by
  obtain ⟨S, hl, hm, ok, hs, hi, hr, hf, hd, hj⟩ := h
  exact ⟨_, t, u, rfl, by unfold f_X6_fault; rw [hf], S, hl, hm, ok, hs, hi, hr, hf, hd, hj⟩
theorem stp36 {n : Nat} : Stp36 Rel n := fun t u x h => by
  have h0 := h
  obtain ⟨S, hl, hm, ok, hs, hi, hr, hf, hd, hj⟩ := h
  unfold f_X5_trace f_X0_traced f_X6_trace
  rw [← hd]
  by_cases h1 : x < 0
  · rw [if_pos h1, if_pos h1]; exact ⟨_, t, u, rfl, rfl, h0⟩
  rw [if_neg h1, if_neg h1]
  by_cases h2 : t.1 37 1 ≤ x
  · rw [if_pos h2, if_pos h2]; exact ⟨_, t, u, rfl, rfl, h0⟩
  rw [if_neg h2, if_neg h2]
  by_cases h3 : 20 ≤ x
  · rw [if_pos h3, if_pos h3]; exact ⟨_, t, u, rfl, rfl, h0⟩
  rw [if_neg h3, if_neg h3]
  have e1 : ¬ x.toInt < 0 := fun e => h1 (i_lt.mpr e)
  have e3 : ¬ 20 ≤ x.toInt := fun e => h3 (i_le.mpr e)
  obtain ⟨j, ej⟩ : ∃ j : Nat, x.toInt = j := ⟨x.toInt.toNat, by omega⟩
  have ex : x = nI j := Int32.toInt_inj.mp (by rw [nI_toInt (by omega)]; exact ej)
  have hj2 : j < 20 := by omega
  subst ex
  rw [ck_t (inb_nI hj2 (by decide)), ck_t (inb_nI hj2 (by decide)), nI_clamp (by omega), bnd_s, hj j hj2 (Int32.not_le.mp h2)]
  exact ⟨_, t, u, rfl, rfl, h0⟩
