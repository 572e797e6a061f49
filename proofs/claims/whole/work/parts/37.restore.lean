/-! layer 2: restore -/
def shW (c : Nat) (i : Nat) (t u : Mem) : Prop := ∀ K, K < 8 → shR (if K < i then c else 8) t u K
theorem kepR_old {u u' : Mem} {S : Ld} (h : oldR u S) (e : u'.1 48 = u.1 48) : oldR u' S := by
  unfold oldR
  rw [e]
  exact h
/-- what stands while the shelves are gone through -/
def Rst (S : Ld) (i : Nat) (t u : Mem) : Prop := isLd t 0 S ∧ isMd u S ∧ okLd S ∧ shW (Sc S) i t u ∧ imR t u ∧ (∀ k, k < 8 → t.1 34 k = u.1 46 k) ∧ t.1 35 0 = u.1 39 10 ∧ t.1 37 1 = u.1 39 12 ∧ ∀ j, j < 20 → nI j < t.1 37 1 → t.1 38 j = u.1 47 j
theorem Rst.end {S : Ld} {t u : Mem} (h : Rst S 8 t u) : Rel t u := by
  obtain ⟨a, b, c, d, e⟩ := h
  refine ⟨S, a, b, c, fun K hK => ?_, e⟩
  have := d K hK
  rw [if_pos hK] at this
  exact this
theorem Rst.skip {S : Ld} {i : Nat} {t u : Mem} (h : Rst S i t u) (hs : shR (Sc S) t u i) : Rst S (i + 1) t u := by
  obtain ⟨a, b, c, d, e⟩ := h
  refine ⟨a, b, c, fun K hK => ?_, e⟩
  by_cases e1 : K = i
  · subst e1
    rw [if_pos (by omega)]
    exact hs
  · have := d K hK
    by_cases e2 : K < i
    · rw [if_pos e2] at this
      rw [if_pos (by omega)]
      exact this
    · rw [if_neg e2] at this
      rw [if_neg (by omega)]
      exact this
theorem Rst.drop {S : Ld} {i : Nat} {t u : Mem} (h : Rst S i t u) (hi : i < 8) : Rst S (i + 1) (uI (uI (uI t (18 + i) 3 (-1)) (18 + i) 2 (-1)) (18 + i) 1 0) (uI u 40 i (-1)) := by
  obtain ⟨a, b, c, d, e, f, g⟩ := h
  have t1 : ∀ o, ¬ o = 18 + i → (uI (uI (uI t (18 + i) 3 (-1)) (18 + i) 2 (-1)) (18 + i) 1 0).1 o = t.1 o := fun o ho => by
    unfold uI
    rw [uA_ne _ ho, uA_ne _ ho, uA_ne _ ho]
  have u1 : ∀ o, ¬ o = 40 → (uI u 40 i (-1)).1 o = u.1 o := fun o ho => uA_ne _ ho
  have a1 : (uI (uI (uI t (18 + i) 3 (-1)) (18 + i) 2 (-1)) (18 + i) 1 0).1 (18 + i) 2 = -1 := by
    unfold uI
    rw [uA_same, upd_ne _ (by decide), uA_same, upd_same]
  have a2 : (uI (uI (uI t (18 + i) 3 (-1)) (18 + i) 2 (-1)) (18 + i) 1 0).1 (18 + i) 3 = -1 := by
    unfold uI
    rw [uA_same, upd_ne _ (by decide), uA_same, upd_ne _ (by decide), uA_same, upd_same]
  have a3 : (uI u 40 i (-1)).1 40 i = -1 := by
    unfold uI
    rw [uA_same, upd_same]
  have h0 : Rst S i t u := ⟨a, b, c, d, e, f, g⟩
  refine ⟨a.rows (fun o ho => t1 o (by omega)), b.rows (u1 _ (by decide)) (u1 _ (by decide)) (u1 _ (by decide)) (u1 _ (by decide)), c, fun K hK => ?_, e.fr (t1 _ (by omega)) (t1 _ (by omega)) (t1 _ (by omega)) (t1 _ (by omega)) (t1 _ (by omega)) (congrFun (u1 39 (by decide)) 14) (u1 _ (by decide)), ?_, ?_⟩
  · by_cases e1 : K = i
    · subst e1
      exact .inl ⟨a1, a2, a3⟩
    · have q := d K hK
      have w : (if K < i + 1 then Sc S else 8) = if K < i then Sc S else 8 := by
        by_cases e2 : K < i
        · rw [if_pos e2, if_pos (by omega)]
        · rw [if_neg e2, if_neg (by omega)]
      rw [w]
      unfold shR at q ⊢
      rw [t1 (18 + K) (by omega), u1 41 (by decide), show (uI u 40 i (-1)).1 40 K = u.1 40 K by unfold uI; rw [uA_same, upd_ne _ e1]]
      exact q
  · rw [t1 34 (by omega), u1 46 (by decide)]; exact f
  · rw [t1 35 (by omega), t1 37 (by omega), t1 38 (by omega), u1 39 (by decide), u1 47 (by decide)]; exact g
theorem rest_step {S : Ld} {i n : Nat} {t u : Mem} (hi : i < 8) (h : Rst S i t u) : ∃ t' u', (∀ self, bd_X5_restore_27 n self (nI i, t) = self (nI (i + 1), t')) ∧ (∀ self, bd_X6_restore_24 n self (nI i, u) = self (nI (i + 1), u')) ∧ Rst S (i + 1) t' u' := by
  have hc := h.2.2.1.1
  have k1 : (nI i).toNatClampNeg = i := nI_clamp (by omega)
  have k2 : inb (nI i) 8 = true := inb_nI hi (by decide)
  have k3 : ¬ (8 : Int32) ≤ nI i := by rw [show (8 : Int32) = nI 8 from rfl, nI_le' (by omega) (by omega)]; omega
  have k4 : Fin.ofNat 8 i = ⟨i, hi⟩ := Fin.ext (Nat.mod_eq_of_lt hi)
  have q := h.2.2.2.1 i hi
  rw [if_neg (Nat.lt_irrefl i)] at q
  rcases q with ⟨a, b, c⟩ | ⟨p, hp, a, b, c⟩ | ⟨s, m, hs, hm', a, b, c, d, e, f⟩
  · refine ⟨t, u, fun self => ?_, fun self => ?_, h.skip (.inl ⟨a, b, c⟩)⟩
    · unfold bd_X5_restore_27
      dsimp only
      rw [if_neg k3, ck_t k2, k1, k4, hpl_n b, bnd_s, if_pos rfl, nI_s]
    · unfold bd_X6_restore_24
      dsimp only
      rw [if_neg k3, isRow_n hi (by rw [c]; decide), bnd_s, if_neg z_nn, ck_t k2, k1, c, h.2.1.1, if_pos (by rw [i_lt, nI_toInt (by omega)]; show (-1 : Int) < _; omega), nI_s]
  · by_cases g : p < Sc S
    · refine ⟨t, u, fun self => ?_, fun self => ?_, h.skip (.inr (.inl ⟨p, g, a, b, c⟩))⟩
      · unfold bd_X5_restore_27
        dsimp only
        rw [if_neg k3, ck_t k2, k1, k4, hpl_y (by omega) b, bnd_s, if_neg one_ne, show t.1 (oSh ⟨i, hi⟩) 3 = nI p from b, has_y h.1 hc g, bnd_s, if_pos one_ne, nI_s]
      · unfold bd_X6_restore_24
        dsimp only
        rw [if_neg k3, isRow_n hi (by rw [c]; exact pl_100 hp), bnd_s, if_neg z_nn, ck_t k2, k1, c, h.2.1.1, if_pos (by rw [nI_lt' (by omega) (by omega)]; omega), nI_s]
    · refine ⟨_, _, fun self => ?_, fun self => ?_, h.drop hi⟩
      · unfold bd_X5_restore_27
        dsimp only
        rw [if_neg k3, ck_t k2, k1, k4, hpl_y (by omega) b, bnd_s, if_neg one_ne, show t.1 (oSh ⟨i, hi⟩) 3 = nI p from b, has_n h.1 hc (by unfold plc; rw [nI_toInt (by omega), if_neg (by omega)]), bnd_s, if_neg z_nn, nI_s]
        rfl
      · unfold bd_X6_restore_24
        dsimp only
        rw [if_neg k3, isRow_n hi (by rw [c]; exact pl_100 hp), bnd_s, if_neg z_nn, ck_t k2, k1, c, h.2.1.1, if_neg (by rw [nI_lt' (by omega) (by omega)]; omega), ck_t k2, ltm_s, nI_s]
  · refine ⟨t, u, fun self => ?_, fun self => ?_, h.skip (.inr (.inr ⟨s, m, hs, hm', a, b, c, d, e, f⟩))⟩
    · unfold bd_X5_restore_27
      dsimp only
      rw [if_neg k3, ck_t k2, k1, k4, hpl_n b, bnd_s, if_pos rfl, nI_s]
    · unfold bd_X6_restore_24
      dsimp only
      rw [if_neg k3, isRow_y hi (by rw [d]; exact rw_100 hs), bnd_s, if_pos one_ne, nI_s]
theorem stp38 {n : Nat} (hn : 64 < n) : Stp38 Rel n := fun t u h0 => by
  obtain ⟨S, hl, hm, ok, ho⟩ := id h0
  unfold f_X5_restore f_X6_restore
  rcases ho.2.1 with ⟨a, b⟩ | ⟨a, b, S', c1, c2, c3⟩
  · rw [a, b, if_neg z_nn, if_neg z_nn]
    exact fin_no 6 h0 (by decide) (by decide)
  rw [a, b, if_pos one_ne, if_pos one_ne]
  obtain ⟨t1, d1, d2, d3⟩ := become_y (L := 0) (M := 2) c1 (by decide)
  obtain ⟨u1, e1, e2, e3, e4, e5⟩ := again_y (B := 0) hn (show kepR (oKp 0) u S' from c2)
  rw [d1, bnd_s, e1, bnd_s]
  have hx : ∀ o, o ∈ keptT → t1.1 o = t.1 o := fun o hh => d3.1 o (by revert o; decide)
  have hy : ∀ o, o ∈ keptU → u1.1 o = u.1 o := fun o hh => e4 o (by revert o; decide)
  have ho1 : Oth (Sc S) t1 u1 := ho.fr hx d3.2 hy e3 (e5 _ (by decide)) (e5 _ (by decide)) (e5 _ (by decide))
  have hR : Rst S' 0 t1 u1 := ⟨d2, e2, c3, fun K hK => (ho1.1 K hK).mono (by rw [if_neg (Nat.not_lt_zero K)]; exact ok.1), ho1.2⟩
  obtain ⟨r1, r2, g1, g2, g3⟩ := iter_two (b1 := bd_X5_restore_27 n) (b2 := bd_X6_restore_24 n) 8 (fun i s1 s2 => s1.1 = nI i ∧ s2.1 = nI i ∧ Rst S' i s1.2 s2.2) (fun r1 r2 => ∃ r t' u', r1 = some (r, t') ∧ r2 = some (r, u') ∧ Rel t' u') (by
    rintro i ⟨x, t⟩ ⟨y, u⟩ hi ⟨rfl, rfl, h⟩
    obtain ⟨t', u', h1, h2, h3⟩ := rest_step (n := n) hi h
    exact ⟨_, _, h1, h2, rfl, rfl, h3⟩) (by
    rintro ⟨x, t⟩ ⟨y, u⟩ ⟨rfl, rfl, h⟩
    refine ⟨some (nI (Sc S'), t), some (nI (Sc S'), u), fun self => ?_, fun self => ?_, _, t, u, rfl, rfl, h.end⟩
    · unfold bd_X5_restore_27
      dsimp only
      rw [if_pos (by decide), show t.1 (oLd 0) 3 = nI (Sc S') from h.1.1]
    · unfold bd_X6_restore_24
      dsimp only
      rw [if_pos (by decide), h.2.1.1]) n 0 (0, t1) (0, u1) (by omega) (by omega) ⟨rfl, rfl, hR⟩
  rw [g1, g2]
  exact g3
