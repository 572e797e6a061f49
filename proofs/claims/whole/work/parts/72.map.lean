/-! layer 2: map -/
theorem iter_j3 {S1 S2 R1 R2 : Type} {b1 : (S1 → Option R1) → S1 → Option R1} {b2 : (S2 → Option R2) → S2 → Option R2} (c : Nat) (R : Nat → S1 → S2 → Prop) (P : Option R1 → Option R2 → Prop) (hstep : ∀ (self1 : S1 → Option R1) (self2 : S2 → Option R2) (i : Nat) (s1 : S1) (s2 : S2), i < c → R i s1 s2 → (∃ s1' s2', b1 self1 s1 = self1 s1' ∧ b2 self2 s2 = self2 s2' ∧ R (i + 1) s1' s2') ∨ (∃ s2', b2 self2 s2 = self2 s2' ∧ ∀ k, 3 ≤ k → P (b1 self1 s1) (iter b2 k s2')) ∨ P (b1 self1 s1) (b2 self2 s2)) (hexit : ∀ (s1 : S1) (s2 : S2), ¬ R c s1 s2) : ∀ (k1 k2 i : Nat) (s1 : S1) (s2 : S2), i ≤ c → c - i < k1 → c - i + 4 < k2 → R i s1 s2 → P (iter b1 k1 s1) (iter b2 k2 s2) := by
  intro k1
  induction k1 with
  | zero => intro k2 i s1 s2 _ h; omega
  | succ k1 ih =>
    intro k2 i s1 s2 hi hk1 hk2 hR
    obtain ⟨k, rfl⟩ : ∃ k, k2 = k + 1 := ⟨k2 - 1, by omega⟩
    show P (b1 (iter b1 k1) s1) (b2 (iter b2 k) s2)
    by_cases e : i = c
    · subst e; exact absurd hR (hexit s1 s2)
    · rcases hstep (iter b1 k1) (iter b2 k) i s1 s2 (by omega) hR with ⟨s1', s2', h1, h2, h3⟩ | ⟨s2', h1, h2⟩ | h1
      · rw [h1, h2]; exact ih k (i + 1) s1' s2' (by omega) (by omega) (by omega) h3
      · rw [h1]; exact h2 k (by omega)
      · exact h1
theorem Oth.fl {c : Nat} {t u v z : Mem} (h : Oth c t u) (f1 : ∀ o, ¬ o ∈ [1, 4, 7, 10, 2, 5, 8, 11, 35, 36] → v.1 o = t.1 o) (f2 : v.2 = t.2) (g1 : ∀ o, o ∈ keptU → z.1 o = u.1 o) (g2 : z.2 = u.2) (g3 : z.1 39 12 = u.1 39 12) (g4 : z.1 39 14 = u.1 39 14) (e : v.1 35 0 = z.1 39 10) : Oth c v z := by
  refine ⟨fun K hK => (h.1 K hK).fr (f1 _ (sh_n hK (by decide))) f2 (g1 _ (by decide)) (g1 _ (by decide)) g2, h.2.1.fr (f1 _ (by decide)) (f1 _ (by decide)) (f1 _ (by decide)) (f1 _ (by decide)) (f1 _ (by decide)) g4 (g1 _ (by decide)), ?_, e, ?_, ?_⟩
  · intro k hk
    rw [f1 34 (by decide), g1 46 (by decide)]
    exact h.2.2.1 k hk
  · rw [f1 37 (by decide), g3]
    exact h.2.2.2.2.1
  · rw [f1 37 (by decide), f1 38 (by decide), g1 47 (by decide)]
    exact h.2.2.2.2.2
def mpE (n : Nat) (w : Mem) (e : Nat) : Option (Int32 × Mem) := bnd (f_X6_again n 1 (uI w 39 10 (nI e))) fun _ t11 => bnd (f_X6_no (-6) t11) fun r12 t13 => some (r12, t13)
theorem map_loop {v0 u0 : Mem} {S : Ld} {K m k0 : Nat} {T : Nat → Int32} (hn : 170 < k0) (hK : K < 8) (hm2 : m ≤ 160) (h0 : psP K m T S 0 v0 u0) : (∃ r S' v w, iter (bd_X3_read_12 (k0 + 4) ⟨K, hK⟩ 1) (k0 + 4) (0, v0) = some (r, v) ∧ iter (bd_X6_map_39 (k0 + 4) (nI K)) (k0 + 4) (0, 1, u0) = some (r, uI w 39 10 (-1)) ∧ isLd v 1 S' ∧ isMd w S' ∧ okLd S' ∧ Sc S ≤ Sc S' ∧ v.1 35 0 = -1 ∧ frA v0 v ∧ frB u0 w) ∨ (∃ x e v w, iter (bd_X3_read_12 (k0 + 4) ⟨K, hK⟩ 1) (k0 + 4) (0, v0) = some (x, v) ∧ iter (bd_X6_map_39 (k0 + 4) (nI K)) (k0 + 4) (0, 1, u0) = mpE (k0 + 4) w e ∧ e ≤ 1000 ∧ v.1 35 0 = nI e ∧ frA v0 v ∧ frB u0 w) := by
  refine iter_j3 (b1 := bd_X3_read_12 (k0 + 4) ⟨K, hK⟩ 1) (b2 := bd_X6_map_39 (k0 + 4) (nI K)) 161 (fun k s1 s2 => ∃ S' a v w, s1 = (nI k, v) ∧ s2 = (nI k, 1, w) ∧ psP K m T S' a v w ∧ k ≤ a ∧ Sc S ≤ Sc S' ∧ frA v0 v ∧ frB u0 w) (fun c d => (∃ r S' v w, c = some (r, v) ∧ d = some (r, uI w 39 10 (-1)) ∧ isLd v 1 S' ∧ isMd w S' ∧ okLd S' ∧ Sc S ≤ Sc S' ∧ v.1 35 0 = -1 ∧ frA v0 v ∧ frB u0 w) ∨ (∃ x e v w, c = some (x, v) ∧ d = mpE (k0 + 4) w e ∧ e ≤ 1000 ∧ v.1 35 0 = nI e ∧ frA v0 v ∧ frB u0 w)) ?_ ?_ (k0 + 4) (k0 + 4) 0 _ _ (Nat.zero_le _) (by omega) (by omega) ⟨S, 0, v0, u0, rfl, rfl, h0, Nat.le_refl _, Nat.le_refl _, frA.rf v0, frB.rf u0⟩
  · intro s1 s2 k y1 y2 hk hR
    obtain ⟨S', a, v, w, rfl, rfl, hP, hka, hS, hA, hB⟩ := hR
    have hk160 : ¬ (160 : Int32) < nI k := by rw [show (160 : Int32) = nI 160 from rfl, nI_lt' (by omega) (by omega)]; omega
    -- the reference behind a failed turn
    have tail : ∀ (x : Nat) (w1 : Mem) (e i : Nat), 3 ≤ i → w1.1 39 18 = nI e → iter (bd_X6_map_39 (k0 + 4) (nI K)) i (nI x, 0, w1) = mpE (k0 + 4) w1 e := by
      intro x w1 e i hi he
      obtain ⟨i, rfl⟩ : ∃ j, i = j + 1 := ⟨i - 1, by omega⟩
      show bd_X6_map_39 (k0 + 4) (nI K) _ (nI x, 0, w1) = _
      unfold bd_X6_map_39 mpE
      dsimp only
      rw [if_pos rfl, he, ltm_s]
    rcases read_item (k := k0) (by omega) hK hm2 hP with ⟨e, v1, w1, g1, g2, g0, g3, g4, g5, g6⟩ | ⟨S1, e, v1, w1, g1, g2, g3, g4, g5, g6, g7⟩
    · right
      have c1 : bd_X3_read_12 (k0 + 4) ⟨K, hK⟩ 1 s1 (nI k, v) = some (nI k, v1) := by
        unfold bd_X3_read_12
        dsimp only
        rw [if_neg hk160, g1, bnd_s, if_pos rfl]
      have c2 : bd_X6_map_39 (k0 + 4) (nI K) s2 (nI k, 1, w) = s2 (nI k, 0, w1) := by
        unfold bd_X6_map_39 jn_X6_map_58 jn_X6_map_83
        dsimp only
        rw [if_neg one_ne, g2, bnd_s, if_pos rfl, if_pos rfl, if_pos rfl]
      left
      refine ⟨_, c2, fun i hi => ?_⟩
      rw [c1]
      exact .inr ⟨_, e, v1, w1, rfl, tail k w1 e i hi g4, g0, g3, hA.trans g5, hB.trans g6⟩
    · obtain ⟨i1, i2, i3, i4, i5, i6, i7⟩ := id g3
      have hsz : v1.1 (oSh ⟨K, hK⟩) 1 = nI m := i4.1.1
      have is59 := is_y (59 : Int32) hK i5 hm2 (by omega)
      have c2 : bd_X6_map_39 (k0 + 4) (nI K) s2 (nI k, 1, w) = if ¬ nI e = nI m then (bnd (if sg m T e = 59 then some ((1 : Int32), uI w1 39 18 (nI (e + 1))) else some (0, w1)) fun r22 t23 => s2 (nI (k + 1), r22, t23)) else some (nI (k + 1), uI w1 39 10 (-1)) := by
        unfold bd_X6_map_39 jn_X6_map_58 jn_X6_map_83
        dsimp only
        rw [if_neg one_ne, g2, bnd_s, if_neg one_ne, if_neg one_ne, if_neg one_ne, ck_t (inb_nI hK (by decide)), i5.2.2.2, nI_clamp (by omega), i5.2.1, is59, ltm_s, nI_s]
      have c1 : bd_X3_read_12 (k0 + 4) ⟨K, hK⟩ 1 s1 (nI k, v) = if nI e < nI m then (bnd (f_X4_asInt ⟨K, hK⟩ (nI e) v1) fun r8 t9 => if r8 = 59 then (lt (uI t9 35 2 ((t9.1 35 2) + 1)) fun t11 => s1 (nI (k + 1), t11)) else lt (uI t9 35 0 (t9.1 35 2)) fun t12 => some (nI (k + 1), t12)) else some (nI (k + 1), v1) := by
        unfold bd_X3_read_12
        dsimp only
        rw [if_neg hk160, g1, bnd_s, if_neg one_ne, i4.2, hsz, nI_s]
      by_cases e1 : e < m
      · have hsg : sg m T e = T e := if_pos e1
        rw [if_pos (by rw [nI_lt' (by omega) (by omega)]; exact e1), asI_y hK i4.1 hm2 e1, bnd_s, i4.2, nI_s, ltm_s, ltm_s] at c1
        rw [if_pos (nI_ne (by omega) (by omega) (by omega)), hsg] at c2
        by_cases e2 : T e = 59
        · left
          rw [if_pos e2] at c1
          rw [if_pos e2, bnd_s] at c2
          refine ⟨_, _, c1, c2, S1, e + 1, _, _, rfl, rfl, ⟨i1.c (frC.up v1 _ (by decide)), i2.q (atR.up w1 _).q, i3, ⟨i4.1.fr (by unfold uI; rw [uA_ne _ (show ¬ 18 + K = 35 by omega)]) rfl, by rw [uI_same, upd_same]⟩, i5.at, by rw [uI_same, upd_ne _ (by decide)]; exact i6, by omega⟩, by omega, by omega, (hA.trans g6).trans (frC.up v1 _ (by decide)).a, (hB.trans g7).trans (atR.up w1 _).q.b⟩
        · right
          left
          rw [if_neg e2] at c1
          rw [if_neg e2, bnd_s] at c2
          refine ⟨_, c2, fun i hi => ?_⟩
          rw [c1]
          exact .inr ⟨_, e, _, w1, rfl, tail (k + 1) w1 e i hi i5.2.2.2, by omega, by rw [uI_same, upd_same], (hA.trans g6).trans (frC.up v1 _ (by decide)).a, hB.trans g7⟩
      · have em : e = m := by omega
        rw [if_neg (by rw [nI_lt' (by omega) (by omega)]; exact e1)] at c1
        rw [if_neg (fun g => g (by rw [em]))] at c2
        right
        right
        rw [c1, c2]
        exact .inl ⟨_, S1, v1, w1, rfl, rfl, i1, i2, i3, by omega, i6, hA.trans g6, hB.trans g7⟩
  · intro s1 s2 hR
    obtain ⟨S', a, v, w, rfl, rfl, hP, hka, _⟩ := hR
    have := hP.2.2.2.2.2.2
    omega
theorem stp12 {n : Nat} (hn : 1000 < n) : Stp12 Rel n := fun t u x1 h0 => by
  obtain ⟨S, hl, hm, ok, ho⟩ := id h0
  have hc := ok.1
  unfold f_X5_map f_X6_map
  rcases rowp x1 ok ho with ⟨s, k, k1, k2, a, b, c⟩ | ⟨K, hK, m, T, rfl, hm2, a, b, c, d, hT, hU⟩
  · rw [a, bnd_s, b, bnd_s, c, bnd_s, if_neg (ng_ne k1 (by omega)), if_neg (ng_lt k1 (by omega))]
    exact fin_no k h0 k1 (by omega)
  rw [a, bnd_s, b, bnd_s, c, bnd_s, if_pos rfl, if_pos (by decide)]
  obtain ⟨t1, a1, a2, a3⟩ := become_y (L := 1) (M := 0) hl (by decide)
  obtain ⟨u1, b1, b2, b3⟩ := keep_y (B := 1) (n := n) (by omega) hm
  have hm1 := hm.fr b3 (by decide) (by decide) (by decide) (by decide)
  obtain ⟨k0, rfl⟩ : ∃ k0, n = k0 + 4 := ⟨n - 4, by omega⟩
  generalize hv0 : uI (uI t1 35 0 (-1)) 35 2 0 = v0
  generalize hw0 : uI (uI u1 39 17 (nI K)) 39 18 0 = w0
  have fC : frC t1 v0 := by
    rw [← hv0]
    exact (frC.up t1 _ (by decide)).trans (frC.up _ _ (by decide))
  have gW : w0.2 = u1.2 ∧ (∀ o, ¬ o = 39 → w0.1 o = u1.1 o) ∧ ∀ j, ¬ j = 17 → ¬ j = 18 → w0.1 39 j = u1.1 39 j := by
    rw [← hw0]
    refine ⟨rfl, fun o ho => ?_, fun j h1 h2 => ?_⟩
    · unfold uI
      rw [uA_ne _ ho, uA_ne _ ho]
    · rw [m39 h2, m39 h1]
  have hM0 : isMd w0 S := by
    unfold isMd
    rw [gW.2.2 3 (by decide) (by decide), gW.2.2 7 (by decide) (by decide), gW.2.2 8 (by decide) (by decide), gW.2.2 9 (by decide) (by decide), gW.2.1 43 (by decide), gW.2.1 44 (by decide), gW.2.1 45 (by decide)]
    exact hm1
  have hT0 : rwT v0 K m T := (hT.fr (a3.1 _ (sh_n hK (by decide))) a3.2).fr (fC.2 _ (sh_n hK (by decide))) fC.1
  have hU0 : rwU w0 K T := (hU.fr b3.2).fr gW.1
  have hP : psP K m T S 0 v0 w0 := by
    refine ⟨a2.c fC, hM0, ok, ⟨hT0, ?_⟩, ⟨hU0, ?_, ?_, ?_⟩, ?_, Nat.zero_le _⟩
    · rw [← hv0, uI_same, upd_same]; rfl
    · rw [gW.2.1 41 (by decide), b3.1 41 (by decide)]; exact d
    · rw [← hw0, m39 (by decide), uI_same, upd_same]
    · rw [← hw0, uI_same, upd_same]; rfl
    · rw [← hv0, uI_same, upd_ne _ (by decide), uI_same, upd_same]
  have hC : f_X3_read (k0 + 4) ⟨K, hK⟩ 1 t1 = iter (bd_X3_read_12 (k0 + 4) ⟨K, hK⟩ 1) (k0 + 4) (0, v0) := by
    unfold f_X3_read
    rw [ltm_s, ltm_s, hv0]
  -- frames
  have hAt : ∀ v, frA v0 v → v.2 = t.2 ∧ ∀ o, ¬ o ∈ [2, 5, 8, 11, 35, 36] → v.1 o = t.1 o := by
    intro v h
    have h2 := (a3.a.trans fC.a).trans h
    exact ⟨h2.1, h2.2⟩
  have hBt : ∀ w, frB w0 w → w.2 = u.2 ∧ (∀ o, ¬ o ∈ [39, 43, 44, 45, 49, 50] → w.1 o = u.1 o) ∧ ∀ j, ¬ j ∈ [3, 7, 8, 9, 17, 18] → w.1 39 j = u.1 39 j := by
    intro w h
    refine ⟨h.1.trans (gW.1.trans b3.2), fun o ho => ?_, fun j hj => ?_⟩
    · rw [h.2.1 o (fun g => ho (by revert g; simp only [List.mem_cons, List.not_mem_nil, or_false]; omega)), gW.2.1 o (fun g => ho (by rw [g]; decide)), b3.1 o (fun g => ho (by rw [List.mem_singleton.mp g]; decide))]
    · rw [h.2.2 j (fun g => hj (by revert g; simp only [List.mem_cons, List.not_mem_nil, or_false]; omega)), gW.2.2 j (fun g => hj (by rw [g]; decide)) (fun g => hj (by rw [g]; decide)), b3.1 39 (by decide)]
  rw [a1, bnd_s, nn_s, hC, b1, bnd_s, ltm_s, ltm_s, hw0]
  rcases map_loop (k0 := k0) (by omega) hK hm2 hP with ⟨r, S', v, w, g1, g2, g3, g4, g5, g6, g7, g8, g9⟩ | ⟨x, e, v, w, g1, g2, g0, g3, g4, g5⟩
  · obtain ⟨v', d1, d2, d3⟩ := become_y (L := 0) (M := 1) g3 (by decide)
    rw [g1, bnd_s, if_pos g7, d1, bnd_s, g2]
    have d3' : Fr v v' [1, 4, 7, 10] := d3.mono (by decide)
    have hA := hAt v g8
    have hB := hBt w g9
    have hz : isMd (uI w 39 10 (-1)) S' := by
      unfold isMd
      rw [m39 (by decide), m39 (by decide), m39 (by decide), m39 (by decide)]
      unfold uI
      rw [uA_ne _ (by decide), uA_ne _ (by decide), uA_ne _ (by decide)]
      exact g4
    refine ⟨_, _, _, rfl, rfl, S', d2, hz, g5, (ho.mono g6).fl (fun o ho => ?_) (d3.2.trans hA.1) (fun o ho => ?_) hB.1 ?_ ?_ ?_⟩
    · rw [d3'.1 o (fun g => ho (by revert g; simp only [List.mem_cons, List.not_mem_nil, or_false]; omega)), hA.2 o (fun g => ho (by revert g; simp only [List.mem_cons, List.not_mem_nil, or_false]; omega))]
    · unfold uI
      rw [uA_ne _ (fun g => by rw [g] at ho; revert ho; decide), hB.2.1 o (by revert ho; unfold keptU; simp only [List.mem_cons, List.not_mem_nil, or_false]; omega)]
    · rw [m39 (by decide), hB.2.2 12 (by decide)]
    · rw [m39 (by decide), hB.2.2 14 (by decide)]
    · rw [d3.1 35 (by decide), g7, uI_same, upd_same]
  · rw [g1, bnd_s, g3, if_neg (nI_nm (by omega)), g2]
    have hA := hAt v g4
    have hB := hBt w g5
    unfold mpE
    have hk : kepR 49 (uI w 39 10 (nI e)) S := by
      refine kepR.fr (o := 49) b2 ?_
      unfold uI
      rw [uA_ne _ (show ¬ 49 = 39 by decide), g5.2.1 49 (by decide), gW.2.1 49 (by decide)]
    obtain ⟨z, z1, z2, z3⟩ := again_fr (n := k0 + 4) (by omega) hk
    rw [z1, bnd_s]
    refine fin_no 6 ⟨S, hl.fr (l := [2, 5, 8, 11, 35, 36]) ⟨hA.2, hA.1⟩ (by decide) (by decide) (by decide) (by decide), z2, ok, ho.fl (fun o ho => hA.2 o (fun g => ho (by revert g; simp only [List.mem_cons, List.not_mem_nil, or_false]; omega))) hA.1 (fun o ho => ?_) (z3.1.trans hB.1) ?_ ?_ ?_⟩ (by decide) (by decide)
    · rw [z3.2.1 o (by revert ho; unfold keptU; simp only [List.mem_cons, List.not_mem_nil, or_false]; omega)]
      unfold uI
      rw [uA_ne _ (fun g => by rw [g] at ho; revert ho; decide), hB.2.1 o (by revert ho; unfold keptU; simp only [List.mem_cons, List.not_mem_nil, or_false]; omega)]
    · rw [z3.2.2 12 (by decide), m39 (by decide), hB.2.2 12 (by decide)]
    · rw [z3.2.2 14 (by decide), m39 (by decide), hB.2.2 14 (by decide)]
    · rw [g3, z3.2.2 10 (by decide), uI_same, upd_same]
