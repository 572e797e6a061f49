/-! layer 2: journey, the walk -/
theorem iter_jn {S1 S2 R1 R2 : Type} {b1 : (S1 → Option R1) → S1 → Option R1} {b2 : (S2 → Option R2) → S2 → Option R2} (c : Nat) (R : Nat → S1 → S2 → Prop) (P : Option R1 → Option R2 → Prop) (hstep : ∀ (self1 : S1 → Option R1) (self2 : S2 → Option R2) (i : Nat) (s1 : S1) (s2 : S2), i < c → R i s1 s2 → (∃ s1' s2', b1 self1 s1 = self1 s1' ∧ b2 self2 s2 = self2 s2' ∧ R (i + 1) s1' s2') ∨ (∃ s2', b2 self2 s2 = self2 s2' ∧ ∀ k, 3 ≤ k → P (b1 self1 s1) (iter b2 k s2'))) (hexit : ∀ (s1 : S1) (s2 : S2), ¬ R c s1 s2) : ∀ (k1 k2 i : Nat) (s1 : S1) (s2 : S2), i ≤ c → c - i < k1 → c - i + 4 < k2 → R i s1 s2 → P (iter b1 k1 s1) (iter b2 k2 s2) := by
  intro k1
  induction k1 with
  | zero => intro k2 i s1 s2 _ h; omega
  | succ k1 ih =>
    intro k2 i s1 s2 hi hk1 hk2 hR
    obtain ⟨k, rfl⟩ : ∃ k, k2 = k + 1 := ⟨k2 - 1, by omega⟩
    show P (b1 (iter b1 k1) s1) (b2 (iter b2 k) s2)
    by_cases e : i = c
    · subst e; exact absurd hR (hexit s1 s2)
    · rcases hstep (iter b1 k1) (iter b2 k) i s1 s2 (by omega) hR with ⟨s1', s2', h1, h2, h3⟩ | ⟨s2', h1, h2⟩
      · rw [h1, h2]; exact ih k (i + 1) s1' s2' (by omega) (by omega) (by omega) h3
      · rw [h1]; exact h2 k (by omega)
theorem le9999 {d : Nat} (hd : d ≤ 100000) : nI d ≤ (9999 : Int32) ↔ d ≤ 9999 := by
  rw [show (9999 : Int32) = nI 9999 from rfl, nI_le' (by omega) (by omega)]
theorem mtail {n d a b o K j : Nat} {y1 f : Int32} {w z : Mem} (hz : f_X6_again n 1 w = some ((), z)) (hf : ¬ f = 0) (k : Nat) (hk : 1 ≤ k) : iter (bd_X6_journey_63 n y1 (nI o) (nI K) (nI j)) k (nI d, nI a, nI b, f, w) = if f = 1 then some (nI d, z) else some (f, z) := by
  obtain ⟨k, rfl⟩ : ∃ i, k = i + 1 := ⟨k - 1, by omega⟩
  show bd_X6_journey_63 n y1 (nI o) (nI K) (nI j) _ (nI d, nI a, nI b, f, w) = _
  unfold bd_X6_journey_63
  dsimp only
  rw [if_pos hf, hz, bnd_s]
  by_cases e : f = 1
  · rw [if_pos e, if_neg (fun g => g e)]
  · rw [if_neg e, if_pos e]
theorem m168 {n d a b o K j : Nat} {y1 : Int32} {w : Mem} {S' : Ld} {s63 : Int32 × Int32 × Int32 × Int32 × Mem → Option (Int32 × Mem)} (hn : 8 < n) (hm : isMd w S') (ok : okLd S') (ha : a < Sc S') (ho : o < Sc S') (hd : d ≤ 100000) : ∃ w', Fr w w' [51] ∧ isMd w' S' ∧ jn_X6_journey_168 n y1 (nI o) (nI K) (nI j) s63 (nI d) (nI a) (nI b) 0 w = (if d ≤ 9999 then (if a = o then s63 (nI d, nI a, nI b, 1, w') else if dS S' a o = 10000 then s63 (nI d, nI a, nI b, -1, w') else bnd (f_X6_next n (nI a) (nI o) w') fun r38 t39 => ck (inb ((8 * nI a) + r38) 64) <| lti (nI d + (t39.1 45 ((8 * nI a) + r38).toNatClampNeg)) fun y41 => s63 (y41, r38, nI b, 0, t39)) else s63 (nI d, nI a, nI b, -2, w')) ∧ isFar w' (Sc S') (dS S') := by
  have hc := ok.1
  have hD := dS_le ok.w a o
  obtain ⟨w', a1, a2, a3⟩ := walk_y (n := n) hn hm ok.w
  refine ⟨w', a2, hm.fr a2 (by decide) (by decide) (by decide) (by decide), ?_, a3⟩
  unfold jn_X6_journey_168
  rw [a1, bnd_s]
  by_cases e1 : d ≤ 9999
  · rw [if_pos ((le9999 hd).mpr e1), if_pos e1]
    by_cases e2 : a = o
    · rw [if_pos e2, if_neg (fun g => g (by rw [e2]))]
    · rw [if_neg e2, if_pos (nI_ne (by omega) (by omega) e2), ck_t (inb8' (by omega) (by omega)), mfar' a3 hc ha ho]
      by_cases e3 : dS S' a o = 10000
      · rw [if_pos e3, if_neg (fun g => g (by rw [e3]; rfl))]
      · rw [if_neg e3, if_pos (show ¬ nI (dS S' a o) = 10000 from nI_ne (b := 10000) (by omega) (by omega) e3)]
  · rw [if_neg (fun g => e1 ((le9999 hd).mp g)), if_neg e1]
theorem walk_both {t u u1 : Mem} {S : Ld} {K m n j x o : Nat} {T : Nat → Int32} {x1 y1 : Int32} (hn : 10010 < n) (hK : K < 8) (ho : Oth (Sc S) t u) (hl : isLd t 0 S) (ok : okLd S) (hT : rwT t K m T) (hU : rwU u1 K T) (hm2 : m ≤ 160) (hj : j * 4 ≤ m) (hj2 : j ≤ 10) (hx : x < Sc S) (hoo : o < Sc S) (hk49 : kepR 49 u1 S) (hu1 : Fr u u1 [49]) {v0 : Mem} (hJ : jF S t u1 S v0 u1) (hwk : ∀ i, i < j → wkP S T i) (hv0 : isLn v0 1 (Sc S) (dS S)) : ∃ r v z, iter (bd_X5_walk_34 n x1 (nI o) ⟨K, hK⟩ (nI j)) n (nI x, 0, 0, 0, v0) = some (r, v) ∧ iter (bd_X6_journey_63 n y1 (nI o) (nI K) (nI j)) n (0, nI x, 0, 0, u1) = some (r, z) ∧ Rel v z := by
  have hc := ok.1
  have fin : ∀ v w, Fr t v [2, 5, 8, 11, 14, 16] → Fr u1 w [45, 51] → ∃ z, f_X6_again n 1 w = some ((), z) ∧ Rel v z := by
    intro v w h1 h2
    obtain ⟨z, z1, z2, z3⟩ := again_fr (n := n) (by omega) (hk49.fr (h2.1 49 (by decide)))
    refine ⟨z, z1, S, hl.fr h1 (by decide) (by decide) (by decide) (by decide), z2, ok, ?_⟩
    exact (ho.two h1 ((hu1.mono (by decide)).trans (h2.mono (by decide)) : Fr u w [45, 49, 51]) (by decide) (by decide) (by decide)).u (Fr.rf v []) (by decide) z3
  refine iter_jn (b1 := bd_X5_walk_34 n x1 (nI o) ⟨K, hK⟩ (nI j)) (b2 := bd_X6_journey_63 n y1 (nI o) (nI K) (nI j)) 10000 (fun k s1 s2 => ∃ a d b S' v w, a < Sc S ∧ d ≤ 9999 ∧ k ≤ d ∧ b ≤ j ∧ s1 = (nI a, nI d, nI b, nI k, v) ∧ s2 = (nI d, nI a, nI b, 0, w) ∧ jF S t u1 S' v w ∧ (∀ i, i < j → wkP S' T i) ∧ isLn v 1 (Sc S) (dS S')) (fun r1 r2 => ∃ r v z, r1 = some (r, v) ∧ r2 = some (r, z) ∧ Rel v z) ?_ ?_ n n 0 _ _ (Nat.zero_le _) (by omega) (by omega) ⟨x, 0, 0, S, v0, u1, hx, by omega, Nat.le_refl _, Nat.zero_le _, rfl, rfl, hJ, hwk, hv0⟩
  · intro s1 s2 k q1 q2 hk hR
    obtain ⟨a, d, b, S', v, w, ha, hd, hkd, hb, rfl, rfl, hF, hw, hv⟩ := hR
    have m63 : ∀ {d a b w} (self : Int32 × Int32 × Int32 × Int32 × Mem → Option (Int32 × Mem)), bd_X6_journey_63 n y1 (nI o) (nI K) (nI j) self (nI d, nI a, nI b, 0, w) = iter (bd_X6_journey_68 n y1 (nI o) (nI K) (nI j) self) n (nI d, nI a, nI b, 0, w) := by
      intro d a b w self
      unfold bd_X6_journey_63
      dsimp only
      rw [if_neg z_nn]
    have c34 : bd_X5_walk_34 n x1 (nI o) ⟨K, hK⟩ (nI j) s1 (nI a, nI d, nI b, nI k, v) = if a = o then some (nI d, v) else iter (bd_X5_walk_52 n x1 (nI o) ⟨K, hK⟩ (nI j) s1) n (nI a, nI d, nI b, nI k, nI b, v) := by
      unfold bd_X5_walk_34
      dsimp only
      rw [if_neg (show ¬ (9999 : Int32) < nI k by rw [show (9999 : Int32) = nI 9999 from rfl, nI_lt' (by omega) (by omega)]; omega)]
      by_cases e : a = o
      · rw [if_pos (by rw [e]), if_pos e]
      · rw [if_neg (nI_ne (by omega) (by omega) e), if_neg e]
    obtain ⟨b', S'', v', w', hb', g1, g2, g3, g4, g5⟩ := bends (n := n) (a := a) (o := o) (d := d) (k := k) (x1 := x1) (y1 := y1) (s34 := s1) (s63 := s2) (by omega) hK hT hU hm2 hj hj2 hF hw hb
    obtain ⟨l1, l2, l3, l4, l5, l6⟩ := id g3
    obtain ⟨w3, n1, n2, n3, n4⟩ := m168 (n := n) (d := d) (a := a) (b := b') (o := o) (K := K) (j := j) (y1 := y1) (s63 := s2) (by omega) l2 l3 (by omega) (by omega) (by omega)
    have hw3 : Fr u1 w3 [45, 51] := l6.trans (n1.mono (by decide))
    rw [c34, m63, g2, n3, if_pos hd]
    by_cases e : a = o
    · rw [if_pos e, if_pos e]
      right
      obtain ⟨z, z1, z2⟩ := fin v w3 hF.2.2.2.2.1 hw3
      refine ⟨_, rfl, fun i hi => ?_⟩
      rw [mtail z1 one_ne i (by omega), if_pos rfl]
      exact ⟨_, _, _, rfl, rfl, z2⟩
    rw [if_neg e, if_neg e, g1]
    -- the class has measured
    have hmeas : ∃ v3, jn_X5_walk_115 n x1 (nI o) ⟨K, hK⟩ (nI j) s1 (nI a) (nI d) (nI b') (nI k) (nI b) v' = jn_X5_walk_133 n x1 (nI o) ⟨K, hK⟩ (nI j) s1 (nI a) (nI d) (nI b') (nI k) v3 ∧ isLd v3 1 S'' ∧ Fr t v3 [2, 5, 8, 11, 14, 16] ∧ isLn v3 1 (Sc S'') (dS S'') := by
      unfold jn_X5_walk_115
      by_cases eb : b' = b
      · obtain ⟨e1, e2⟩ := g5 eb
        refine ⟨v', by rw [if_pos (by rw [eb])], l1, l5, ?_⟩
        rw [l4, e1, e2]
        exact hv
      · obtain ⟨v3, i1, i2, i3⟩ := measure_y (n := n) (J := 1) (by omega) l1 l3.w
        refine ⟨v3, by rw [if_neg (nI_ne (by omega) (by omega) eb), i1, bnd_s], l1.lc i2, l5.trans (i2.mono (by decide)), i3⟩
    obtain ⟨v3, i1, i2, i3, i4⟩ := hmeas
    have hc'' := l3.1
    have hD := dS_le l3.w a o
    rw [i1]
    have c133 : jn_X5_walk_133 n x1 (nI o) ⟨K, hK⟩ (nI j) s1 (nI a) (nI d) (nI b') (nI k) v3 = if dS S'' a o < 10000 then (bnd (f_X2_nextOnTheWay n 1 1 (nI a) (nI o) v3) fun r21 t22 => bnd (f_X1_between 1 (nI a) r21 t22) fun r23 t24 => if (nI d + r23) ≤ 9999 then (s1 (r21, (nI d + r23), nI b', nI (k + 1), t24)) else some ((-2), t24)) else some (-1, v3) := by
      unfold jn_X5_walk_133
      rw [joins_y i4 hc'' hD (by omega) (by omega), bnd_s, bI_itn, nI_s]
      by_cases e1 : dS S'' a o < 10000
      · rw [if_pos (decide_eq_true e1), if_pos e1]
      · rw [if_neg (by simp [e1]), if_neg e1]
    rw [c133]
    by_cases e1 : dS S'' a o = 10000
    · rw [if_pos e1, if_neg (by omega)]
      right
      obtain ⟨z, z1, z2⟩ := fin v3 w3 i3 hw3
      refine ⟨_, rfl, fun i hi => ?_⟩
      rw [mtail z1 (by decide) i (by omega), if_neg (by decide)]
      exact ⟨_, _, _, rfl, rfl, z2⟩
    rw [if_neg e1, if_pos (by omega)]
    obtain ⟨r, r1, r2, r3⟩ := next_both l3.w (show o < Sc S'' by omega) e (by omega)
    have hw9 := l3.2.2.2.2.2.1 a r
    have hr0 := r2.1
    rw [cnx_y (by omega) i2 l3.w l3.w.2.2 i4 (by omega) (by omega) r1 r2 r3, bnd_s, btw_y i2 hc'' (by omega) r1, bnd_s, mnx_y (by omega) n2 l3.w n4 (by omega) (by omega) r1 r2 r3, bnd_s, ck_t (inb8' (by omega) (by omega)), clamp8' (by omega) (by omega), n2.2.2.2.2.2.2 a r (by omega) (by omega), lti_s, nI_add]
    have hJ3 : jF S t u1 S'' v3 w3 := ⟨i2, n2, l3, l4, i3, hw3⟩
    by_cases e2 : d + Sw S'' a r ≤ 9999
    · rw [if_pos ((le9999 (by omega)).mpr e2)]
      left
      refine ⟨_, _, rfl, rfl, r, d + Sw S'' a r, b', S'', v3, w3, by omega, e2, by omega, hb', rfl, rfl, hJ3, g4, ?_⟩
      rw [← l4]
      exact i4
    · rw [if_neg (fun g => e2 ((le9999 (by omega)).mp g))]
      right
      refine ⟨_, rfl, fun i hi => ?_⟩
      obtain ⟨i, rfl⟩ : ∃ i', i = i' + 1 := ⟨i - 1, by omega⟩
      obtain ⟨b4, S4, v4, w4, hb4, o1, o2, o3, o4, o5⟩ := bends (n := n) (a := r) (o := o) (d := d + Sw S'' a r) (k := k) (x1 := x1) (y1 := y1) (s34 := s1) (s63 := iter (bd_X6_journey_63 n y1 (nI o) (nI K) (nI j)) i) (by omega) hK hT hU hm2 hj hj2 hJ3 g4 hb'
      obtain ⟨l1', l2', l3', l4', l5', l6'⟩ := id o3
      obtain ⟨w5, n1', n2', n3', n4'⟩ := m168 (n := n) (d := d + Sw S'' a r) (a := r) (b := b4) (o := o) (K := K) (j := j) (y1 := y1) (s63 := iter (bd_X6_journey_63 n y1 (nI o) (nI K) (nI j)) i) (by omega) l2' l3' (by omega) (by omega) (by omega)
      obtain ⟨z, z1, z2⟩ := fin v3 w5 i3 (l6'.trans (n1'.mono (by decide)))
      show ∃ r_1 v z, some (-2, v3) = some (r_1, v) ∧ bd_X6_journey_63 n y1 (nI o) (nI K) (nI j) (iter (bd_X6_journey_63 n y1 (nI o) (nI K) (nI j)) i) (nI (d + Sw S'' a r), nI r, nI b', 0, w3) = some (r_1, z) ∧ Rel v z
      rw [m63, o2, n3', if_neg e2, mtail z1 (by decide) i (by omega), if_neg (by decide)]
      exact ⟨_, _, _, rfl, rfl, z2⟩
  · intro s1 s2 hR
    obtain ⟨a, d, b, S', v, w, ha, hd, hkd, _⟩ := hR
    omega
theorem stp24 {n : Nat} (hn : 10010 < n) : Stp24 Rel n := fun t u x1 x2 x3 x4 h0 => by
  obtain ⟨S, hl, hm, ok, ho⟩ := id h0
  have hc := ok.1
  unfold f_X5_journey f_X6_journey jn_X6_journey_16
  -- a place that isn't there
  have hno : ∀ s, (plc (Sc S) x1 = none ∨ plc (Sc S) x2 = none) → jn_X5_journey_28 n x1 x2 x3 x4 s (-1) t = (bnd (f_X5_refuseBelowTen (-nI 1) t) fun r18 t19 => some (r18, t19)) := by
    intro s _
    unfold jn_X5_journey_28 jn_X5_journey_47 jn_X5_journey_67
    rw [if_pos (by decide), if_pos (by decide), if_pos (by decide)]
    rfl
  have hsh : ∃ s, f_X5_shelfAt x3 t = some (s, t) := by
    rcases e3 : plc 8 x3 with _ | K
    · exact ⟨_, slot_n e3⟩
    · obtain ⟨rfl, hK⟩ := plc_some e3
      exact ⟨_, slot_y hK⟩
  rcases e1 : plc (Sc S) x1 with _ | p
  · obtain ⟨s, hs⟩ := hsh
    rw [hs, bnd_s, hasBoth_n hl hc (.inl e1), bnd_s, if_pos rfl, hno s (.inl e1), isPl_n hm hc e1, bnd_s, if_pos rfl]
    exact fin_no10 1 h0 (by decide) (by decide)
  obtain ⟨p1, hp⟩ := plc_some e1
  rcases e2 : plc (Sc S) x2 with _ | q
  · obtain ⟨s, hs⟩ := hsh
    rw [hs, bnd_s, hasBoth_n hl hc (.inr e2), bnd_s, if_pos rfl, hno s (.inr e2), p1, isPl_y hm hc hp, bnd_s, if_neg one_ne, isPl_n hm hc e2, bnd_s, if_neg z_nn]
    exact fin_no10 1 h0 (by decide) (by decide)
  obtain ⟨p2, hq⟩ := plc_some e2
  subst p1 p2
  rw [isPl_y hm hc hp, bnd_s, if_neg one_ne, isPl_y hm hc hq, bnd_s, if_pos one_ne]
  rcases jouP (n := n) (nI p) (nI q) x3 x4 (by omega) hl hm ok ho with ⟨s, k, k1, k2, a, b, c⟩ | ⟨K, hK, m, T, j, rfl, rfl, hm2, hj, hj2, a, b, c, hT, hU, hw⟩
  · rw [a, bnd_s, hasBoth_y hl hc hp hq, bnd_s, if_neg one_ne, b, c, bnd_s, if_neg (ng_lt k1 k2)]
    exact fin_no10 k h0 k1 k2
  rw [a, bnd_s, hasBoth_y hl hc hp hq, bnd_s, if_neg one_ne, b, c, bnd_s, if_pos (by decide)]
  obtain ⟨t1, a1, a2, a3⟩ := become_y (L := 1) (M := 0) hl (by decide)
  obtain ⟨t2, c1, c2, c3⟩ := measure_y (n := n) (J := 1) (by omega) a2 ok.w
  obtain ⟨u1, b1, b2, b3⟩ := keep_y (B := 1) (n := n) (by omega) hm
  have hm1 := hm.fr b3 (by decide) (by decide) (by decide) (by decide)
  obtain ⟨r, v, z, g1, g2, g3⟩ := walk_both (x1 := nI p) (y1 := nI p) hn hK ho hl ok hT (hU.fr b3.2) hm2 hj hj2 hp hq b2 b3 (v0 := t2) ⟨a2.lc c2, hm1, ok, rfl, (a3.mono (by decide)).trans (c2.mono (by decide)), Fr.rf _ _⟩ hw c3
  have k1 : f_X5_walk n (nI p) (nI q) ⟨K, hK⟩ (nI j) t = some (r, v) := by
    unfold f_X5_walk
    rw [a1, bnd_s, c1, bnd_s]
    exact g1
  rw [k1, bnd_s, b1, bnd_s, g2]
  exact ⟨_, _, _, rfl, rfl, g3⟩
