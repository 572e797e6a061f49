/-! layer 2: journey, a pinch of the walk -/
def l64 (x : Int64) : Int64 := if (if x < 999 then x else 999) < 1 then 1 else if x < 999 then x else 999
theorem l64_y (x : Int64) {Rt : Type} (F : Int64 → Option Rt) : (bnp (f_J9_min_f86c9 999 x) fun r3 => bnp (f_J9_max_f86c9 1 r3) fun r4 => F r4) = F (l64 x) := rfl
theorem l64_n {w : Nat} (x : Int32) (hw : w ≤ 999) : ∃ N, 1 ≤ N ∧ N ≤ 999 ∧ (l64 ((nI w).toInt64 + x.toInt64)).toInt32 = nI N := by
  have b1 := Int32.toInt_lt x
  have b2 := Int32.le_toInt x
  have hi : ((nI w).toInt64 + x.toInt64).toInt = (w : Int) + x.toInt := by
    rw [Int64.toInt_add, Int32.toInt_toInt64, Int32.toInt_toInt64, nI_toInt (by omega), Int.bmod_eq_of_le (by omega) (by omega)]
  have h1 : (1 : Int64).toInt = 1 := by decide
  have h9 : (999 : Int64).toInt = 999 := by decide
  unfold l64
  by_cases e : (nI w).toInt64 + x.toInt64 < 999
  · rw [if_pos e]
    have e' := e
    rw [Int64.lt_iff_toInt_lt, hi, h9] at e'
    by_cases e2 : (nI w).toInt64 + x.toInt64 < 1
    · rw [if_pos e2]
      exact ⟨1, by omega, by omega, by decide⟩
    · rw [if_neg e2]
      rw [Int64.lt_iff_toInt_lt, hi, h1] at e2
      obtain ⟨N, hN⟩ : ∃ N : Nat, (w : Int) + x.toInt = N := ⟨((w : Int) + x.toInt).toNat, by omega⟩
      refine ⟨N, by omega, by omega, ?_⟩
      rw [i_eq, nI_toInt (by omega), Int64.toInt_toInt32, hi, hN, Int.bmod_eq_of_le (by omega) (by omega)]
  · rw [if_neg e, if_neg (by decide)]
    exact ⟨999, by omega, by omega, by decide⟩
theorem bend_y {t u : Mem} {S : Ld} {p q : Nat} (x : Int32) (hl : isLd t 1 S) (hm : isMd u S) (ok : okLd S) (hp : p < Sc S) (hq : q < Sc S) (h0 : ¬ Sw S p q = 0) : ∃ N t' u', 1 ≤ N ∧ N ≤ 999 ∧ f_X1_bend 1 (nI p) (nI q) x t = some ((), t') ∧ f_X6_lay (nI p) (nI q) (l64 ((nI (Sw S p q)).toInt64 + x.toInt64)).toInt32 u = some (nI (Sw S p q), u') ∧ isLd t' 1 (setW S p q N) ∧ isMd u' (setW S p q N) ∧ Fr t t' [11] ∧ Fr u u' [45] := by
  have hc := ok.1
  have hw := ok.2.2.2.2.2.1 p q
  have hpq : ¬ p = q := fun e => h0 (by rw [e]; exact ok.2.2.2.2.2.2.2.1 q)
  obtain ⟨N, n1, n2, n3⟩ := l64_n x hw
  obtain ⟨t', a1, a2, a3⟩ := lay_y (n := N) hl hc hp hq hpq
  obtain ⟨u', b1, b2, b3⟩ := mlay_y (n := N) hm (show p < 8 by omega) (show q < 8 by omega)
  refine ⟨N, t', u', n1, n2, ?_, by rw [n3]; exact b1, a2, b2, a3, b3⟩
  unfold f_X1_bend
  rw [btw_y hl hc hp hq, bnd_s, l64_y, n3, a1, bnd_s]
theorem wkP.set {S : Ld} {T : Nat → Int32} {i p q N : Nat} (h : wkP S T i) (hN : 1 ≤ N) : wkP (setW S p q N) T i := by
  obtain ⟨a, b, h1, h2, h3, h4, h5⟩ := h
  refine ⟨a, b, h1, h2, h3, h4, ?_⟩
  show ¬ (if (a = p ∧ b = q) ∨ (a = q ∧ b = p) then N else Sw S a b) = 0
  split
  · omega
  · exact h5
def jF (S : Ld) (t u1 : Mem) (S' : Ld) (v w : Mem) : Prop := isLd v 1 S' ∧ isMd w S' ∧ okLd S' ∧ Sc S' = Sc S ∧ Fr t v [2, 5, 8, 11, 14, 16] ∧ Fr u1 w [45, 51]
theorem bends {t u1 v w : Mem} {S S' : Ld} {K m j n a o d b k : Nat} {T : Nat → Int32} {x1 y1 : Int32} {s34 : Int32 × Int32 × Int32 × Int32 × Mem → Option (Int32 × Mem)} {s63 : Int32 × Int32 × Int32 × Int32 × Mem → Option (Int32 × Mem)} (hn : 64 < n) (hK : K < 8) (hT : rwT t K m T) (hU : rwU u1 K T) (hm2 : m ≤ 160) (hj : j * 4 ≤ m) (hj2 : j ≤ 10) (hF : jF S t u1 S' v w) (hwk : ∀ i, i < j → wkP S' T i) (hb : b ≤ j) : ∃ b' S'' v' w', b' ≤ j ∧ iter (bd_X5_walk_52 n x1 (nI o) ⟨K, hK⟩ (nI j) s34) n (nI a, nI d, nI b, nI k, nI b, v) = jn_X5_walk_115 n x1 (nI o) ⟨K, hK⟩ (nI j) s34 (nI a) (nI d) (nI b') (nI k) (nI b) v' ∧ iter (bd_X6_journey_68 n y1 (nI o) (nI K) (nI j) s63) n (nI d, nI a, nI b, 0, w) = jn_X6_journey_168 n y1 (nI o) (nI K) (nI j) s63 (nI d) (nI a) (nI b') 0 w' ∧ jF S t u1 S'' v' w' ∧ (∀ i, i < j → wkP S'' T i) ∧ (b' = b → v' = v ∧ S'' = S') := by
  refine iter_pair (b1 := bd_X5_walk_52 n x1 (nI o) ⟨K, hK⟩ (nI j) s34) (b2 := bd_X6_journey_68 n y1 (nI o) (nI K) (nI j) s63) j (fun i s1 s2 => ∃ S'' v' w', b ≤ i ∧ s1 = (nI a, nI d, nI i, nI k, nI b, v') ∧ s2 = (nI d, nI a, nI i, 0, w') ∧ jF S t u1 S'' v' w' ∧ (∀ i, i < j → wkP S'' T i) ∧ (i = b → v' = v ∧ S'' = S')) (fun r1 r2 => ∃ b' S'' v' w', b' ≤ j ∧ r1 = jn_X5_walk_115 n x1 (nI o) ⟨K, hK⟩ (nI j) s34 (nI a) (nI d) (nI b') (nI k) (nI b) v' ∧ r2 = jn_X6_journey_168 n y1 (nI o) (nI K) (nI j) s63 (nI d) (nI a) (nI b') 0 w' ∧ jF S t u1 S'' v' w' ∧ (∀ i, i < j → wkP S'' T i) ∧ (b' = b → v' = v ∧ S'' = S')) ?_ ?_ n n b _ _ hb (by omega) (by omega) ⟨S', v, w, Nat.le_refl _, rfl, rfl, hF, hwk, fun _ => ⟨rfl, rfl⟩⟩
  · intro s1 s2 i y1' y2' hi hR
    obtain ⟨S'', v', w', hbi, rfl, rfl, hG, hk, hsame⟩ := hR
    obtain ⟨g1, g2, g3, g4, g5, g6⟩ := id hG
    have hTv : rwT v' K m T := hT.fr (g5.1 _ (sh_n hK (by decide))) g5.2
    have hUw : rwU w' K T := hU.fr g6.2
    have hx : ¬ nI j ≤ nI i := by rw [nI_le' (by omega) (by omega)]; omega
    obtain ⟨p, q, p1, p2, hp, hq, h0⟩ := hk i hi
    have hc := g3.1
    obtain ⟨N, v2, w2, n1, n2, c1, c2, c3, c4, c5, c6⟩ := bend_y (T (4 * i + 2)) g1 g2 g3 hp hq h0
    have K1 : bd_X5_walk_52 n x1 (nI o) ⟨K, hK⟩ (nI j) s34 s1 (nI a, nI d, nI i, nI k, nI b, v') = if nI d < T (4 * i + 3) then jn_X5_walk_115 n x1 (nI o) ⟨K, hK⟩ (nI j) s34 (nI a) (nI d) (nI i) (nI k) (nI b) v' else s1 (nI a, nI d, nI (i + 1), nI k, nI b, v2) := by
      unfold bd_X5_walk_52
      dsimp only
      rw [if_neg hx, show (3 : Int32) = nI 3 from rfl, show (2 : Int32) = nI 2 from rfl, show (1 : Int32) = nI 1 from rfl, ix4, ix4, ix4, ix4', asI_y hK hTv hm2 (by omega), bnd_s, asI_y hK hTv hm2 (by omega), bnd_s, asI_y hK hTv hm2 (by omega), bnd_s, asI_y hK hTv hm2 (by omega), bnd_s, p1, p2, c1, bnd_s, nI_add]
    have K2 : bd_X6_journey_68 n y1 (nI o) (nI K) (nI j) s63 s2 (nI d, nI a, nI i, 0, w') = if nI d < T (4 * i + 3) then jn_X6_journey_168 n y1 (nI o) (nI K) (nI j) s63 (nI d) (nI a) (nI i) 0 w' else s2 (nI d, nI a, nI (i + 1), 0, w2) := by
      unfold bd_X6_journey_68
      dsimp only
      rw [if_neg hx, show (3 : Int32) = nI 3 from rfl, show (2 : Int32) = nI 2 from rfl, show nI i + 1 = nI (i + 1) from nI_s i, show (1 : Int32) = nI 1 from rfl, ix4, ix4, ix4, ix4', tld_y hK hUw (by omega), bnd_s, tld_y hK hUw (by omega), bnd_s, tld_y hK hUw (by omega), bnd_s, p1, p2, ck_t (inb8' (by omega) (by omega)), tld_y hK hUw (by omega), bnd_s, clamp8' (by omega) (by omega), g2.2.2.2.2.2.2 p q (by omega) (by omega), ← show (1 : Int64) = 1 from rfl, l64_y, c2, bnd_s]
    rw [K1, K2]
    by_cases e : nI d < T (4 * i + 3)
    · rw [if_pos e, if_pos e]
      exact .inr ⟨i, S'', v', w', by omega, rfl, rfl, hG, hk, hsame⟩
    · rw [if_neg e, if_neg e]
      exact .inl ⟨_, _, rfl, rfl, setW S'' p q N, v2, w2, by omega, rfl, rfl, ⟨c3, c4, g3.setW hp hq (fun e => h0 (by rw [e]; exact g3.2.2.2.2.2.2.2.1 q)) n2, g4, g5.trans (c5.mono (by decide)), g6.trans (c6.mono (by decide))⟩, fun i' hi' => (hk i' hi').set n1, fun h => by omega⟩
  · intro s1 s2 y1' y2' hR
    obtain ⟨S'', v', w', hbi, rfl, rfl, hG, hk, hsame⟩ := hR
    refine ⟨j, S'', v', w', Nat.le_refl _, ?_, ?_, hG, hk, hsame⟩
    · unfold bd_X5_walk_52
      dsimp only
      rw [if_pos le8]
    · unfold bd_X6_journey_68
      dsimp only
      rw [if_pos le8]
