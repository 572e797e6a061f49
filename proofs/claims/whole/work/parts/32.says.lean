/-! layer 2: the roads of a place -/
def maskI (S : Ld) (p : Nat) : Nat → Int32
  | 0 => 0
  | i + 1 => if Sw S p i = 0 then maskI S p i else maskI S p i ||| ((1 : Int32) <<< (nI i &&& 31))
def sumI (S : Ld) (p : Nat) : Nat → Int32
  | 0 => 0
  | i + 1 => sumI S p i + nI (Sw S p i)
theorem nI_z {a : Nat} (ha : a < 2 ^ 31) : nI a = 0 ↔ a = 0 := nI_eq (b := 0) ha (by omega)
theorem nI_le0 {a : Nat} (ha : a < 2 ^ 31) : nI a ≤ 0 ↔ a = 0 := by
  rw [show (0 : Int32) = nI 0 from rfl, nI_le' ha (by omega)]; omega
theorem nI_s (i : Nat) : nI i + 1 = nI (i + 1) := nI_add _ 1
theorem neigh_y {t : Mem} {L : Fin 3} {S : Ld} {p n : Nat} (h : isLd t L S) (ok : okLd S) (hp : p < Sc S) (hn : 8 < n) : f_X1_neighbours n L (nI p) t = some (maskI S p (Sc S), t) := by
  have hc := ok.1
  unfold f_X1_neighbours
  refine iter_up0 (Sc S) (fun i => (maskI S p i, nI i, t)) _ rfl (by omega) ?_ ?_
  · intro self i hi
    have hw := ok.2.2.2.2.2.1 p i
    unfold bd_X1_neighbours_4
    dsimp only
    rw [h.1, if_neg (by rw [nI_le' (by omega) (by omega)]; omega), btw_y h ok.1 hp hi, bnd_s, nI_s]
    show _ = self (if Sw S p i = 0 then maskI S p i else maskI S p i ||| ((1 : Int32) <<< (nI i &&& 31)), nI (i + 1), t)
    by_cases e : Sw S p i = 0
    · rw [if_pos ((nI_z (by omega)).mpr e), if_pos e]
    · rw [if_neg (fun g => e ((nI_z (by omega)).mp g)), if_neg e, lti_s]
  · intro self
    unfold bd_X1_neighbours_4
    dsimp only
    rw [h.1, if_pos (by rw [nI_le' (by omega) (by omega)]; omega)]
theorem mroads_y {u : Mem} {S : Ld} {p n : Nat} (h : isMd u S) (ok : okLd S) (hp : p < Sc S) (hn : 8 < n) : f_X6_roads n (nI p) u = some (maskI S p (Sc S), u) := by
  have hc := ok.1
  unfold f_X6_roads
  refine iter_up0 (Sc S) (fun i => (maskI S p i, nI i, u)) _ rfl (by omega) ?_ ?_
  · intro self i hi
    have hw := ok.2.2.2.2.2.1 p i
    unfold bd_X6_roads_4
    dsimp only
    rw [h.1, if_neg (by rw [nI_le' (by omega) (by omega)]; omega), ck_t (inb8' (by omega) (by omega)), clamp8' (by omega) (by omega), h.2.2.2.2.2.2 p i (by omega) (by omega), nI_s]
    show _ = self (if Sw S p i = 0 then maskI S p i else maskI S p i ||| ((1 : Int32) <<< (nI i &&& 31)), nI (i + 1), u)
    by_cases e : Sw S p i = 0
    · rw [if_pos ((nI_le0 (by omega)).mpr e), if_pos e]
    · rw [if_neg (fun g => e ((nI_le0 (by omega)).mp g)), if_neg e, lti_s]
  · intro self
    unfold bd_X6_roads_4
    dsimp only
    rw [h.1, if_pos (by rw [nI_le' (by omega) (by omega)]; omega)]
theorem milesOf_y {t : Mem} {L : Fin 3} {S : Ld} {p n : Nat} (h : isLd t L S) (ok : okLd S) (hp : p < Sc S) (hn : 8 < n) : f_X1_milesOf n L (nI p) t = some (sumI S p (Sc S), t) := by
  have hc := ok.1
  unfold f_X1_milesOf
  refine iter_up0 (Sc S) (fun i => (sumI S p i, nI i, t)) _ rfl (by omega) ?_ ?_
  · intro self i hi
    unfold bd_X1_milesOf_4
    dsimp only
    rw [h.1, if_neg (by rw [nI_le' (by omega) (by omega)]; omega), btw_y h ok.1 hp hi, bnd_s, nI_s]
    rfl
  · intro self
    unfold bd_X1_milesOf_4
    dsimp only
    rw [h.1, if_pos (by rw [nI_le' (by omega) (by omega)]; omega)]
theorem mmiles_y {u : Mem} {S : Ld} {p n : Nat} {x2 : Int32} (h : isMd u S) (ok : okLd S) (hp : p < Sc S) (hn : 8 < n) : iter (bd_X6_placeOf_75 n (nI p) x2) n (0, 0, u) = some (sumI S p (Sc S), u) := by
  have hc := ok.1
  refine iter_up0 (Sc S) (fun i => (sumI S p i, nI i, u)) _ rfl (by omega) ?_ ?_
  · intro self i hi
    unfold bd_X6_placeOf_75
    dsimp only
    rw [h.1, if_neg (by rw [nI_le' (by omega) (by omega)]; omega), ck_t (inb8' (by omega) (by omega)), clamp8' (by omega) (by omega), h.2.2.2.2.2.2 p i (by omega) (by omega), nI_s, lti_s]
    rfl
  · intro self
    unfold bd_X6_placeOf_75
    dsimp only
    rw [h.1, if_pos (by rw [nI_le' (by omega) (by omega)]; omega)]
theorem stp8 {n : Nat} (hn : 8 < n) : Stp8 Rel n := fun t u x1 x2 h0 => by
  obtain ⟨S, hl, hm, ok, ho⟩ := id h0
  have hc := ok.1
  unfold f_X5_placeOf f_X6_placeOf jn_X5_placeOf_20 jn_X6_placeOf_17
  rcases e1 : plc (Sc S) x1 with _ | p
  · rw [has_n hl ok.1 e1, bnd_s, if_pos rfl, isPl_n hm ok.1 e1, bnd_s, if_pos rfl]
    exact fin_no 5 h0 (by decide) (by decide)
  obtain ⟨rfl, hp⟩ := plc_some e1
  rw [has_y hl ok.1 hp, bnd_s, if_neg one_ne, isPl_y hm ok.1 hp, bnd_s, if_neg one_ne]
  by_cases e3 : x2 < 0
  · rw [if_pos e3, win_n (.inl e3), bnp_s, if_neg z_nn]
    exact fin_no 5 h0 (by decide) (by decide)
  rw [if_neg e3]
  by_cases e4 : x2 ≤ 3
  · rw [if_pos e4, win_y e3 (Int32.not_lt.mpr e4), bnp_s, if_pos one_ne]
    have k1 : (nI p).toNatClampNeg = p := nI_clamp (by omega)
    have k2 : inb (nI p) 8 = true := inb_nI (by omega) (by decide)
    by_cases a0 : x2 = 0
    · rw [if_pos a0, if_pos a0, ck_t k2, ck_t k2, k1, hl.2.2.2.2.1 p (by omega), hm.2.2.2.2.1 p (by omega)]
      exact ⟨_, _, _, rfl, rfl, h0⟩
    rw [if_neg a0, if_neg a0]
    by_cases a1 : x2 = 1
    · rw [if_pos a1, if_pos a1, ck_t k2, ck_t k2, k1, hl.2.2.2.2.2.1 p (by omega), hm.2.2.2.2.2.1 p (by omega)]
      exact ⟨_, _, _, rfl, rfl, h0⟩
    rw [if_neg a1, if_neg a1]
    by_cases a2 : x2 = 2
    · rw [if_pos a2, if_pos a2, neigh_y hl ok hp hn, mroads_y hm ok hp hn, bnd_s, bnd_s]
      exact ⟨_, _, _, rfl, rfl, h0⟩
    rw [if_neg a2, if_neg a2, milesOf_y hl ok hp hn, mmiles_y hm ok hp hn, bnd_s]
    exact ⟨_, _, _, rfl, rfl, h0⟩
  · rw [if_neg e4, win_n (.inr (Int32.not_le.mp e4)), bnp_s, if_neg z_nn]
    exact fin_no 5 h0 (by decide) (by decide)
theorem bitC (x : Int32) : ∃ y, f_J6_bitCount_0f7a4 x = some y := ⟨_, rfl⟩
theorem stp6 {n : Nat} (hn : 8 < n) : Stp6 Rel n := fun t u x1 x2 h0 => by
  obtain ⟨S, hl, hm, ok, ho⟩ := id h0
  have hc := ok.1
  unfold f_X5_says f_X6_says jn_X5_says_20 jn_X6_says_20 f_X5_isKind
  rcases e1 : plc 8 x1 with _ | K
  · unfold jn_X5_says_73
    rw [slot_n e1, bnd_s, nul_n, win7_n e1, bnp_s, if_pos rfl, if_neg (by decide)]
    exact fin_no 1 h0 (by decide) (by decide)
  obtain ⟨rfl, hK⟩ := plc_some e1
  rw [slot_y hK, bnd_s, nul_s, win7_y hK, bnp_s, if_neg one_ne]
  by_cases e2 : x2 < 0
  · unfold jn_X5_says_73
    rw [if_pos e2, bnp_s, if_neg z_nn, win_n (.inl e2), bnp_s, if_neg z_nn, if_neg (by decide)]
    exact fin_no 1 h0 (by decide) (by decide)
  by_cases e3 : 6 < x2
  · unfold jn_X5_says_73
    rw [if_neg e2, if_pos e3, bnp_s, if_neg z_nn, win_n (.inr e3), bnp_s, if_neg z_nn, if_neg (by decide)]
    exact fin_no 1 h0 (by decide) (by decide)
  rw [if_neg e2, if_neg e3, bnp_s, if_pos one_ne, win_y e2 e3, bnp_s, if_pos one_ne, ck_t (inb_nI hK (by decide)), nI_clamp (show K < 2 ^ 31 by omega)]
  obtain ⟨k, hk, rfl⟩ := as_nat 6 (by decide) e2 (Int32.not_lt.mp e3)
  rcases ho.1 K hK with ⟨a, b, c⟩ | ⟨p, hp, a, b, c⟩ | ⟨s, m, hs, hm', a, b, c, d, e, f⟩
  · unfold jn_X5_says_73 jn_X6_says_65
    rw [hrw_n a, bnd_s, if_pos rfl, hpl_n b, bnd_s, if_neg z_nn, if_neg (by decide), c, if_pos (by decide), if_neg (by decide)]
    exact fin_no 3 h0 (by decide) (by decide)
  · obtain ⟨m, rfl⟩ : ∃ m, n = m + 5 := ⟨n - 5, by omega⟩
    rw [hrw_n a, bnd_s, if_pos rfl, hpl_y (by omega) b, bnd_s, if_pos one_ne, show t.1 (oSh ⟨K, hK⟩) 3 = nI p from b, isOf_y hl ok hp hk (by omega), bnd_s, c, if_neg (nI_nneg (by omega)), isRow_n hK (by rw [c]; exact pl_100 (by omega)), bnd_s, if_neg z_nn, ck_t (inb_nI (by omega) (by decide)), nI_clamp (show p < 2 ^ 31 by omega), hm.2.2.2.2.1 p (by omega), isUnder_loop (ok.2.2.2.1 p) hk, bnp_s]
    cases hu : under (Sk S p) k
    · rw [bI_0 (by decide), if_neg z_nn, if_neg z_nn]
      unfold jn_X5_says_73
      rw [if_neg (by decide)]
      exact fin_no 2 h0 (by decide) (by decide)
    rw [bI_1 rfl, if_pos one_ne, if_pos one_ne]
    unfold jn_X5_says_73 jn_X6_says_65
    have q10 : f_X1_asks 0 (nI p) 10 t = _ := asks_y (n := 10) hl ok hp (by decide)
    have q1 : f_X1_asks 0 (nI p) 1 t = _ := asks_y (n := 1) hl ok hp (by decide)
    have q99 : f_X1_asks 0 (nI p) 99 t = _ := asks_y (n := 99) hl ok hp (by decide)
    have r10 : f_X6_asks (nI p) 10 u = _ := masks_y (n := 10) hm ok hp (by decide)
    have r1 : f_X6_asks (nI p) 1 u = _ := masks_y (n := 1) hm ok hp (by decide)
    have r99 : f_X6_asks (nI p) 99 u = _ := masks_y (n := 99) hm ok hp (by decide)
    rw [if_pos rfl, if_pos (show (0 : Int32) ≤ nI p from Int32.not_lt.mp (nI_nneg (by omega)))]
    simp only [nn_s]
    rw [show t.1 (oSh ⟨K, hK⟩) 3 = nI p from b, q10, q1, q99, r10, r1, r99, neigh_y hl ok hp hn, mroads_y hm ok hp hn]
    simp only [bnd_s]
    obtain ⟨y, hy⟩ := bitC (maskI S p (Sc S))
    rw [hy, bnp_s]
    rcases (show k = 0 ∨ k = 1 ∨ k = 2 ∨ k = 3 ∨ k = 4 ∨ k = 5 ∨ k = 6 by omega) with e | e | e | e | e | e | e <;> subst e <;> exact ⟨_, _, _, rfl, rfl, h0⟩
  · unfold jn_X5_says_73 jn_X6_says_58
    rw [hrw_y (by omega) a, bnd_s, if_neg one_ne, if_neg (by decide), d, if_neg (nI_nneg (by omega)), isRow_y hK (by rw [d]; exact rw_100 hs), bnd_s, if_pos one_ne]
    exact fin_no 2 h0 (by decide) (by decide)
