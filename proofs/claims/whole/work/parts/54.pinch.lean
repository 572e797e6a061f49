/-! layer 2: told pinches -/
theorem ix3 (i d : Nat) : 3 * nI i + nI d = nI (3 * i + d) := by
  rw [show (3 : Int32) = nI 3 from rfl, nI_mul, nI_add]
theorem ix3' (i : Nat) : 3 * nI i = nI (3 * i) := by
  rw [show (3 : Int32) = nI 3 from rfl, nI_mul]
theorem sh_n {K : Nat} (hK : K < 8) {l : List Nat} (h : ∀ k : Fin 8, ¬ 18 + k.val ∈ l) : ¬ 18 + K ∈ l := h ⟨K, hK⟩
def pnG (S : Ld) (t u1 : Mem) (S' : Ld) (v w : Mem) : Prop := isLd v 1 S' ∧ isMd w S' ∧ okLd S' ∧ Sc S' = Sc S ∧ Fr t v [2, 5, 8, 11] ∧ frU u1 w
theorem kepR.fr {o : Nat} {u u' : Mem} {S : Ld} (h : kepR o u S) (e : u'.1 o = u.1 o) : kepR o u' S := by
  unfold kepR
  rw [e]
  exact h
theorem pin_run {t u : Mem} {S : Ld} {K j m n : Nat} {T : Nat → Int32} (hn : 64 < n) (hK : K < 8) (hl : isLd t 0 S) (hm : isMd u S) (ok : okLd S) (hT : rwT t K m T) (hU : rwU u K T) (hm2 : m ≤ 160) (hj : j * 3 ≤ m) (hj2 : j ≤ 20) : ∃ r v u1 w S', f_X5_firstWrongPinch n ⟨K, hK⟩ (nI j) t = some (r, v) ∧ f_X6_keep n 1 u = some ((), u1) ∧ f_X6_pinched n (nI K) (nI j) u1 = some (r, w) ∧ pnG S t u1 S' v w ∧ Fr u u1 [49] ∧ kepR 49 w S ∧ (r = -1 ∨ ∃ i, i < 2 ^ 31 ∧ r = nI i) := by
  obtain ⟨t1, a1, a2, a3⟩ := become_y (L := 1) (M := 0) hl (by decide)
  obtain ⟨u1, b1, b2, b3⟩ := keep_y (B := 1) hn hm
  have hm1 := hm.fr b3 (by decide) (by decide) (by decide) (by decide)
  have hT1 : rwT t1 K m T := hT.fr (a3.1 _ (sh_n hK (by decide))) a3.2
  have hU1 : rwU u1 K T := hU.fr b3.2
  have key : ∃ r v w S', iter (bd_X5_firstWrongPinch_13 n ⟨K, hK⟩ (nI j)) n (0, t1) = some (r, v) ∧ iter (bd_X6_pinched_2 n (nI K) (nI j)) n (0, u1) = some (r, w) ∧ pnG S t u1 S' v w ∧ (r = -1 ∨ ∃ i, i < 2 ^ 31 ∧ r = nI i) := by
    refine iter_pair (b1 := bd_X5_firstWrongPinch_13 n ⟨K, hK⟩ (nI j)) (b2 := bd_X6_pinched_2 n (nI K) (nI j)) j (fun i s1 s2 => ∃ v w S', s1 = (nI i, v) ∧ s2 = (nI i, w) ∧ pnG S t u1 S' v w) (fun r1 r2 => ∃ r v w S', r1 = some (r, v) ∧ r2 = some (r, w) ∧ pnG S t u1 S' v w ∧ (r = -1 ∨ ∃ i, i < 2 ^ 31 ∧ r = nI i)) ?_ ?_ n n 0 _ _ (Nat.zero_le _) (by omega) (by omega) ⟨t1, u1, S, rfl, rfl, a2, hm1, ok, rfl, a3.mono (by decide), frU.rf u1⟩
    · intro s1 s2 i y1 y2 hi hR
      obtain ⟨v, w, S', rfl, rfl, hG⟩ := hR
      obtain ⟨g1, g2, g3, g4, g5, g6⟩ := id hG
      have hx : ¬ nI j ≤ nI i := by rw [nI_le' (by omega) (by omega)]; omega
      have hTv : rwT v K m T := hT.fr (g5.1 _ (sh_n hK (by decide))) g5.2
      have hUw : rwU w K T := hU1.fr g6.1
      have q0 : ∀ {w}, rwU w K T → f_X6_told (nI K) (nI (3 * i)) w = some (T (3 * i), w) := fun h => tld_y hK h (by omega)
      have q1 : ∀ {w}, rwU w K T → f_X6_told (nI K) (nI (3 * i + 1)) w = some (T (3 * i + 1), w) := fun h => tld_y hK h (by omega)
      have q2 : ∀ {w}, rwU w K T → f_X6_told (nI K) (nI (3 * i + 2)) w = some (T (3 * i + 2), w) := fun h => tld_y hK h (by omega)
      have k1 : bd_X5_firstWrongPinch_13 n ⟨K, hK⟩ (nI j) s1 (nI i, v) = bnd (f_X1_mayPinch 1 (T (3 * i)) (T (3 * i + 1)) (T (3 * i + 2)) v) fun r9 t10 => if ¬ r9 = 0 then (bnd (f_X1_pinch 1 (T (3 * i)) (T (3 * i + 1)) (T (3 * i + 2)) t10) fun _ t12 => s1 (nI (i + 1), t12)) else some (nI i, t10) := by
        unfold bd_X5_firstWrongPinch_13
        dsimp only
        rw [if_neg hx, show (1 : Int32) = nI 1 from rfl, show (2 : Int32) = nI 2 from rfl, ix3, ix3, ix3', asI_y hK hTv hm2 (by omega), bnd_s, asI_y hK hTv hm2 (by omega), bnd_s, asI_y hK hTv hm2 (by omega), bnd_s, nI_add]
      have k2 : bd_X6_pinched_2 n (nI K) (nI j) s2 (nI i, w) = bnd (f_X6_may (T (3 * i)) (T (3 * i + 1)) (T (3 * i + 2)) w) fun r8 t9 => if ¬ r8 = 0 then (bnd (f_X6_told (nI K) (nI (3 * i)) t9) fun r11 t12 => bnd (f_X6_told (nI K) (nI (3 * i + 1)) t12) fun r13 t14 => bnd (f_X6_told (nI K) (nI (3 * i + 2)) t14) fun r15 t16 => bnd (f_X6_pinch r11 r13 r15 t16) fun _ t17 => s2 (nI (i + 1), t17)) else some (nI i, t9) := by
        unfold bd_X6_pinched_2
        dsimp only
        rw [if_neg hx, show (1 : Int32) = nI 1 from rfl, show (2 : Int32) = nI 2 from rfl, ix3, ix3, ix3', q0 hUw, bnd_s, q1 hUw, bnd_s, q2 hUw, bnd_s, nI_add]
      rw [k1, k2]
      have hno : (f_X1_mayPinch 1 (T (3 * i)) (T (3 * i + 1)) (T (3 * i + 2)) v = some (0, v)) → (f_X6_may (T (3 * i)) (T (3 * i + 1)) (T (3 * i + 2)) w = some (0, w)) → ∃ r v' w' S', (bnd (f_X1_mayPinch 1 (T (3 * i)) (T (3 * i + 1)) (T (3 * i + 2)) v) fun r9 t10 => if ¬ r9 = 0 then (bnd (f_X1_pinch 1 (T (3 * i)) (T (3 * i + 1)) (T (3 * i + 2)) t10) fun _ t12 => s1 (nI (i + 1), t12)) else some (nI i, t10)) = some (r, v') ∧ (bnd (f_X6_may (T (3 * i)) (T (3 * i + 1)) (T (3 * i + 2)) w) fun r8 t9 => if ¬ r8 = 0 then (bnd (f_X6_told (nI K) (nI (3 * i)) t9) fun r11 t12 => bnd (f_X6_told (nI K) (nI (3 * i + 1)) t12) fun r13 t14 => bnd (f_X6_told (nI K) (nI (3 * i + 2)) t14) fun r15 t16 => bnd (f_X6_pinch r11 r13 r15 t16) fun _ t17 => s2 (nI (i + 1), t17)) else some (nI i, t9)) = some (r, w') ∧ pnG S t u1 S' v' w' ∧ (r = -1 ∨ ∃ i, i < 2 ^ 31 ∧ r = nI i) := by
        intro h1 h2
        rw [h1, h2, bnd_s, bnd_s, if_neg z_nn, if_neg z_nn]
        exact ⟨_, _, _, S', rfl, rfl, hG, .inr ⟨i, by omega, rfl⟩⟩
      rcases e1 : plc (Sc S') (T (3 * i)) with _ | p
      · exact .inr (hno (may_n g1 g3.1 (.inl e1)) (mmay_n g2 g3.1 (.inl e1)))
      rcases e2 : plc (Sc S') (T (3 * i + 1)) with _ | q
      · exact .inr (hno (may_n g1 g3.1 (.inr e2)) (mmay_n g2 g3.1 (.inr e2)))
      obtain ⟨p1, hp⟩ := plc_some e1
      obtain ⟨p2, hq⟩ := plc_some e2
      by_cases e3 : mayS S' p q (T (3 * i + 2)).toInt
      · obtain ⟨v', c1, c2, c3⟩ := pinch_y g1 g3 hp hq e3
        obtain ⟨w', d1, d2, d3, d4, d5⟩ := mpinch_y g2 g3 hp hq e3
        refine .inl ⟨(nI (i + 1), v'), (nI (i + 1), w'), ?_, ?_, v', w', _, rfl, rfl, c2, d2, pinch_ok g3 hp hq e3, g4, g5.trans (c3.mono (by decide)), g6.trans ⟨d3, fun o ho => d4 o (fun g => ho (by revert g; simp only [List.mem_cons, List.not_mem_nil, or_false]; omega)), fun k hk => d5 k (fun g => hk (by rw [g]; decide))⟩⟩
        · rw [p1, p2, (may_y g1 g3 hp hq).1 e3, bnd_s, if_pos one_ne, c1, bnd_s]
        · have hmay : f_X6_may (T (3 * i)) (T (3 * i + 1)) (T (3 * i + 2)) w = some (1, w) := by rw [p1, p2]; exact (mmay_y g2 g3 hp hq).1 e3
          rw [hmay, bnd_s, if_pos one_ne, q0 hUw, bnd_s, q1 hUw, bnd_s, q2 hUw, bnd_s, p1, p2, d1, bnd_s]
      · refine .inr (hno ?_ ?_)
        · rw [p1, p2]; exact (may_y g1 g3 hp hq).2 e3
        · rw [p1, p2]; exact (mmay_y g2 g3 hp hq).2 e3
    · intro s1 s2 y1 y2 hR
      obtain ⟨v, w, S', rfl, rfl, hG⟩ := hR
      refine ⟨-1, v, w, S', ?_, ?_, hG, .inl rfl⟩
      · unfold bd_X5_firstWrongPinch_13
        dsimp only
        rw [if_pos le8]
      · unfold bd_X6_pinched_2
        dsimp only
        rw [if_pos le8]
  obtain ⟨r, v, w, S', c1, c2, c3, c4⟩ := key
  refine ⟨r, v, u1, w, S', ?_, b1, c2, c3, b3, b2.fr (c3.2.2.2.2.2.2.1 49 (by decide)), c4⟩
  unfold f_X5_firstWrongPinch
  rw [a1, bnd_s]
  exact c1
theorem Oth.k {c : Nat} {t u t' u1 u' : Mem} (h : Oth c t u) (f : Fr t t' [2, 5, 8, 11]) (g1 : Fr u u1 [49]) (g2 : frU u1 u') : Oth c t' u' := (h.two f g1 (by decide) (by decide) (by decide)).u (Fr.rf t' []) (by decide) g2
theorem again_fr {u : Mem} {S : Ld} {n : Nat} (hn : 64 < n) (h : kepR 49 u S) : ∃ u', f_X6_again n 1 u = some ((), u') ∧ isMd u' S ∧ frU u u' := by
  obtain ⟨u', a, b, c, d, e⟩ := again_y (B := 1) hn h
  exact ⟨u', a, b, c, d, e⟩
theorem L1_0 {t v : Mem} {S : Ld} (h : isLd t 0 S) (f : Fr t v [2, 5, 8, 11]) : isLd v 0 S := h.fr f (by decide) (by decide) (by decide) (by decide)
theorem stp27 {n : Nat} (hn : 64 < n) : Stp27 Rel n := fun t u x1 x2 h0 => by
  obtain ⟨S, hl, hm, ok, ho⟩ := id h0
  unfold f_X5_pinches f_X6_pinches
  rcases pin_prob x1 x2 ok ho with ⟨s, k, k1, k2, a, b, c⟩ | ⟨K, hK, m, T, j, rfl, rfl, hm2, hj, hj2, a, b, c, hT, hU⟩
  · rw [a, bnd_s, b, bnd_s, c, bnd_s, if_pos (ng_ne k1 k2), if_neg (ng_lt k1 k2)]
    exact fin_no10 k h0 k1 k2
  · obtain ⟨r, v, u1, w, S', d1, d2, d3, d4, d5, d6, d7⟩ := pin_run hn hK hl hm ok hT hU hm2 hj hj2
    obtain ⟨z, e1, e2, e3⟩ := again_fr hn d6
    rw [a, bnd_s, b, bnd_s, c, bnd_s, if_neg z_nn, if_pos (by decide), nn_s, d1, bnd_s, d2, bnd_s, d3, bnd_s, e1, bnd_s]
    exact ⟨_, _, _, rfl, rfl, S, L1_0 hl d4.2.2.2.2.1, e2, ok, ho.k d4.2.2.2.2.1 d5 (d4.2.2.2.2.2.trans e3)⟩
theorem stp28 {n : Nat} (hn : 64 < n) : Stp28 Rel n := fun t u x1 x2 h0 => by
  obtain ⟨S, hl, hm, ok, ho⟩ := id h0
  unfold f_X5_left f_X6_left jn_X5_left_32
  rcases pin_prob x1 x2 ok ho with ⟨s, k, k1, k2, a, b, c⟩ | ⟨K, hK, m, T, j, rfl, rfl, hm2, hj, hj2, a, b, c, hT, hU⟩
  · rw [a, bnd_s, b, bnd_s, c, bnd_s, if_pos (ng_ne k1 k2), if_pos (ng_ne k1 k2), if_neg (ng_lt k1 k2)]
    exact fin_no k h0 k1 k2
  · obtain ⟨r, v, u1, w, S', d1, d2, d3, d4, d5, d6, d7⟩ := pin_run hn hK hl hm ok hT hU hm2 hj hj2
    obtain ⟨z, e1, e2, e3⟩ := again_fr hn d6
    have hR : Rel v z := ⟨S, L1_0 hl d4.2.2.2.2.1, e2, ok, ho.k d4.2.2.2.2.1 d5 (d4.2.2.2.2.2.trans e3)⟩
    rw [a, bnd_s, b, bnd_s, c, bnd_s, if_neg z_nn, if_pos (by decide), nn_s, d1, bnd_s, d2, bnd_s, d3, bnd_s, e1, bnd_s]
    rcases d7 with rfl | ⟨i, hi, rfl⟩
    · rw [if_pos rfl, if_neg z_nn, if_neg (fun g => g rfl), d4.1.2.1, d4.2.1.2.1]
      exact ⟨_, _, _, rfl, rfl, hR⟩
    · rw [if_neg (nI_nm hi), if_pos (by decide), if_pos (nI_nm hi)]
      exact fin_no 6 hR (by decide) (by decide)
theorem stp29 {n : Nat} (hn : 64 < n) : Stp29 Rel n := fun t u x1 x2 h0 => by
  obtain ⟨S, hl, hm, ok, ho⟩ := id h0
  unfold f_X5_done f_X6_done jn_X5_done_32
  rcases pin_prob x1 x2 ok ho with ⟨s, k, k1, k2, a, b, c⟩ | ⟨K, hK, m, T, j, rfl, rfl, hm2, hj, hj2, a, b, c, hT, hU⟩
  · rw [a, bnd_s, b, bnd_s, c, bnd_s, if_pos (ng_ne k1 k2), if_neg (ng_ne k1 k2), if_neg (ng_lt k1 k2)]
    exact fin_no k h0 k1 k2
  · obtain ⟨r, v, u1, w, S', d1, d2, d3, d4, d5, d6, d7⟩ := pin_run hn hK hl hm ok hT hU hm2 hj hj2
    rw [a, bnd_s, b, bnd_s, c, bnd_s, if_neg z_nn, if_pos (by decide), nn_s, d1, bnd_s, d2, bnd_s, d3, bnd_s]
    rcases d7 with rfl | ⟨i, hi, rfl⟩
    · obtain ⟨v', g1, g2, g3⟩ := become_y (L := 0) (M := 1) d4.1 (by decide)
      rw [if_pos rfl, if_pos rfl, g1, bnd_s, if_neg (fun g => g rfl), g2.2.1, d4.2.1.2.1]
      refine ⟨_, _, _, rfl, rfl, S', g2, d4.2.1, d4.2.2.1, ?_⟩
      rw [d4.2.2.2.1]
      exact (ho.k d4.2.2.2.2.1 d5 d4.2.2.2.2.2).u g3 (by decide) (frU.rf w)
    · obtain ⟨z, e1, e2, e3⟩ := again_fr hn d6
      have hR : Rel v z := ⟨S, L1_0 hl d4.2.2.2.2.1, e2, ok, ho.k d4.2.2.2.2.1 d5 (d4.2.2.2.2.2.trans e3)⟩
      rw [if_neg (nI_nm hi), if_neg (by decide), if_pos (nI_nm hi), e1, bnd_s]
      exact fin_no 6 hR (by decide) (by decide)
