/-! layer 2: map, an item -/
theorem mt_0 {m a : Nat} {T : Nat → Int32} (w : Nat) (h : ¬ sg m T a = txC w 0) : mtN m T w a = 0 :=
  ld_eq (Nat.zero_le _) (fun i hi => absurd hi (Nat.not_lt_zero i)) (fun _ g => h (of_decide_eq_true g))
theorem mx_only {f : Nat → Nat} {w : Nat} : ∀ c, w < c → (∀ i, i < c → ¬ i = w → f i = 0) → mxN f c = f w
  | 0, h, _ => absurd h (Nat.not_lt_zero w)
  | c + 1, h, g => by
    unfold mxN
    by_cases e : w = c
    · subst e
      have z : ∀ k, k ≤ w → mxN f k = 0 := by
        intro k
        induction k with
        | zero => intro _; rfl
        | succ k ih =>
          intro hk
          show max (mxN f k) (f k) = 0
          rw [ih (by omega), g k (by omega) (by omega)]
          rfl
      rw [z w (Nat.le_refl _), Nat.zero_max]
    · rw [mx_only c (by omega) (fun i hi hw => g i (by omega) hw), g c (by omega) (fun x => e x.symm), Nat.max_zero]
theorem len3 : ∀ w : Fin 7, 3 ≤ txL.getD w.val 0 := by decide
theorem cw1 {v : Mem} {K m a n w : Nat} {T : Nat → Int32} (hn : 8 < n) (hK : K < 8) (h : clX v K m T a) (hm2 : m ≤ 160) (ha : a ≤ 990) (hw : w < 7) (ho : ∀ w', w' < 7 → ¬ w' = w → mtN m T w' a = 0) : (mtN m T w a = txL.getD w 0 ∧ f_X3_readWord n ⟨K, hK⟩ v = some (nI w, uI v 35 2 (nI (a + txL.getD w 0)))) ∨ (¬ mtN m T w a = txL.getD w 0 ∧ f_X3_readWord n ⟨K, hK⟩ v = some (-1, uI v 35 0 (nI (a + mtN m T w a)))) := by
  rcases rword_y hn hK h hm2 ha with ⟨w', h1, h2, h3⟩ | ⟨h1, h2⟩
  · have e : w' = w := by
      apply Classical.byContradiction
      intro g
      have h4 := ho w' h1 g
      have h5 : 3 ≤ txL.getD w' 0 := len3 ⟨w', h1⟩
      omega
    subst e
    exact .inl ⟨h2, h3⟩
  · refine .inr ⟨h1 w hw, ?_⟩
    rw [mx_only (f := fun w => mtN m T w a) 7 hw ho] at h2
    exact h2
theorem psP.word {K m a l : Nat} {T : Nat → Int32} {S : Ld} {v u u' : Mem} (hK : K < 8) (h : psP K m T S a v u) (hl : a + l ≤ m) (hA : atR u u') (hX : mdX u' K m T (a + l)) : psP K m T S (a + l) (uI v 35 2 (nI (a + l))) u' := by
  obtain ⟨h1, h2, h3, h4, h5, h6, h7⟩ := h
  refine ⟨h1.c (frC.up v _ (by decide)), h2.q hA.q, h3, ⟨h4.1.fr (by unfold uI; rw [uA_ne _ (show ¬ 18 + K = 35 by omega)]) rfl, by rw [uI_same, upd_same]⟩, hX, ?_, hl⟩
  rw [uI_same, upd_ne _ (by decide)]
  exact h6
theorem itR.back {K m a b : Nat} {T : Nat → Int32} {S : Ld} {v u v1 u1 : Mem} {c d : Option (Int32 × Mem)} (h : itR K m T S b v1 u1 c d) (hab : a ≤ b) (f : frA v v1) (g : frB u u1) : itR K m T S a v u c d := by
  rcases h with ⟨e, v2, u2, h1, h2, h0, h3, h4, h5, h6⟩ | ⟨S', e, v2, u2, h1, h2, h3, h4, h5, h6, h7⟩
  · exact .inl ⟨e, v2, u2, h1, h2, h0, h3, h4, f.trans h5, g.trans h6⟩
  · exact .inr ⟨S', e, v2, u2, h1, h2, h3, by omega, h5, f.trans h6, g.trans h7⟩
/-- a word and what is told behind it -/
theorem wd_tell {v u : Mem} {K m a n w : Nat} {T : Nat → Int32} {S : Ld} {tl : Mem → Option (Int32 × Mem)} (hn : 8 < n) (hK : K < 8) (hm2 : m ≤ 160) (h : psP K m T S a v u) (hw : w < 7) (hw0 : ¬ w = 0) (ho : ∀ w', w' < 7 → ¬ w' = w → mtN m T w' a = 0) (wf : Fin 9) (hwf : wf.val = w) (hit : ∀ v1 u1, psP K m T S (a + txL.getD w 0) v1 u1 → itR K m T S (a + txL.getD w 0) v1 u1 (iter (bd_X3_readItem_50 n ⟨K, hK⟩ 1) n (nI w, 0, v1)) (tl u1)) : itR K m T S a v u (f_X3_readItem n ⟨K, hK⟩ 1 v) (bnd (f_X6_word n wf u) fun r t => if r = 0 then some (0, t) else tl t) := by
  obtain ⟨u', b1, b2, b3⟩ := word_y (n := n) wf hn hK h.2.2.2.2.1 hm2 (by have := h.2.2.2.2.2.2; omega)
  rw [hwf] at b1 b2
  unfold f_X3_readItem
  rw [b1, bnd_s, bI_it]
  rcases cw1 (n := n) hn hK h.2.2.2.1 hm2 (by have := h.2.2.2.2.2.2; omega) hw ho with ⟨c1, c2⟩ | ⟨c1, c2⟩
  · rw [c2, bnd_s, if_neg (nI_nneg (by omega)), if_pos (show nI w < (7 : Int32) by rw [show (7 : Int32) = nI 7 from rfl, nI_lt' (by omega) (by omega)]; exact hw), if_pos (show ¬ nI w = 0 from fun g => hw0 ((nI_z (by omega)).mp g)), if_pos (decide_eq_true c1)]
    rw [c1] at b2
    have hin : a + txL.getD w 0 ≤ m := by
      have h3 : 3 ≤ txL.getD w 0 := len3 ⟨w, hw⟩
      have := mt_in (a := a) (m := m) (T := T) wf (txL.getD w 0 - 1) (by rw [hwf, c1]; omega)
      omega
    have ps := h.word hK hin b3 b2
    unfold jn_X3_readItem_47
    exact (hit _ _ ps).back (Nat.le_add_right _ _) (frC.up v _ (by decide)).a b3.q.b
  · rw [c2, bnd_s, if_pos (by decide), if_neg (show ¬ decide (mtN m T w a = txL.getD w 0) = true by rw [decide_eq_true_eq]; exact c1)]
    exact .inl ⟨_, _, _, rfl, rfl, (by have h4 := mt_le m T w a; have h5 := (wd_len wf).2; rw [hwf] at h5; have := h.2.2.2.2.2.2; omega), by rw [uI_same, upd_same], b2.2.2.2, (frC.up v _ (by decide)).a, b3.q.b⟩
theorem ld_shift {f : Nat → Bool} {j k : Nat} (h : ∀ i, i < j → f i = true) : ldN f (j + k) = j + ldN (fun i => f (j + i)) k := by
  obtain ⟨h1, h2, h3⟩ := ld_spec (fun i => f (j + i)) k
  refine ld_eq (by omega) (fun i hi => ?_) (fun hlt => ?_)
  · by_cases e : i < j
    · exact h i e
    · have := h2 (i - j) (by omega)
      rw [show j + (i - j) = i by omega] at this
      exact this
  · exact h3 (by omega)

theorem txc0 : txC 0 0 = 112 ∧ txC 1 0 = 114 ∧ txC 2 0 = 109 ∧ txC 3 0 = 102 ∧ txC 4 0 = 119 ∧ txC 5 0 = 110 ∧ txC 6 0 = 102 := by decide
theorem w7 {w : Nat} (h : w < 7) : w = 0 ∨ w = 1 ∨ w = 2 ∨ w = 3 ∨ w = 4 ∨ w = 5 ∨ w = 6 := by omega
theorem only_w {m a w : Nat} {T : Nat → Int32} (h : ∀ w', w' < 7 → ¬ w' = w → ¬ sg m T a = txC w' 0) : ∀ w', w' < 7 → ¬ w' = w → mtN m T w' a = 0 := fun w' h1 h2 => mt_0 w' (h w' h1 h2)
theorem first_c : ∀ w w' : Fin 7, ¬ w' = w → ¬ w.val = 3 → ¬ w.val = 6 → ¬ txC w.val 0 = txC w'.val 0 := by decide
theorem first_w {m a w : Nat} {T : Nat → Int32} (hw : w < 7) (h3 : ¬ w = 3) (h6 : ¬ w = 6) (h : sg m T a = txC w 0) : ∀ w', w' < 7 → ¬ w' = w → mtN m T w' a = 0 :=
  only_w (fun w' h1 h2 => by
    rw [h]
    exact first_c ⟨w, hw⟩ ⟨w', h1⟩ (fun e => h2 (congrArg Fin.val e)) h3 h6)
theorem item_0 {n : Nat} {u : Mem} {K m a : Nat} {T : Nat → Int32} (hK : K < 8) (h : mdX u K m T a) (hm2 : m ≤ 160) (ha : a ≤ 1000) : f_X6_item n u = if sg m T a = 110 then jn_X6_item_14 n 1 u else jn_X6_item_14 n 0 u := by
  unfold f_X6_item
  rw [sign_y hK h hm2 ha, bnd_s]
  by_cases e : sg m T a = 110
  · rw [if_neg (fun g => g e), if_pos e]
  · rw [if_pos e, if_neg e]
theorem item_114 {n : Nat} {u : Mem} {K m a : Nat} {T : Nat → Int32} (hK : K < 8) (h : mdX u K m T a) (hm2 : m ≤ 160) (ha : a ≤ 1000) (e : sg m T a = 114) : f_X6_item n u = bnd (f_X6_word n (1 : Fin 9) u) fun r t => if r = 0 then some (0, t) else tlR n t := by
  rw [item_0 hK h hm2 ha, e, if_neg (by decide)]
  unfold jn_X6_item_14
  rw [sign_y hK h hm2 ha, bnd_s, e, if_neg (by decide), if_neg (by decide), if_neg (by decide), if_neg (by decide), if_neg (by decide), if_neg (by decide), if_neg (by decide), if_neg (by decide), if_neg (by decide), if_neg (by decide), if_neg (by decide), if_neg (by decide), if_pos rfl]
  rfl
theorem item_109 {n : Nat} {u : Mem} {K m a : Nat} {T : Nat → Int32} (hK : K < 8) (h : mdX u K m T a) (hm2 : m ≤ 160) (ha : a ≤ 1000) (e : sg m T a = 109) : f_X6_item n u = bnd (f_X6_word n (2 : Fin 9) u) fun r t => if r = 0 then some (0, t) else tlM n t := by
  rw [item_0 hK h hm2 ha, e, if_neg (by decide)]
  unfold jn_X6_item_14
  rw [sign_y hK h hm2 ha, bnd_s, e, if_neg (by decide), if_neg (by decide), if_neg (by decide), if_neg (by decide), if_neg (by decide), if_neg (by decide), if_neg (by decide), if_pos rfl]
  rfl
theorem item_119 {n : Nat} {u : Mem} {K m a : Nat} {T : Nat → Int32} (hK : K < 8) (h : mdX u K m T a) (hm2 : m ≤ 160) (ha : a ≤ 1000) (e : sg m T a = 119) : f_X6_item n u = bnd (f_X6_word n (4 : Fin 9) u) fun r t => if r = 0 then some (0, t) else tlW n t := by
  rw [item_0 hK h hm2 ha, e, if_neg (by decide)]
  unfold jn_X6_item_14
  rw [sign_y hK h hm2 ha, bnd_s, e, if_neg (by decide), if_neg (by decide), if_neg (by decide), if_neg (by decide), if_neg (by decide), if_neg (by decide), if_neg (by decide), if_neg (by decide), if_neg (by decide), if_neg (by decide), if_neg (by decide), if_neg (by decide), if_neg (by decide), if_neg (by decide), if_neg (by decide), if_neg (by decide), if_neg (by decide), if_pos rfl]
  rfl
theorem item_110 {n : Nat} {u : Mem} {K m a : Nat} {T : Nat → Int32} (hK : K < 8) (h : mdX u K m T a) (hm2 : m ≤ 160) (ha : a ≤ 1000) (e : sg m T a = 110) : f_X6_item n u = bnd (f_X6_word n (5 : Fin 9) u) fun r t => if r = 0 then some (0, t) else tlN n 1 t := by
  rw [item_0 hK h hm2 ha, e, if_pos rfl]
  unfold jn_X6_item_14
  rw [sign_y hK h hm2 ha, bnd_s, e, if_neg (by decide), if_neg (by decide), if_neg (by decide), if_neg (by decide), if_neg (by decide), if_neg (by decide), if_neg (by decide), if_neg (by decide), if_pos rfl, if_pos one_ne]
  unfold jn_X6_item_320
  rw [if_neg one_ne]
  rfl
theorem item_112 {n : Nat} {u : Mem} {K m a : Nat} {T : Nat → Int32} (hK : K < 8) (h : mdX u K m T a) (hm2 : m ≤ 160) (ha : a ≤ 1000) (e : sg m T a = 112) : f_X6_item n u = if 8 ≤ u.1 39 3 then (bnd (f_X6_word_ n (0 : Fin 9) 0 u) fun r t => if r = 0 then some (0, t) else tlP n t) else (bnd (f_X6_word_ n (0 : Fin 9) 1 u) fun r t => if r = 0 then some (0, t) else tlP n t) := by
  rw [item_0 hK h hm2 ha, e, if_neg (by decide)]
  unfold jn_X6_item_14
  rw [sign_y hK h hm2 ha, bnd_s, e, if_neg (by decide), if_neg (by decide), if_neg (by decide), if_neg (by decide), if_neg (by decide), if_neg (by decide), if_neg (by decide), if_neg (by decide), if_neg (by decide), if_neg (by decide), if_pos rfl]
  rfl
theorem item_102 {n : Nat} {u : Mem} {K m a : Nat} {T : Nat → Int32} (hK : K < 8) (h : mdX u K m T a) (hm2 : m ≤ 160) (ha : a ≤ 900) (e : sg m T a = 102) : f_X6_item n u = if sg m T (a + 1) = 108 then (bnd (f_X6_word n (7 : Fin 9) (uI (uI u 39 18 (nI (a + 1))) 39 18 (nI (a + 2)))) fun r t => if r = 0 then some (0, t) else tlF n t) else (bnd (f_X6_word n (8 : Fin 9) (uI u 39 18 (nI (a + 1)))) fun r t => if r = 0 then some (0, t) else tlN n 0 t) := by
  rw [item_0 hK h hm2 (by omega), e, if_neg (by decide)]
  unfold jn_X6_item_14
  rw [sign_y hK h hm2 (by omega), bnd_s, e, if_pos rfl, if_neg z_nn, h.2.2.2, nI_s, ltm_s, is_y 108 hK h.at hm2 (by omega)]
  by_cases e2 : sg m T (a + 1) = 108
  · rw [if_pos e2, if_pos e2, bnd_s, if_neg one_ne]
    rfl
  · rw [if_neg e2, if_neg e2, bnd_s, if_pos rfl]
    unfold jn_X6_item_320
    rw [if_pos rfl]
    rfl
theorem item_no {n : Nat} {u : Mem} {K m a : Nat} {T : Nat → Int32} (hK : K < 8) (h : mdX u K m T a) (hm2 : m ≤ 160) (ha : a ≤ 1000) (h1 : ¬ sg m T a = 102) (h2 : ¬ sg m T a = 109) (h3 : ¬ sg m T a = 110) (h4 : ¬ sg m T a = 112) (h5 : ¬ sg m T a = 114) (h6 : ¬ sg m T a = 119) : f_X6_item n u = some (0, u) := by
  rw [item_0 hK h hm2 ha, if_neg h3]
  unfold jn_X6_item_14
  rw [sign_y hK h hm2 ha, bnd_s, if_neg h1]
  by_cases g103 : sg m T a = 103
  · rw [if_pos g103]
  rw [if_neg g103]
  by_cases g104 : sg m T a = 104
  · rw [if_pos g104]
  rw [if_neg g104]
  by_cases g105 : sg m T a = 105
  · rw [if_pos g105]
  rw [if_neg g105]
  by_cases g106 : sg m T a = 106
  · rw [if_pos g106]
  rw [if_neg g106]
  by_cases g107 : sg m T a = 107
  · rw [if_pos g107]
  rw [if_neg g107]
  by_cases g108 : sg m T a = 108
  · rw [if_pos g108]
  rw [if_neg g108]
  rw [if_neg h2]
  rw [if_neg h3]
  by_cases g111 : sg m T a = 111
  · rw [if_pos g111]
  rw [if_neg g111]
  rw [if_neg h4]
  by_cases g113 : sg m T a = 113
  · rw [if_pos g113]
  rw [if_neg g113]
  rw [if_neg h5]
  by_cases g115 : sg m T a = 115
  · rw [if_pos g115]
  rw [if_neg g115]
  by_cases g116 : sg m T a = 116
  · rw [if_pos g116]
  rw [if_neg g116]
  by_cases g117 : sg m T a = 117
  · rw [if_pos g117]
  rw [if_neg g117]
  by_cases g118 : sg m T a = 118
  · rw [if_pos g118]
  rw [if_neg g118]
  rw [if_neg h6]
theorem read_item {v u : Mem} {K m a k : Nat} {T : Nat → Int32} {S : Ld} (hn : 8 < k + 4) (hK : K < 8) (hm2 : m ≤ 160) (h : psP K m T S a v u) : itR K m T S a v u (f_X3_readItem (k + 4) ⟨K, hK⟩ 1 v) (f_X6_item (k + 4) u) := by
  obtain ⟨hl, hm, ok, hv, hu, h35, ham⟩ := id h
  have hc := ok.1
  by_cases e1 : sg m T a = 114
  · rw [item_114 hK hu hm2 (by omega) e1]
    exact wd_tell hn hK hm2 h (w := 1) (by omega) (by decide) (first_w (by omega) (by decide) (by decide) e1) 1 rfl (fun v1 u1 ps => it_road hn hK hm2 ps)
  by_cases e2 : sg m T a = 109
  · rw [item_109 hK hu hm2 (by omega) e2]
    exact wd_tell hn hK hm2 h (w := 2) (by omega) (by decide) (first_w (by omega) (by decide) (by decide) e2) 2 rfl (fun v1 u1 ps => it_mill hn hK hm2 ps)
  by_cases e3 : sg m T a = 119
  · rw [item_119 hK hu hm2 (by omega) e3]
    exact wd_tell hn hK hm2 h (w := 4) (by omega) (by decide) (first_w (by omega) (by decide) (by decide) e3) 4 rfl (fun v1 u1 ps => it_wind hn hK hm2 ps)
  by_cases e4 : sg m T a = 110
  · rw [item_110 hK hu hm2 (by omega) e4]
    exact wd_tell hn hK hm2 h (w := 5) (by omega) (by decide) (first_w (by omega) (by decide) (by decide) e4) 5 rfl (fun v1 u1 ps => it_pinch hn hK hm2 ps (.inl ⟨rfl, rfl⟩))
  by_cases e5 : sg m T a = 112
  · rw [item_112 hK hu hm2 (by omega) e5, hm.1]
    obtain ⟨u', b1, b2, b3⟩ := word_y (n := k + 4) (0 : Fin 9) hn hK hu hm2 (by omega)
    have b1' : f_X6_word (k + 4) 0 u = some (bI (decide (mtN m T 0 a = 5)), u') := b1
    have b2' : mdX u' K m T (a + mtN m T 0 a) := b2
    unfold f_X3_readItem
    have room : (8 : Int32) ≤ nI (Sc S) ↔ ¬ Sc S < 8 := by rw [show (8 : Int32) = nI 8 from rfl, nI_le' (by omega) (by omega)]; omega
    rcases cw1 (n := k + 4) (w := 0) hn hK hv hm2 (by omega) (by omega) (first_w (by omega) (by decide) (by decide) e5) with ⟨c1, c2⟩ | ⟨c1, c2⟩
    · have c1' : mtN m T 0 a = 5 := c1
      have c2' : f_X3_readWord (k + 4) ⟨K, hK⟩ v = some (0, uI v 35 2 (nI (a + 5))) := c2
      have hin : a + 5 ≤ m := by
        have := mt_in (a := a) (m := m) (T := T) (0 : Fin 9) 4 (by show 4 < mtN m T 0 a; omega)
        omega
      rw [c1'] at b2'
      have ps := h.word hK hin b3 b2'
      have hr : f_X1_hasRoom 1 (uI v 35 2 (nI (a + 5))) = if 8 ≤ nI (Sc S) then some (0, uI v 35 2 (nI (a + 5))) else some (1, uI v 35 2 (nI (a + 5))) := by
        unfold f_X1_hasRoom
        rw [ps.1.1]
      rw [c2', bnd_s, if_neg (by decide), if_pos (by decide), if_neg z_nn, hr]
      by_cases g : Sc S < 8
      · rw [if_neg (fun x => room.mp x g), if_neg (fun x => room.mp x g), bnd_s, if_pos one_ne]
        have M : f_X6_word_ (k + 4) 0 1 u = some (1, u') := by
          unfold f_X6_word_ jn_X6_word__26
          rw [b1', bnd_s, bI_1 (decide_eq_true c1'), if_neg one_ne, if_pos one_ne, if_neg one_ne, if_neg one_ne]
        rw [M, bnd_s, if_neg one_ne]
        unfold jn_X3_readItem_47
        exact (it_place hn hK hm2 ps g).back (Nat.le_add_right _ _) (frC.up v _ (by decide)).a b3.q.b
      · rw [if_pos (room.mpr g), if_pos (room.mpr g), bnd_s, if_neg z_nn]
        have M : f_X6_word_ (k + 4) 0 0 u = some (0, uI u' 39 18 (nI a)) := by
          unfold f_X6_word_ jn_X6_word__26
          rw [b1', bnd_s, bI_1 (decide_eq_true c1'), if_neg one_ne, if_neg z_nn, hu.2.2.2, ltm_s, if_neg one_ne, if_pos rfl]
        rw [M, bnd_s, if_pos rfl, ltm_s]
        refine .inl ⟨a, _, _, rfl, rfl, by omega, ?_, ?_, ((frC.up v _ (by decide)).trans (frC.up _ _ (by decide))).a, (b3.trans (atR.up u' _)).q.b⟩
        · rw [uI_same, upd_same, hv.2]
        · rw [uI_same, upd_same]
    · have c1' : ¬ mtN m T 0 a = 5 := c1
      rw [c2, bnd_s, if_pos (by decide)]
      have M : ∀ x, f_X6_word_ (k + 4) 0 x u = some (0, u') := by
        intro x
        unfold f_X6_word_ jn_X6_word__26
        rw [b1', bnd_s, bI_0 (by simp [c1']), if_pos rfl, if_pos rfl]
      rw [M, M, bnd_s, if_pos rfl]
      have : (if (8 : Int32) ≤ nI (Sc S) then (some ((0 : Int32), u') : Option (Int32 × Mem)) else some (0, u')) = some (0, u') := by split <;> rfl
      refine .inl ⟨_, _, _, rfl, this, (by have h4 : mtN m T 0 a ≤ 5 := mt_le m T 0 a; omega), ?_, b2'.2.2.2, (frC.up v _ (by decide)).a, b3.q.b⟩
      rw [uI_same, upd_same]
  by_cases e6 : sg m T a = 102
  · rw [item_102 hK hu hm2 (by omega) e6]
    have z : ∀ w', w' < 7 → ¬ w' = 3 → ¬ w' = 6 → mtN m T w' a = 0 := fun w' h1 h2 h3 => mt_0 w' (by
      rw [e6]
      rcases w7 h1 with rfl | rfl | rfl | rfl | rfl | rfl | rfl
      · decide
      · decide
      · decide
      · exact absurd rfl h2
      · decide
      · decide
      · exact absurd rfl h3)
    by_cases e7 : sg m T (a + 1) = 108
    · rw [if_pos e7]
      -- f l: flour
      have m3 : mtN m T 3 a = 2 + mtN m T 7 (a + 2) := by
        have e : mtN m T 3 a = ldN (mtB m T 3 a) (2 + 3) := rfl
        rw [e, ld_shift (fun i hi => by
          rcases (show i = 0 ∨ i = 1 by omega) with rfl | rfl
          · exact decide_eq_true e6
          · exact decide_eq_true e7)]
        congr 1
      have m6 : mtN m T 6 a = 1 := ld_eq (by decide) (fun i hi => by
        have : i = 0 := by omega
        subst this
        exact decide_eq_true e6) (fun _ g => by
        have := of_decide_eq_true g
        rw [e7] at this
        exact absurd this (by decide))
      have hu2 : mdX (uI (uI u 39 18 (nI (a + 1))) 39 18 (nI (a + 2))) K m T (a + 2) := hu.at.at
      have hA2 : atR u (uI (uI u 39 18 (nI (a + 1))) 39 18 (nI (a + 2))) := (atR.up u _).trans (atR.up _ _)
      obtain ⟨u', b1, b2, b3⟩ := word_y (n := k + 4) (7 : Fin 9) hn hK hu2 hm2 (by omega)
      have b1' : f_X6_word (k + 4) 7 (uI (uI u 39 18 (nI (a + 1))) 39 18 (nI (a + 2))) = some (bI (decide (mtN m T 7 (a + 2) = 3)), u') := b1
      have b2' : mdX u' K m T (a + mtN m T 3 a) := by rw [m3, ← Nat.add_assoc]; exact b2
      have l7 : mtN m T 7 (a + 2) ≤ 3 := mt_le m T 7 (a + 2)
      rw [b1', bnd_s, bI_it]
      unfold f_X3_readItem
      rcases rword_y (n := k + 4) hn hK hv hm2 (by omega) with ⟨w, w1, w2, w3⟩ | ⟨w1, w2⟩
      · have ew : w = 3 := by
          have g3 : 3 ≤ txL.getD w 0 := len3 ⟨w, w1⟩
          apply Classical.byContradiction
          intro g
          by_cases g6 : w = 6
          · rw [g6, m6] at w2
            exact absurd w2 (by decide)
          · have := z w w1 g g6
            omega
        subst ew
        have w2' : mtN m T 3 a = 5 := w2
        have w3' : f_X3_readWord (k + 4) ⟨K, hK⟩ v = some (nI 3, uI v 35 2 (nI (a + 5))) := w3
        have hin : a + 5 ≤ m := by
          have := mt_in (a := a) (m := m) (T := T) (3 : Fin 9) 4 (by show 4 < mtN m T 3 a; omega)
          omega
        rw [w2'] at b2'
        have ps := h.word hK hin (hA2.trans b3) b2'
        rw [w3', bnd_s, if_neg (by decide), if_pos (by decide), if_pos (by decide), if_pos (decide_eq_true (show mtN m T 7 (a + 2) = 3 by omega))]
        unfold jn_X3_readItem_47
        exact (it_flour hn hK hm2 ps).back (Nat.le_add_right _ _) (frC.up v _ (by decide)).a (hA2.trans b3).q.b
      · have w13 : ¬ mtN m T 3 a = 5 := w1 3 (by omega)
        have mx : mxN (fun w => mtN m T w a) 7 = mtN m T 3 a := by
          show max (max (max (max (max (max (max 0 (mtN m T 0 a)) (mtN m T 1 a)) (mtN m T 2 a)) (mtN m T 3 a)) (mtN m T 4 a)) (mtN m T 5 a)) (mtN m T 6 a) = _
          rw [z 0 (by omega) (by decide) (by decide), z 1 (by omega) (by decide) (by decide), z 2 (by omega) (by decide) (by decide), z 4 (by omega) (by decide) (by decide), z 5 (by omega) (by decide) (by decide), m6]
          omega
        rw [mx] at w2
        rw [w2, bnd_s, if_pos (by decide), if_neg (show ¬ decide (mtN m T 7 (a + 2) = 3) = true by rw [decide_eq_true_eq]; omega)]
        exact .inl ⟨_, _, _, rfl, rfl, by omega, by rw [uI_same, upd_same], b2'.2.2.2, (frC.up v _ (by decide)).a, (hA2.trans b3).q.b⟩
    · rw [if_neg e7]
      -- far
      have m6 : mtN m T 6 a = 1 + mtN m T 8 (a + 1) := by
        have e : mtN m T 6 a = ldN (mtB m T 6 a) (1 + 2) := rfl
        rw [e, ld_shift (fun i hi => by
          have : i = 0 := by omega
          subst this
          exact decide_eq_true e6)]
        congr 1
      have m3 : mtN m T 3 a = 1 := ld_eq (by decide) (fun i hi => by
        have : i = 0 := by omega
        subst this
        exact decide_eq_true e6) (fun _ g => e7 (of_decide_eq_true g))
      have hu2 : mdX (uI u 39 18 (nI (a + 1))) K m T (a + 1) := hu.at
      have hA2 : atR u (uI u 39 18 (nI (a + 1))) := atR.up u _
      obtain ⟨u', b1, b2, b3⟩ := word_y (n := k + 4) (8 : Fin 9) hn hK hu2 hm2 (by omega)
      have b1' : f_X6_word (k + 4) 8 (uI u 39 18 (nI (a + 1))) = some (bI (decide (mtN m T 8 (a + 1) = 2)), u') := b1
      have b2' : mdX u' K m T (a + mtN m T 6 a) := by rw [m6, ← Nat.add_assoc]; exact b2
      have l8 : mtN m T 8 (a + 1) ≤ 2 := mt_le m T 8 (a + 1)
      rw [b1', bnd_s, bI_it]
      unfold f_X3_readItem
      rcases rword_y (n := k + 4) hn hK hv hm2 (by omega) with ⟨w, w1, w2, w3⟩ | ⟨w1, w2⟩
      · have ew : w = 6 := by
          have g3 : 3 ≤ txL.getD w 0 := len3 ⟨w, w1⟩
          apply Classical.byContradiction
          intro g
          by_cases g6 : w = 3
          · rw [g6, m3] at w2
            exact absurd w2 (by decide)
          · have := z w w1 g6 g
            omega
        subst ew
        have w2' : mtN m T 6 a = 3 := w2
        have w3' : f_X3_readWord (k + 4) ⟨K, hK⟩ v = some (nI 6, uI v 35 2 (nI (a + 3))) := w3
        have hin : a + 3 ≤ m := by
          have := mt_in (a := a) (m := m) (T := T) (6 : Fin 9) 2 (by show 2 < mtN m T 6 a; omega)
          omega
        rw [w2'] at b2'
        have ps := h.word hK hin (hA2.trans b3) b2'
        rw [w3', bnd_s, if_neg (by decide), if_pos (by decide), if_pos (by decide), if_pos (decide_eq_true (show mtN m T 8 (a + 1) = 2 by omega))]
        unfold jn_X3_readItem_47
        exact (it_pinch hn hK hm2 ps (.inr ⟨rfl, rfl⟩)).back (Nat.le_add_right _ _) (frC.up v _ (by decide)).a (hA2.trans b3).q.b
      · have w16 : ¬ mtN m T 6 a = 3 := w1 6 (by omega)
        have mx : mxN (fun w => mtN m T w a) 7 = mtN m T 6 a := by
          show max (max (max (max (max (max (max 0 (mtN m T 0 a)) (mtN m T 1 a)) (mtN m T 2 a)) (mtN m T 3 a)) (mtN m T 4 a)) (mtN m T 5 a)) (mtN m T 6 a) = _
          rw [z 0 (by omega) (by decide) (by decide), z 1 (by omega) (by decide) (by decide), z 2 (by omega) (by decide) (by decide), z 4 (by omega) (by decide) (by decide), z 5 (by omega) (by decide) (by decide), m3]
          omega
        rw [mx] at w2
        rw [w2, bnd_s, if_pos (by decide), if_neg (show ¬ decide (mtN m T 8 (a + 1) = 2) = true by rw [decide_eq_true_eq]; omega)]
        exact .inl ⟨_, _, _, rfl, rfl, by omega, by rw [uI_same, upd_same], b2'.2.2.2, (frC.up v _ (by decide)).a, (hA2.trans b3).q.b⟩
  · rw [item_no hK hu hm2 (by omega) e6 e2 e4 e5 e1 e3]
    have z : ∀ w', w' < 7 → mtN m T w' a = 0 := fun w' h1 => mt_0 w' (by
      rcases w7 h1 with rfl | rfl | rfl | rfl | rfl | rfl | rfl
      · exact e5
      · exact e1
      · exact e2
      · exact e6
      · exact e3
      · exact e4
      · exact e6)
    unfold f_X3_readItem
    rcases cw1 (n := k + 4) (w := 0) hn hK hv hm2 (by omega) (by omega) (fun w' h1 _ => z w' h1) with ⟨c1, _⟩ | ⟨c1, c2⟩
    · rw [z 0 (by omega)] at c1
      exact absurd c1 (by decide)
    · rw [c2, bnd_s, if_pos (by decide)]
      refine .inl ⟨a, _, _, rfl, rfl, by omega, ?_, hu.2.2.2, (frC.up v _ (by decide)).a, frB.rf u⟩
      rw [uI_same, upd_same, z 0 (by omega)]
      rfl
