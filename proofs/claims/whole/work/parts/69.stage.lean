/-! layer 2: map, a number that is to stand -/
def frA (v v' : Mem) : Prop := v'.2 = v.2 ∧ ∀ o, ¬ o ∈ [2, 5, 8, 11, 35, 36] → v'.1 o = v.1 o
theorem frA.rf (v : Mem) : frA v v := ⟨rfl, fun _ _ => rfl⟩
theorem frA.trans {u u1 u2 : Mem} (h : frA u u1) (g : frA u1 u2) : frA u u2 := ⟨g.1.trans h.1, fun o ho => (g.2 o ho).trans (h.2 o ho)⟩
theorem frC.a {v v' : Mem} (h : frC v v') : frA v v' := ⟨h.1, fun o ho => h.2 o (fun g => ho (by revert g; simp only [List.mem_cons, List.not_mem_nil, or_false]; omega))⟩
theorem Fr.a {v v' : Mem} (h : Fr v v' [2, 5, 8, 11]) : frA v v' := ⟨h.2, fun o ho => h.1 o (fun g => ho (by revert g; simp only [List.mem_cons, List.not_mem_nil, or_false]; omega))⟩
def frB (w w' : Mem) : Prop := w'.2 = w.2 ∧ (∀ o, ¬ o ∈ [39, 43, 44, 45, 50] → w'.1 o = w.1 o) ∧ ∀ j, ¬ j ∈ [3, 7, 8, 9, 18] → w'.1 39 j = w.1 39 j
theorem frB.rf (v : Mem) : frB v v := ⟨rfl, fun _ _ => rfl, fun _ _ => rfl⟩
theorem frB.trans {u u1 u2 : Mem} (h : frB u u1) (g : frB u1 u2) : frB u u2 := ⟨g.1.trans h.1, fun o ho => (g.2.1 o ho).trans (h.2.1 o ho), fun j hj => (g.2.2 j hj).trans (h.2.2 j hj)⟩
theorem atQ.b {w w' : Mem} (h : atQ w w') : frB w w' := ⟨h.1, fun o ho => h.2.1 o (fun g => ho (by revert g; simp only [List.mem_cons, List.not_mem_nil, or_false]; omega)), fun j hj => h.2.2 j (fun g => hj (by rw [g]; decide))⟩
theorem frU.b {w w' : Mem} (h : frU w w') : frB w w' := ⟨h.1, fun o ho => h.2.1 o (fun g => ho (by revert g; simp only [List.mem_cons, List.not_mem_nil, or_false]; omega)), fun j hj => h.2.2 j (fun g => hj (by revert g; simp only [List.mem_cons, List.not_mem_nil, or_false]; omega))⟩
theorem isLd.c {v v' : Mem} {S : Ld} (h : isLd v 1 S) (f : frC v v') : isLd v' 1 S := by
  unfold isLd
  rw [f.2 (oLd 1) (by decide), f.2 (oKn 1) (by decide), f.2 (oMk 1) (by decide), f.2 (oRd 1) (by decide)]
  exact h
theorem isMd.q {w w' : Mem} {S : Ld} (h : isMd w S) (f : atQ w w') : isMd w' S := by
  unfold isMd
  rw [f.2.2 3 (by decide), f.2.2 7 (by decide), f.2.2 8 (by decide), f.2.2 9 (by decide), f.2.1 43 (by decide), f.2.1 44 (by decide), f.2.1 45 (by decide)]
  exact h
/-- both stand at a, with the same land -/
def psP (K m : Nat) (T : Nat → Int32) (S : Ld) (a : Nat) (v w : Mem) : Prop := isLd v 1 S ∧ isMd w S ∧ okLd S ∧ clX v K m T a ∧ mdX w K m T a ∧ v.1 35 0 = -1 ∧ a ≤ m
/-- both have failed at e -/
def flP (v w v' w' : Mem) (e : Nat) : Prop := e ≤ 1000 ∧ v'.1 35 0 = nI e ∧ w'.1 39 18 = nI e ∧ frA v v' ∧ frB w w'
theorem nu_y : ∀ w : Fin 7, ∀ i : Fin 3, (nuF w.val ≤ nI i.val ↔ ¬ i.val < (nuF w.val).toNatClampNeg) ∧ nuF w.val ≤ 3 := by decide +kernel
theorem step_50 {v : Mem} {K n w i : Nat} (hK : K < 8) (hw : w < 7) (hi : i < (nuF w).toNatClampNeg) (hi3 : i < 3) (self : Int32 × Int32 × Mem → Option (Int32 × Mem)) : bd_X3_readItem_50 n ⟨K, hK⟩ 1 self (nI w, nI i, v) = bnd (f_X3_readNumber n ⟨K, hK⟩ (nI i) v) fun r13 t14 => if ¬ r13 = 0 then (bnd (f_X3_stands (nI w) (nI i) 1 t14) fun r16 t17 => if ¬ r16 = 0 then self (nI w, nI (i + 1), t17) else lt (uI t17 35 0 (t17.1 35 3)) fun t19 => some (0, t19)) else some (0, t14) := by
  unfold bd_X3_readItem_50
  dsimp only
  rw [ck_t (inb_nI hw (by decide)), nI_clamp (by omega), if_neg (fun g => ((nu_y ⟨w, hw⟩ ⟨i, hi3⟩).1.mp g) hi), if_neg (show ¬ (3 : Int32) ≤ nI i by rw [show (3 : Int32) = nI 3 from rfl, nI_le' (by omega) (by omega)]; omega), nI_s]
theorem end_50 {v : Mem} {K n w i : Nat} (hK : K < 8) (hw : w < 7) (hi : nuF w ≤ nI i) (self : Int32 × Int32 × Mem → Option (Int32 × Mem)) : bd_X3_readItem_50 n ⟨K, hK⟩ 1 self (nI w, nI i, v) = bnd (f_X3_tell n (nI w) 1 v) fun _ t20 => some (1, t20) := by
  unfold bd_X3_readItem_50 jn_X3_readItem_111
  dsimp only
  rw [ck_t (inb_nI hw (by decide)), nI_clamp (by omega), if_pos hi]
/-- a number that stands when it lies between two -/
theorem stage {v u : Mem} {K m a n w i : Nat} {T : Nat → Int32} {S : Ld} {lo hi : Int32} (hn : 8 < n) (hK : K < 8) (hm2 : m ≤ 160) (h : psP K m T S a v u) (hw : w < 7) (hi1 : i < (nuF w).toNatClampNeg) (hi3 : i < 3) (hst : ∀ V v', V ≤ 99999 → isLd v' 1 S → v'.1 36 i = nI V → (∀ k, ¬ k = i → v'.1 36 k = v.1 36 k) → (f_X6_within (nI V) lo hi = some 1 → f_X3_stands (nI w) (nI i) 1 v' = some (1, v')) ∧ (f_X6_within (nI V) lo hi = some 0 → f_X3_stands (nI w) (nI i) 1 v' = some (0, v'))) : (∃ e v1 u1, (∀ self, bd_X3_readItem_50 n ⟨K, hK⟩ 1 self (nI w, nI i, v) = some (0, v1)) ∧ f_X6_number n (nI i) lo hi u = some (0, u1) ∧ flP v u v1 u1 e) ∨ (∃ V e v1 u1, f_X6_within (nI V) lo hi = some 1 ∧ V ≤ 99999 ∧ a < e ∧ (∀ self, bd_X3_readItem_50 n ⟨K, hK⟩ 1 self (nI w, nI i, v) = self (nI w, nI (i + 1), v1)) ∧ f_X6_number n (nI i) lo hi u = some (1, u1) ∧ psP K m T S e v1 u1 ∧ v1.1 36 i = nI V ∧ (∀ k, ¬ k = i → v1.1 36 k = v.1 36 k) ∧ u1.1 50 i = nI V ∧ (∀ k, ¬ k = i → u1.1 50 k = u.1 50 k) ∧ frC v v1 ∧ atQ u u1) := by
  obtain ⟨hl, hm, ok, hv, hu, h35, ham⟩ := h
  rcases num_both (i := i) (n := n) hn hK hv hu hm2 ham hi3 with ⟨e, v', u', a0, a1, a2, a3, a4, a5, a6⟩ | ⟨V, e, v', u', a1, a2, a3, a4, a5, a6, a7, a8, a9, a10, a11, a12, a13, a14, a15⟩
  · refine .inl ⟨e, v', u', fun self => ?_, a2 lo hi, a0, a4, a6, a3.a, a5.b⟩
    rw [step_50 hK hw hi1 hi3, a1, bnd_s, if_neg z_nn]
  · have hl' := hl.c a5
    obtain ⟨s1, s2⟩ := hst V v' a1 hl' a9 a10
    rcases win_or (nI V) lo hi with g | g
    · refine .inr ⟨V, e, v', u', g, a1, a2, fun self => ?_, (a15 lo hi).1 g, ⟨hl', hm.q a11, ok, a6, a12, a7.trans h35, a3⟩, a9, a10, a13, a14, a5, a11⟩
      rw [step_50 hK hw hi1 hi3, a4, bnd_s, if_pos one_ne, s1 g, bnd_s, if_pos one_ne]
    · refine .inl ⟨a + 1, uI v' 35 0 (v'.1 35 3), _, fun self => ?_, (a15 lo hi).2 g, by omega, by rw [uI_same, upd_same, a8], by rw [uI_same, upd_same], (a5.trans (frC.up v' _ (by decide))).a, (a11.trans (atR.up u' _).q).b⟩
      rw [step_50 hK hw hi1 hi3, a4, bnd_s, if_pos one_ne, s2 g, bnd_s, if_neg z_nn, ltm_s]
/-! what stands -/
theorem plc_ge {c V : Nat} (h : c ≤ V) (hV : V ≤ 99999) : plc c (nI V) = none := by
  unfold plc
  rw [nI_toInt (by omega), if_neg (by omega)]
def two4 (w : Nat) : Prop := w = 1 ∨ w = 2 ∨ w = 5 ∨ w = 6
theorem st_0 {v : Mem} {w : Nat} (h : two4 w) : f_X3_stands (nI w) (nI 0) 1 v = bnd (f_X1_has 1 (v.1 36 0) v) fun r t => ck (isB r) <| some (r, t) := by
  rcases h with rfl | rfl | rfl | rfl <;> rfl
theorem st_1 {v : Mem} {w : Nat} (h : two4 w) : f_X3_stands (nI w) (nI 1) 1 v = bnd (f_X1_between 1 (v.1 36 0) (v.1 36 1) v) fun r t => if r = 0 then jn_X3_stands_128 (nI w) (nI 1) 1 (v.1 36 1) 0 t else jn_X3_stands_128 (nI w) (nI 1) 1 (v.1 36 1) 1 t := by
  rcases h with rfl | rfl | rfl | rfl <;> rfl
theorem st_2r {v : Mem} : f_X3_stands (nI 1) (nI 2) 1 v = if v.1 36 2 < 1 then some (0, v) else if 999 < v.1 36 2 then some (0, v) else some (1, v) := rfl
theorem st_2n {v : Mem} : f_X3_stands (nI 5) (nI 2) 1 v = bnd (f_X1_mayPinch 1 (v.1 36 0) (v.1 36 1) (-(v.1 36 2)) v) fun r t => ck (isB r) <| some (r, t) := rfl
theorem st_2f {v : Mem} : f_X3_stands (nI 6) (nI 2) 1 v = bnd (f_X1_mayPinch 1 (v.1 36 0) (v.1 36 1) (v.1 36 2) v) fun r t => ck (isB r) <| some (r, t) := rfl
theorem st_p0 {v : Mem} : f_X3_stands (nI 0) (nI 0) 1 v = if 6 < v.1 36 0 then some (0, v) else some (1, v) := rfl
theorem st_p1 {v : Mem} : f_X3_stands (nI 0) (nI 1) 1 v = if 9 < v.1 36 1 then some (0, v) else some (1, v) := rfl
theorem st_fl {v : Mem} : f_X3_stands (nI 3) (nI 0) 1 v = if 99999 < v.1 36 0 then some (0, v) else some (1, v) := rfl
theorem st_wi {v : Mem} : f_X3_stands (nI 4) (nI 0) 1 v = if 9 < v.1 36 0 then some (0, v) else some (1, v) := rfl
theorem win_hi {V H : Nat} (hV : V ≤ 99999) (hH : H ≤ 99999) : (f_X6_within (nI V) 0 (nI H) = some 1 → ¬ nI H < nI V) ∧ (f_X6_within (nI V) 0 (nI H) = some 0 → nI H < nI V) := by
  unfold f_X6_within
  rw [if_neg (nI_nneg (by omega))]
  by_cases e : nI H < nI V
  · rw [if_pos e]
    exact ⟨fun g => absurd (Option.some.inj g) (by decide), fun _ => e⟩
  · rw [if_neg e]
    exact ⟨fun _ => e, fun g => absurd (Option.some.inj g) (by decide)⟩
/-- two places, on both sides -/
theorem two_both {v u : Mem} {K m a n w : Nat} {T : Nat → Int32} {S : Ld} {J : Int32} (hn : 8 < n) (hK : K < 8) (hm2 : m ≤ 160) (h : psP K m T S a v u) (hw : two4 w) (hJ : (J = 1 ∧ w = 2) ∨ (J = 0 ∧ ¬ w = 2)) : (∃ e v1 u1, (∀ k, iter (bd_X3_readItem_50 n ⟨K, hK⟩ 1) (k + 2) (nI w, 0, v) = some (0, v1)) ∧ f_X6_two n J u = some (0, u1) ∧ flP v u v1 u1 e) ∨ (∃ p q e v1 u1, p < Sc S ∧ q < Sc S ∧ ¬ p = q ∧ (w = 2 → ¬ Sw S p q = 0) ∧ a < e ∧ (∀ k, iter (bd_X3_readItem_50 n ⟨K, hK⟩ 1) (k + 2) (nI w, 0, v) = iter (bd_X3_readItem_50 n ⟨K, hK⟩ 1) k (nI w, nI 2, v1)) ∧ f_X6_two n J u = some (1, u1) ∧ psP K m T S e v1 u1 ∧ v1.1 36 0 = nI p ∧ v1.1 36 1 = nI q ∧ u1.1 50 0 = nI p ∧ u1.1 50 1 = nI q ∧ frC v v1 ∧ atQ u u1) := by
  have hw7 : w < 7 := by unfold two4 at hw; omega
  have hnu : 2 ≤ (nuF w).toNatClampNeg := by rcases hw with rfl | rfl | rfl | rfl <;> decide
  obtain ⟨hl, hm, ok, hv, hu, h35, ham⟩ := id h
  have hc := ok.1
  have hu3 : u.1 39 3 = nI (Sc S) := hm.1
  rcases stage (i := 0) (lo := 0) (hi := nI (Sc S) - 1) hn hK hm2 h hw7 (by omega) (by omega) (fun V v' hV hl' h36 _ => by
    rw [st_0 hw, h36]
    by_cases e : V < Sc S
    · rw [win_len_y (by omega) e, has_y hl' hc e, bnd_s, ck_t (by decide)]
      exact ⟨fun _ => rfl, fun g => absurd (Option.some.inj g) (by decide)⟩
    · rw [win_len_n (by omega) (plc_ge (by omega) hV), has_n hl' hc (plc_ge (by omega) hV), bnd_s, ck_t (by decide)]
      exact ⟨fun g => absurd (Option.some.inj g) (by decide), fun _ => rfl⟩) with ⟨e, v1, u1, a1, a2, a3⟩ | ⟨p, e, v1, u1, a0, a1, a2, a3, a4, a5, a6, a7, a8, a9, a10, a11⟩
  · left
    refine ⟨e, v1, u1, fun k => a1 _, ?_, a3⟩
    have a2' : f_X6_number n 0 0 (nI (Sc S) - 1) u = some (0, u1) := a2
    unfold f_X6_two
    rw [hu3, a2', bnd_s, if_neg z_nn]
  have hp : p < Sc S := by
    apply Classical.byContradiction
    intro g
    rw [win_len_n (by omega) (plc_ge (by omega) a1)] at a0
    exact absurd (Option.some.inj a0) (by decide)
  obtain ⟨bl, bm, _, bv, bu, b35, bem⟩ := id a5
  have hu13 : u1.1 39 3 = nI (Sc S) := bm.1
  -- the model behind its first number
  have M : f_X6_two n J u = bnd (f_X6_number n 1 0 (nI (Sc S) - 1) u1) fun r4 t5 => if ¬ r4 = 0 then (ck (inb 0 3) <| ck (inb 1 3) <| if (t5.1 50 (0 : Int32).toNatClampNeg) = (t5.1 50 (1 : Int32).toNatClampNeg) then (jn_X6_two_88 n J (nI (e + 1)) t5) else if J = 0 then (jn_X6_two_84 n J (nI (e + 1)) t5) else ck (inb 0 3) <| ck (inb 1 3) <| ck (inb ((8 * (t5.1 50 (0 : Int32).toNatClampNeg)) + (t5.1 50 (1 : Int32).toNatClampNeg)) 64) <| if (t5.1 45 ((8 * (t5.1 50 (0 : Int32).toNatClampNeg)) + (t5.1 50 (1 : Int32).toNatClampNeg)).toNatClampNeg) ≤ 0 then (jn_X6_two_88 n J (nI (e + 1)) t5) else jn_X6_two_84 n J (nI (e + 1)) t5) else some (0, t5) := by
    have a4' : f_X6_number n 0 0 (nI (Sc S) - 1) u = some (1, u1) := a4
    unfold f_X6_two
    rw [hu3, a4', bnd_s, if_pos one_ne, hu13, bu.2.2.2, nI_s]
  rcases num_both (i := 1) (n := n) hn hK bv bu hm2 bem (by omega) with ⟨e2, v2, u2, c0, c1, c2, c3, c4, c5, c6⟩ | ⟨q, e2, v2, u2, c1, c2, c3, c4, c5, c6, c7, c8, c9, c10, c11, c12, c13, c14, c15⟩
  · left
    refine ⟨e2, v2, u2, fun k => ?_, ?_, c0, c4, c6, a10.a.trans c3.a, a11.b.trans c5.b⟩
    · show bd_X3_readItem_50 n ⟨K, hK⟩ 1 (iter (bd_X3_readItem_50 n ⟨K, hK⟩ 1) (k + 1)) (nI w, nI 0, v) = _
      rw [a3]
      show bd_X3_readItem_50 n ⟨K, hK⟩ 1 (iter (bd_X3_readItem_50 n ⟨K, hK⟩ 1) k) (nI w, nI 1, v1) = _
      rw [step_50 hK hw7 (by omega) (by omega), c1, bnd_s, if_neg z_nn]
    · have c2' : f_X6_number n 1 0 (nI (Sc S) - 1) u1 = some (0, u2) := c2 0 (nI (Sc S) - 1)
      rw [M, c2', bnd_s, if_neg z_nn]
  have hl2 := bl.c c5
  have hm2' := bm.q c11
  have h360 : v2.1 36 0 = nI p := (c10 0 (by decide)).trans a6
  have h500 : u2.1 50 0 = nI p := (c14 0 (by decide)).trans a8
  have z0 : (0 : Int32).toNatClampNeg = 0 := rfl
  have z1 : (1 : Int32).toNatClampNeg = 1 := rfl
  -- the class behind its second number
  have C : ∀ k, iter (bd_X3_readItem_50 n ⟨K, hK⟩ 1) (k + 2) (nI w, 0, v) = bnd (f_X3_stands (nI w) (nI 1) 1 v2) fun r16 t17 => if ¬ r16 = 0 then iter (bd_X3_readItem_50 n ⟨K, hK⟩ 1) k (nI w, nI 2, t17) else lt (uI t17 35 0 (t17.1 35 3)) fun t19 => some (0, t19) := by
    intro k
    show bd_X3_readItem_50 n ⟨K, hK⟩ 1 (iter (bd_X3_readItem_50 n ⟨K, hK⟩ 1) (k + 1)) (nI w, nI 0, v) = _
    rw [a3]
    show bd_X3_readItem_50 n ⟨K, hK⟩ 1 (iter (bd_X3_readItem_50 n ⟨K, hK⟩ 1) k) (nI w, nI 1, v1) = _
    rw [step_50 hK hw7 (by omega) (by omega), c4, bnd_s, if_pos one_ne]
  -- a second number that doesn't stand
  have bad : ∀ uu : Mem, f_X3_stands (nI w) (nI 1) 1 v2 = some (0, v2) → f_X6_two n J u = some (0, uI u2 39 18 (nI (e + 1))) → ∃ e v1 u1, (∀ k, iter (bd_X3_readItem_50 n ⟨K, hK⟩ 1) (k + 2) (nI w, 0, v) = some (0, v1)) ∧ f_X6_two n J u = some (0, u1) ∧ flP v u v1 u1 e := by
    intro _ h1 h2
    refine ⟨e + 1, uI v2 35 0 (v2.1 35 3), uI u2 39 18 (nI (e + 1)), fun k => ?_, h2, by omega, by rw [uI_same, upd_same, c8], by rw [uI_same, upd_same], (a10.a.trans c5.a).trans (frC.up v2 _ (by decide)).a, (a11.b.trans c11.b).trans (atR.up u2 _).q.b⟩
    rw [C, h1, bnd_s, if_neg z_nn, ltm_s]
  by_cases hq : q < Sc S
  · have d1 : f_X6_number n 1 0 (nI (Sc S) - 1) u1 = some (1, u2) := (c15 0 (nI (Sc S) - 1)).1 (win_len_y (by omega) hq)
    have hw9 := ok.2.2.2.2.2.1 p q
    rw [d1, bnd_s, if_pos one_ne, ck_t (by decide), ck_t (by decide), z0, z1, h500, c13] at M
    have S1 : f_X3_stands (nI w) (nI 1) 1 v2 = if q = p then some (0, v2) else if ¬ w = 2 then some (1, v2) else if Sw S p q = 0 then some (0, v2) else some (1, v2) := by
      have j128 : ∀ x : Int32, jn_X3_stands_128 (nI w) (nI 1) 1 (nI q) x v2 = if q = p then some (0, v2) else if ¬ w = 2 then some (1, v2) else if x = 0 then some (0, v2) else some (1, v2) := by
        intro x
        unfold jn_X3_stands_128
        rw [has_y hl2 hc hq, bnd_s, if_neg one_ne, ck_t (by decide), z0, h360]
        by_cases e1 : q = p
        · rw [if_pos e1, if_pos (by rw [e1])]
        · rw [if_neg e1, if_neg (nI_ne (by omega) (by omega) e1)]
          by_cases e2 : w = 2
          · rw [if_neg (show ¬ ¬ nI w = 2 by rw [e2]; decide), if_neg (show ¬ ¬ w = 2 from fun g => g e2)]
          · rw [if_pos (show ¬ nI w = 2 from nI_ne (b := 2) (by omega) (by omega) e2), if_pos e2]
      rw [st_1 hw, h360, c9, btw_y hl2 hc hp hq, bnd_s, j128, j128]
      by_cases e3 : Sw S p q = 0
      · rw [if_pos (show nI (Sw S p q) = 0 by rw [e3]; rfl), if_pos rfl, if_pos e3]
      · rw [if_neg (fun g => e3 ((nI_z (by omega)).mp g)), if_neg one_ne, if_neg e3]
    by_cases e1 : q = p
    · left
      rw [if_pos (show nI p = nI q by rw [e1])] at M
      rw [if_pos e1] at S1
      refine bad u2 S1 ?_
      rw [M]
      unfold jn_X6_two_88 jn_X6_two_89
      rw [if_neg z_nn, ltm_s, ck_t (by decide)]
    · rw [if_neg (nI_ne (by omega) (by omega) (fun g => e1 g.symm))] at M
      rw [if_neg e1] at S1
      -- it stands
      have good : (w = 2 → ¬ Sw S p q = 0) → f_X3_stands (nI w) (nI 1) 1 v2 = some (1, v2) → f_X6_two n J u = some (1, u2) → ∃ p q e v1 u1, p < Sc S ∧ q < Sc S ∧ ¬ p = q ∧ (w = 2 → ¬ Sw S p q = 0) ∧ a < e ∧ (∀ k, iter (bd_X3_readItem_50 n ⟨K, hK⟩ 1) (k + 2) (nI w, 0, v) = iter (bd_X3_readItem_50 n ⟨K, hK⟩ 1) k (nI w, nI 2, v1)) ∧ f_X6_two n J u = some (1, u1) ∧ psP K m T S e v1 u1 ∧ v1.1 36 0 = nI p ∧ v1.1 36 1 = nI q ∧ u1.1 50 0 = nI p ∧ u1.1 50 1 = nI q ∧ frC v v1 ∧ atQ u u1 := by
        intro h0 h1 h2
        refine ⟨p, q, e2, v2, u2, hp, hq, fun g => e1 g.symm, h0, by omega, fun k => ?_, h2, ⟨hl2, hm2', ok, c6, c12, c7.trans b35, c3⟩, h360, c9, h500, c13, a10.trans c5, a11.trans c11⟩
        rw [C, h1, bnd_s, if_pos one_ne]
      rcases hJ with ⟨rfl, h2⟩ | ⟨rfl, h2⟩
      · rw [if_neg one_ne, ck_t (by decide), ck_t (by decide), ck_t (inb8' (by omega) (by omega)), clamp8' (by omega) (by omega), hm2'.2.2.2.2.2.2 p q (by omega) (by omega)] at M
        rw [if_neg (fun g => g h2)] at S1
        by_cases e3 : Sw S p q = 0
        · left
          rw [if_pos ((nI_le0 (by omega)).mpr e3)] at M
          rw [if_pos e3] at S1
          refine bad u2 S1 ?_
          rw [M]
          unfold jn_X6_two_88 jn_X6_two_89
          rw [if_neg z_nn, ltm_s, ck_t (by decide)]
        · right
          rw [if_neg (fun g => e3 ((nI_le0 (by omega)).mp g))] at M
          rw [if_neg e3] at S1
          refine good (fun _ => e3) S1 ?_
          rw [M]
          unfold jn_X6_two_84 jn_X6_two_89
          rw [if_pos one_ne, ck_t (by decide)]
      · right
        rw [if_pos rfl] at M
        rw [if_pos h2] at S1
        refine good (fun g => absurd g h2) S1 ?_
        rw [M]
        unfold jn_X6_two_84 jn_X6_two_89
        rw [if_pos one_ne, ck_t (by decide)]
  · left
    have d1 : f_X6_number n 1 0 (nI (Sc S) - 1) u1 = some (0, uI u2 39 18 (nI (e + 1))) := (c15 0 (nI (Sc S) - 1)).2 (win_len_n (by omega) (plc_ge (by omega) c1))
    rw [d1, bnd_s, if_neg z_nn] at M
    refine bad u2 ?_ M
    have hpn := plc_ge (c := Sc S) (V := q) (by omega) c1
    have j128 : ∀ x : Int32, jn_X3_stands_128 (nI w) (nI 1) 1 (nI q) x v2 = some (0, v2) := by
      intro x
      unfold jn_X3_stands_128
      rw [has_n hl2 hc hpn, bnd_s, if_pos rfl]
    rw [st_1 hw, h360, c9, btw_n hl2 hc (.inr hpn), bnd_s, if_pos rfl, j128]
