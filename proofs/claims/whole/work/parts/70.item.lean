/-! layer 2: map, what is told -/
def itR (K m : Nat) (T : Nat → Int32) (S : Ld) (a : Nat) (v u : Mem) (c d : Option (Int32 × Mem)) : Prop := (∃ e v1 u1, c = some (0, v1) ∧ d = some (0, u1) ∧ flP v u v1 u1 e) ∨ (∃ S' e v1 u1, c = some (1, v1) ∧ d = some (1, u1) ∧ psP K m T S' e v1 u1 ∧ a < e ∧ Sc S ≤ Sc S' ∧ frA v v1 ∧ frB u u1)
theorem psP.land {K m e : Nat} {T : Nat → Int32} {S S' : Ld} {v u v' u' : Mem} (hK : K < 8) (h : psP K m T S e v u) (hl : isLd v' 1 S') (hm : isMd u' S') (ok : okLd S') (f : Fr v v' [2, 5, 8, 11]) (g : frU u u') : psP K m T S' e v' u' := by
  obtain ⟨_, _, _, ⟨h1, h2⟩, ⟨h3, h4, h5, h6⟩, h7, h8⟩ := h
  refine ⟨hl, hm, ok, ⟨h1.fr (f.1 _ (sh_n hK (by decide))) f.2, by rw [f.1 35 (by decide)]; exact h2⟩, ⟨h3.fr g.1, ?_, ?_, ?_⟩, by rw [f.1 35 (by decide)]; exact h7, h8⟩
  · rw [g.2.1 41 (by decide)]; exact h4
  · rw [g.2.2 17 (by decide)]; exact h5
  · rw [g.2.2 18 (by decide)]; exact h6
theorem frU.of {w w' : Mem} (h1 : w'.2 = w.2) (h2 : ∀ o, ¬ o ∈ [39, 45] → w'.1 o = w.1 o) (h3 : ∀ j, ¬ j = 7 → w'.1 39 j = w.1 39 j) : frU w w' := ⟨h1, fun o ho => h2 o (fun g => ho (by revert g; simp only [List.mem_cons, List.not_mem_nil, or_false]; omega)), fun k hk => h3 k (fun g => hk (by rw [g]; decide))⟩
theorem tl_p {n : Nat} {v : Mem} : f_X3_tell n (nI 0) 1 v = bnd (f_X1_found 1 (v.1 36 0) (v.1 36 1) v) fun r4 t5 => some ((), t5) := rfl
theorem tl_r {n : Nat} {v : Mem} : f_X3_tell n (nI 1) 1 v = bnd (f_X1_lay 1 (v.1 36 0) (v.1 36 1) (v.1 36 2) v) fun _ t5 => some ((), t5) := rfl
theorem tl_m {n : Nat} {v : Mem} : f_X3_tell n (nI 2) 1 v = bnd (f_X1_grindRoad n 1 (v.1 36 0) (v.1 36 1) v) fun _ t5 => some ((), t5) := rfl
theorem tl_f {n : Nat} {v : Mem} : f_X3_tell n (nI 3) 1 v = some ((), uI v (oLd 1) 4 (v.1 36 0)) := rfl
theorem tl_w {n : Nat} {v : Mem} : f_X3_tell n (nI 4) 1 v = some ((), uI v (oLd 1) 5 (v.1 36 0)) := rfl
theorem tl_n {n : Nat} {v : Mem} : f_X3_tell n (nI 5) 1 v = bnd (f_X1_pinch 1 (v.1 36 0) (v.1 36 1) (-(v.1 36 2)) v) fun _ t5 => some ((), t5) := rfl
theorem tl_a {n : Nat} {v : Mem} : f_X3_tell n (nI 6) 1 v = bnd (f_X1_pinch 1 (v.1 36 0) (v.1 36 1) (v.1 36 2) v) fun _ t5 => some ((), t5) := rfl
def tlP (n : Nat) (u : Mem) : Option (Int32 × Mem) := bnd (f_X6_number n 0 0 6 u) fun r86 t87 => if r86 = 0 then (some (0, t87)) else bnd (f_X6_number n 1 0 9 t87) fun r89 t90 => if ¬ r89 = 0 then (ck (inb 0 3) <| ck (inb 1 3) <| bnd (f_X6_newPlace n (t90.1 50 (0 : Int32).toNatClampNeg) (t90.1 50 (1 : Int32).toNatClampNeg) t90) fun r94 t95 => some (1, t95)) else some (0, t90)
def tlR (n : Nat) (u : Mem) : Option (Int32 × Mem) := bnd (f_X6_two n 0 u) fun r58 t59 => if r58 = 0 then (some (0, t59)) else bnd (f_X6_number n 2 1 999 t59) fun r61 t62 => if ¬ r61 = 0 then (ck (inb 0 3) <| ck (inb 1 3) <| ck (inb 2 3) <| bnd (f_X6_lay (t62.1 50 (0 : Int32).toNatClampNeg) (t62.1 50 (1 : Int32).toNatClampNeg) (t62.1 50 (2 : Int32).toNatClampNeg) t62) fun r67 t68 => some (1, t68)) else some (0, t62)
def tlM (n : Nat) (u : Mem) : Option (Int32 × Mem) := bnd (f_X6_two n 1 u) fun r30 t31 => if ¬ r30 = 0 then (ck (inb 0 3) <| ck (inb 1 3) <| bnd (f_X6_mills n (t31.1 50 (0 : Int32).toNatClampNeg) (t31.1 50 (1 : Int32).toNatClampNeg) t31) fun _ t35 => some (1, t35)) else some (0, t31)
def tlF (n : Nat) (u : Mem) : Option (Int32 × Mem) := bnd (f_X6_number n 0 0 99999 u) fun r15 t16 => if ¬ r15 = 0 then (ck (inb 0 3) <| lt (uI t16 39 7 (t16.1 50 (0 : Int32).toNatClampNeg)) fun t19 => some (1, t19)) else some (0, t16)
def tlW (n : Nat) (u : Mem) : Option (Int32 × Mem) := bnd (f_X6_number n 0 0 9 u) fun r77 t78 => if ¬ r77 = 0 then (ck (inb 0 3) <| lt (uI t78 39 8 (t78.1 50 (0 : Int32).toNatClampNeg)) fun t81 => some (1, t81)) else some (0, t78)
def tlN (n : Nat) (v1 : Int32) (u : Mem) : Option (Int32 × Mem) := bnd (f_X6_two n 0 u) fun r99 t100 => if ¬ r99 = 0 then (bnd (f_X6_number n 2 1 998 t100) fun r102 t103 => if ¬ r102 = 0 then (if v1 = 0 then (ck (inb 2 3) <| jn_X6_item_389 n ((t100.1 39 18) + 1) (t103.1 50 (2 : Int32).toNatClampNeg) t103) else ck (inb 2 3) <| jn_X6_item_389 n ((t100.1 39 18) + 1) (-(t103.1 50 (2 : Int32).toNatClampNeg)) t103) else some (0, t103)) else some (0, t100)
theorem win_H {V H : Nat} {lo : Int32} (hV : V ≤ 99999) (hH : H ≤ 99999) (hlo : lo = 0) (h : f_X6_within (nI V) lo (nI H) = some 1) : V ≤ H := by
  subst hlo
  have := (win_hi hV hH).1 h
  rw [nI_lt' (by omega) (by omega)] at this
  omega
theorem it_place {v u : Mem} {K m a k : Nat} {T : Nat → Int32} {S : Ld} (hn : 8 < k + 4) (hK : K < 8) (hm2 : m ≤ 160) (h : psP K m T S a v u) (hroom : Sc S < 8) : itR K m T S a v u (iter (bd_X3_readItem_50 (k + 4) ⟨K, hK⟩ 1) (k + 4) (nI 0, 0, v)) (tlP (k + 4) u) := by
  unfold tlP
  rcases stage (w := 0) (i := 0) (lo := 0) (hi := nI 6) hn hK hm2 h (by omega) (by decide) (by omega) (fun V v' hV hl' h36 _ => by
    rw [st_p0, h36]
    obtain ⟨g1, g2⟩ := win_hi (V := V) (H := 6) hV (by omega)
    exact ⟨fun g => if_neg (g1 g), fun g => if_pos (g2 g)⟩) with ⟨e, v1, u1, a1, a2, a3⟩ | ⟨p, e, v1, u1, a0, a1, a2, a3, a4, a5, a6, a7, a8, a9, a10, a11⟩
  · left
    have a2' : f_X6_number (k + 4) 0 0 6 u = some (0, u1) := a2
    exact ⟨e, v1, u1, a1 _, by rw [a2', bnd_s, if_pos rfl], a3⟩
  have hp := win_H a1 (by omega) rfl a0
  have a4' : f_X6_number (k + 4) 0 0 6 u = some (1, u1) := a4
  rw [a4', bnd_s, if_neg one_ne]
  have C1 : iter (bd_X3_readItem_50 (k + 4) ⟨K, hK⟩ 1) (k + 4) (nI 0, 0, v) = iter (bd_X3_readItem_50 (k + 4) ⟨K, hK⟩ 1) (k + 3) (nI 0, nI 1, v1) := a3 _
  rw [C1]
  rcases stage (w := 0) (i := 1) (lo := 0) (hi := nI 9) hn hK hm2 a5 (by omega) (by decide) (by omega) (fun V v' hV hl' h36 _ => by
    rw [st_p1, h36]
    obtain ⟨g1, g2⟩ := win_hi (V := V) (H := 9) hV (by omega)
    exact ⟨fun g => if_neg (g1 g), fun g => if_pos (g2 g)⟩) with ⟨e2, v2, u2, b1, b2, b3⟩ | ⟨q, e2, v2, u2, b0, b1, b2, b3, b4, b5, b6, b7, b8, b9, b10, b11⟩
  · left
    have b2' : f_X6_number (k + 4) 1 0 9 u1 = some (0, u2) := b2
    exact ⟨e2, v2, u2, b1 _, by rw [b2', bnd_s, if_neg z_nn], b3.1, b3.2.1, b3.2.2.1, a10.a.trans b3.2.2.2.1, a11.b.trans b3.2.2.2.2⟩
  right
  have hq := win_H b1 (by omega) rfl b0
  have b4' : f_X6_number (k + 4) 1 0 9 u1 = some (1, u2) := b4
  have h360 : v2.1 36 0 = nI p := (b7 0 (by decide)).trans a6
  have h500 : u2.1 50 0 = nI p := (b9 0 (by decide)).trans a8
  obtain ⟨v3, c1, c2, c3⟩ := found_y (k := p) (m := q) b5.1 hroom
  obtain ⟨u3, d1, d2, d3, d4, d5⟩ := newP_y (k := p) (m := q) (n := k + 4) hn b5.2.1 b5.2.2.1 hroom
  have fv : Fr v2 v3 [2, 5, 8, 11] := c3.mono (by decide)
  have fu : frU u2 u3 := ⟨d3, d4, fun j hj => d5 j (fun g => hj (by rw [g]; decide))⟩
  refine ⟨addP S p q, e2, v3, u3, ?_, ?_, b5.land hK c2 d2 (b5.2.2.1.addP hroom hp hq) fv fu, by omega, Nat.le_succ _, (a10.a.trans b10.a).trans fv.a, (a11.b.trans b11.b).trans fu.b⟩
  · show bd_X3_readItem_50 (k + 4) ⟨K, hK⟩ 1 (iter (bd_X3_readItem_50 (k + 4) ⟨K, hK⟩ 1) (k + 2)) (nI 0, nI 1, v1) = _
    rw [b3]
    show bd_X3_readItem_50 (k + 4) ⟨K, hK⟩ 1 (iter (bd_X3_readItem_50 (k + 4) ⟨K, hK⟩ 1) (k + 1)) (nI 0, nI 2, v2) = _
    rw [end_50 hK (by omega) (by decide), tl_p, h360, b6, c1, bnd_s, bnd_s]
  · rw [b4', bnd_s, if_pos one_ne, ck_t (by decide), ck_t (by decide), show (0 : Int32).toNatClampNeg = 0 from rfl, show (1 : Int32).toNatClampNeg = 1 from rfl, h500, b8, d1, bnd_s]
theorem it_flour {v u : Mem} {K m a k : Nat} {T : Nat → Int32} {S : Ld} (hn : 8 < k + 4) (hK : K < 8) (hm2 : m ≤ 160) (h : psP K m T S a v u) : itR K m T S a v u (iter (bd_X3_readItem_50 (k + 4) ⟨K, hK⟩ 1) (k + 4) (nI 3, 0, v)) (tlF (k + 4) u) := by
  unfold tlF
  rcases stage (w := 3) (i := 0) (lo := 0) (hi := nI 99999) hn hK hm2 h (by omega) (by decide) (by omega) (fun V v' hV hl' h36 _ => by
    rw [st_fl, h36]
    obtain ⟨g1, g2⟩ := win_hi (V := V) (H := 99999) hV (by omega)
    exact ⟨fun g => if_neg (g1 g), fun g => if_pos (g2 g)⟩) with ⟨e, v1, u1, a1, a2, a3⟩ | ⟨p, e, v1, u1, a0, a1, a2, a3, a4, a5, a6, a7, a8, a9, a10, a11⟩
  · left
    have a2' : f_X6_number (k + 4) 0 0 99999 u = some (0, u1) := a2
    exact ⟨e, v1, u1, a1 _, by rw [a2', bnd_s, if_neg z_nn], a3⟩
  right
  have a4' : f_X6_number (k + 4) 0 0 99999 u = some (1, u1) := a4
  have c := a5.1.setF (f := p)
  have d := a5.2.1.setF (f := p)
  have fv : Fr v1 (uI v1 (oLd 1) 4 (nI p)) [2, 5, 8, 11] := c.2.mono (by decide)
  have fu : frU u1 (uI u1 39 7 (nI p)) := frU.i39 u1 _ (by decide)
  refine ⟨setF S p, e, uI v1 (oLd 1) 4 (nI p), uI u1 39 7 (nI p), ?_, ?_, a5.land hK c.1 d.1 (a5.2.2.1.setF a1) fv fu, a2, Nat.le_refl _, a10.a.trans fv.a, a11.b.trans fu.b⟩
  · show bd_X3_readItem_50 (k + 4) ⟨K, hK⟩ 1 (iter (bd_X3_readItem_50 (k + 4) ⟨K, hK⟩ 1) (k + 3)) (nI 3, nI 0, v) = _
    rw [a3]
    show bd_X3_readItem_50 (k + 4) ⟨K, hK⟩ 1 (iter (bd_X3_readItem_50 (k + 4) ⟨K, hK⟩ 1) (k + 2)) (nI 3, nI 1, v1) = _
    rw [end_50 hK (by omega) (by decide), tl_f, a6, bnd_s]
  · rw [a4', bnd_s, if_pos one_ne, ck_t (by decide), show (0 : Int32).toNatClampNeg = 0 from rfl, a8, ltm_s]
theorem it_wind {v u : Mem} {K m a k : Nat} {T : Nat → Int32} {S : Ld} (hn : 8 < k + 4) (hK : K < 8) (hm2 : m ≤ 160) (h : psP K m T S a v u) : itR K m T S a v u (iter (bd_X3_readItem_50 (k + 4) ⟨K, hK⟩ 1) (k + 4) (nI 4, 0, v)) (tlW (k + 4) u) := by
  unfold tlW
  rcases stage (w := 4) (i := 0) (lo := 0) (hi := nI 9) hn hK hm2 h (by omega) (by decide) (by omega) (fun V v' hV hl' h36 _ => by
    rw [st_wi, h36]
    obtain ⟨g1, g2⟩ := win_hi (V := V) (H := 9) hV (by omega)
    exact ⟨fun g => if_neg (g1 g), fun g => if_pos (g2 g)⟩) with ⟨e, v1, u1, a1, a2, a3⟩ | ⟨p, e, v1, u1, a0, a1, a2, a3, a4, a5, a6, a7, a8, a9, a10, a11⟩
  · left
    have a2' : f_X6_number (k + 4) 0 0 9 u = some (0, u1) := a2
    exact ⟨e, v1, u1, a1 _, by rw [a2', bnd_s, if_neg z_nn], a3⟩
  right
  have hp := win_H a1 (by omega) rfl a0
  have a4' : f_X6_number (k + 4) 0 0 9 u = some (1, u1) := a4
  have c := a5.1.setD (f := p)
  have d := a5.2.1.setD (f := p)
  have fv : Fr v1 (uI v1 (oLd 1) 5 (nI p)) [2, 5, 8, 11] := c.2.mono (by decide)
  have fu : frU u1 (uI u1 39 8 (nI p)) := frU.i39 u1 _ (by decide)
  refine ⟨setD S p, e, uI v1 (oLd 1) 5 (nI p), uI u1 39 8 (nI p), ?_, ?_, a5.land hK c.1 d.1 (a5.2.2.1.setD hp) fv fu, a2, Nat.le_refl _, a10.a.trans fv.a, a11.b.trans fu.b⟩
  · show bd_X3_readItem_50 (k + 4) ⟨K, hK⟩ 1 (iter (bd_X3_readItem_50 (k + 4) ⟨K, hK⟩ 1) (k + 3)) (nI 4, nI 0, v) = _
    rw [a3]
    show bd_X3_readItem_50 (k + 4) ⟨K, hK⟩ 1 (iter (bd_X3_readItem_50 (k + 4) ⟨K, hK⟩ 1) (k + 2)) (nI 4, nI 1, v1) = _
    rw [end_50 hK (by omega) (by decide), tl_w, a6, bnd_s]
  · rw [a4', bnd_s, if_pos one_ne, ck_t (by decide), show (0 : Int32).toNatClampNeg = 0 from rfl, a8, ltm_s]
theorem it_mill {v u : Mem} {K m a k : Nat} {T : Nat → Int32} {S : Ld} (hn : 8 < k + 4) (hK : K < 8) (hm2 : m ≤ 160) (h : psP K m T S a v u) : itR K m T S a v u (iter (bd_X3_readItem_50 (k + 4) ⟨K, hK⟩ 1) (k + 4) (nI 2, 0, v)) (tlM (k + 4) u) := by
  unfold tlM
  rcases two_both (w := 2) (J := 1) hn hK hm2 h (.inr (.inl rfl)) (.inl ⟨rfl, rfl⟩) with ⟨e, v1, u1, a1, a2, a3⟩ | ⟨p, q, e, v1, u1, hp, hq, hpq, h0, hae, a1, a2, a3, a4, a5, a6, a7, a8, a9⟩
  · left
    exact ⟨e, v1, u1, a1 _, by rw [a2, bnd_s, if_neg z_nn], a3⟩
  right
  obtain ⟨v3, c1, c2, c3⟩ := grind_y (n := k + 4) a3.1 a3.2.2.1 hp hq hpq (by omega)
  obtain ⟨u3, d1, d2, d3, d4, d5⟩ := mgrind_y (n := k + 4) a3.2.1 a3.2.2.1 hp hq (by omega)
  have fv : Fr v1 v3 [2, 5, 8, 11] := c3.mono (by decide)
  have fu : frU u1 u3 := frU.of d3 d4 d5
  refine ⟨_, e, v3, u3, ?_, ?_, a3.land hK c2 d2 (mill_ok a3.2.2.1 hp hq hpq) fv fu, hae, Nat.le_refl _, a8.a.trans fv.a, a9.b.trans fu.b⟩
  · have : iter (bd_X3_readItem_50 (k + 4) ⟨K, hK⟩ 1) (k + 4) (nI 2, 0, v) = iter (bd_X3_readItem_50 (k + 4) ⟨K, hK⟩ 1) (k + 2) (nI 2, nI 2, v1) := a1 (k + 2)
    rw [this]
    show bd_X3_readItem_50 (k + 4) ⟨K, hK⟩ 1 (iter (bd_X3_readItem_50 (k + 4) ⟨K, hK⟩ 1) (k + 1)) (nI 2, nI 2, v1) = _
    rw [end_50 hK (by omega) (by decide), tl_m, a4, a5, c1, bnd_s, bnd_s]
  · rw [a2, bnd_s, if_pos one_ne, ck_t (by decide), ck_t (by decide), show (0 : Int32).toNatClampNeg = 0 from rfl, show (1 : Int32).toNatClampNeg = 1 from rfl, a6, a7, d1, bnd_s]
theorem it_road {v u : Mem} {K m a k : Nat} {T : Nat → Int32} {S : Ld} (hn : 8 < k + 4) (hK : K < 8) (hm2 : m ≤ 160) (h : psP K m T S a v u) : itR K m T S a v u (iter (bd_X3_readItem_50 (k + 4) ⟨K, hK⟩ 1) (k + 4) (nI 1, 0, v)) (tlR (k + 4) u) := by
  unfold tlR
  rcases two_both (w := 1) (J := 0) hn hK hm2 h (.inl rfl) (.inr ⟨rfl, by decide⟩) with ⟨e, v1, u1, a1, a2, a3⟩ | ⟨p, q, e, v1, u1, hp, hq, hpq, h0, hae, a1, a2, a3, a4, a5, a6, a7, a8, a9⟩
  · left
    exact ⟨e, v1, u1, a1 _, by rw [a2, bnd_s, if_pos rfl], a3⟩
  have C1 : iter (bd_X3_readItem_50 (k + 4) ⟨K, hK⟩ 1) (k + 4) (nI 1, 0, v) = iter (bd_X3_readItem_50 (k + 4) ⟨K, hK⟩ 1) (k + 2) (nI 1, nI 2, v1) := a1 (k + 2)
  rw [C1, a2, bnd_s, if_neg one_ne]
  rcases stage (w := 1) (i := 2) (lo := 1) (hi := 999) hn hK hm2 a3 (by omega) (by decide) (by omega) (fun V v' hV hl' h36 _ => by
    rw [st_2r, h36]
    unfold f_X6_within
    by_cases g1 : nI V < 1
    · rw [if_pos g1, if_pos g1]
      exact ⟨fun g => absurd (Option.some.inj g) (by decide), fun _ => rfl⟩
    · rw [if_neg g1, if_neg g1]
      by_cases g2 : 999 < nI V
      · rw [if_pos g2, if_pos g2]
        exact ⟨fun g => absurd (Option.some.inj g) (by decide), fun _ => rfl⟩
      · rw [if_neg g2, if_neg g2]
        exact ⟨fun _ => rfl, fun g => absurd (Option.some.inj g) (by decide)⟩) with ⟨e2, v2, u2, b1, b2, b3⟩ | ⟨V, e2, v2, u2, b0, b1, b2, b3, b4, b5, b6, b7, b8, b9, b10, b11⟩
  · left
    have b2' : f_X6_number (k + 4) 2 1 999 u1 = some (0, u2) := b2
    exact ⟨e2, v2, u2, b1 _, by rw [b2', bnd_s, if_neg z_nn], b3.1, b3.2.1, b3.2.2.1, a8.a.trans b3.2.2.2.1, a9.b.trans b3.2.2.2.2⟩
  right
  have hV : V ≤ 999 := by
    apply Classical.byContradiction
    intro g
    rw [win_n (.inr (show (999 : Int32) < nI V by rw [show (999 : Int32) = nI 999 from rfl, nI_lt' (by omega) (by omega)]; omega))] at b0
    exact absurd (Option.some.inj b0) (by decide)
  have b4' : f_X6_number (k + 4) 2 1 999 u1 = some (1, u2) := b4
  obtain ⟨v3, c1, c2, c3⟩ := lay_y (n := V) b5.1 b5.2.2.1.1 hp hq hpq
  obtain ⟨u3, d1, d2, d3⟩ := mlay_y (p := p) (q := q) (n := V) b5.2.1 (by have := b5.2.2.1.1; omega) (by have := b5.2.2.1.1; omega)
  have fv : Fr v2 v3 [2, 5, 8, 11] := c3.mono (by decide)
  have fu : frU u2 u3 := frU.fr d3
  refine ⟨setW S p q V, e2, v3, u3, ?_, ?_, b5.land hK c2 d2 (b5.2.2.1.setW hp hq hpq hV) fv fu, by omega, Nat.le_refl _, (a8.a.trans b10.a).trans fv.a, (a9.b.trans b11.b).trans fu.b⟩
  · show bd_X3_readItem_50 (k + 4) ⟨K, hK⟩ 1 (iter (bd_X3_readItem_50 (k + 4) ⟨K, hK⟩ 1) (k + 1)) (nI 1, nI 2, v1) = _
    rw [b3]
    show bd_X3_readItem_50 (k + 4) ⟨K, hK⟩ 1 (iter (bd_X3_readItem_50 (k + 4) ⟨K, hK⟩ 1) k) (nI 1, nI 3, v2) = _
    rw [end_50 hK (by omega) (by decide), tl_r, (b7 0 (by decide)).trans a4, (b7 1 (by decide)).trans a5, b6, c1, bnd_s, bnd_s]
  · rw [b4', bnd_s, if_pos one_ne, ck_t (by decide), ck_t (by decide), ck_t (by decide), show (0 : Int32).toNatClampNeg = 0 from rfl, show (1 : Int32).toNatClampNeg = 1 from rfl, show (2 : Int32).toNatClampNeg = 2 from rfl, (b9 0 (by decide)).trans a6, (b9 1 (by decide)).trans a7, b8, d1, bnd_s]
theorem neg_i {V : Nat} (h : V ≤ 99999) : (-nI V).toInt = -(V : Int) := by
  rw [Int32.toInt_neg, nI_toInt (by omega)]
  rw [Int.bmod_eq_of_le] <;> omega
theorem it_pinch {v u : Mem} {K m a k w : Nat} {T : Nat → Int32} {S : Ld} {v0 : Int32} (hn : 8 < k + 4) (hK : K < 8) (hm2 : m ≤ 160) (h : psP K m T S a v u) (hw : (w = 5 ∧ v0 = 1) ∨ (w = 6 ∧ v0 = 0)) : itR K m T S a v u (iter (bd_X3_readItem_50 (k + 4) ⟨K, hK⟩ 1) (k + 4) (nI w, 0, v)) (tlN (k + 4) v0 u) := by
  unfold tlN
  have hw4 : two4 w := by unfold two4; omega
  rcases two_both (w := w) (J := 0) hn hK hm2 h hw4 (.inr ⟨rfl, by omega⟩) with ⟨e, v1, u1, a1, a2, a3⟩ | ⟨p, q, e, v1, u1, hp, hq, hpq, h0, hae, a1, a2, a3, a4, a5, a6, a7, a8, a9⟩
  · left
    exact ⟨e, v1, u1, a1 _, by rw [a2, bnd_s, if_neg z_nn], a3⟩
  have C1 : iter (bd_X3_readItem_50 (k + 4) ⟨K, hK⟩ 1) (k + 4) (nI w, 0, v) = iter (bd_X3_readItem_50 (k + 4) ⟨K, hK⟩ 1) (k + 2) (nI w, nI 2, v1) := a1 (k + 2)
  rw [C1, a2, bnd_s, if_pos one_ne]
  obtain ⟨bl, bm, ok, bv, bu, b35, bem⟩ := id a3
  have hc := ok.1
  have hw7 : w < 7 := by omega
  have hnu : 2 < (nuF w).toNatClampNeg := by rcases hw with ⟨rfl, _⟩ | ⟨rfl, _⟩ <;> decide
  have hnu3 : nuF w ≤ nI 3 := by rcases hw with ⟨rfl, _⟩ | ⟨rfl, _⟩ <;> decide
  rcases num_both (i := 2) (n := k + 4) hn hK bv bu hm2 bem (by omega) with ⟨e2, v2, u2, c0, c1, c2, c3, c4, c5, c6⟩ | ⟨V, e2, v2, u2, c1, c2, c3, c4, c5, c6, c7, c8, c9, c10, c11, c12, c13, c14, c15⟩
  · left
    have c2' : f_X6_number (k + 4) 2 1 998 u1 = some (0, u2) := c2 1 998
    refine ⟨e2, v2, u2, ?_, by rw [c2', bnd_s, if_neg z_nn], c0, c4, c6, a8.a.trans c3.a, a9.b.trans c5.b⟩
    show bd_X3_readItem_50 (k + 4) ⟨K, hK⟩ 1 (iter (bd_X3_readItem_50 (k + 4) ⟨K, hK⟩ 1) (k + 1)) (nI w, nI 2, v1) = _
    rw [step_50 hK hw7 hnu (by omega), c1, bnd_s, if_neg z_nn]
  have hl2 := bl.c c5
  have hm2' := bm.q c11
  have h360 : v2.1 36 0 = nI p := (c10 0 (by decide)).trans a4
  have h361 : v2.1 36 1 = nI q := (c10 1 (by decide)).trans a5
  have h500 : u2.1 50 0 = nI p := (c14 0 (by decide)).trans a6
  have h501 : u2.1 50 1 = nI q := (c14 1 (by decide)).trans a7
  have z0 : (0 : Int32).toNatClampNeg = 0 := rfl
  have z1 : (1 : Int32).toNatClampNeg = 1 := rfl
  have z2 : (2 : Int32).toNatClampNeg = 2 := rfl
  -- the pinch's miles
  obtain ⟨x, hx1, hx2⟩ : ∃ x : Int32, x = (if w = 5 then -nI V else nI V) ∧ (x.toInt = (V : Int) ∨ x.toInt = -(V : Int)) := by
    refine ⟨_, rfl, ?_⟩
    by_cases e5 : w = 5
    · rw [if_pos e5, neg_i c1]; exact .inr rfl
    · rw [if_neg e5, nI_toInt (by omega)]; exact .inl rfl
  have S2 : f_X3_stands (nI w) (nI 2) 1 v2 = bnd (f_X1_mayPinch 1 (nI p) (nI q) x v2) fun r t => ck (isB r) <| some (r, t) := by
    rcases hw with ⟨rfl, _⟩ | ⟨rfl, _⟩
    · rw [st_2n, h360, h361, c9, hx1, if_pos rfl]
    · rw [st_2f, h360, h361, c9, hx1, if_neg (by decide)]
  have T2 : f_X3_tell (k + 4) (nI w) 1 v2 = bnd (f_X1_pinch 1 (nI p) (nI q) x v2) fun _ t5 => some ((), t5) := by
    rcases hw with ⟨rfl, _⟩ | ⟨rfl, _⟩
    · rw [tl_n, h360, h361, c9, hx1, if_pos rfl]
    · rw [tl_a, h360, h361, c9, hx1, if_neg (by decide)]
  have C2 : iter (bd_X3_readItem_50 (k + 4) ⟨K, hK⟩ 1) (k + 2) (nI w, nI 2, v1) = bnd (f_X3_stands (nI w) (nI 2) 1 v2) fun r16 t17 => if ¬ r16 = 0 then iter (bd_X3_readItem_50 (k + 4) ⟨K, hK⟩ 1) (k + 1) (nI w, nI 3, t17) else lt (uI t17 35 0 (t17.1 35 3)) fun t19 => some (0, t19) := by
    show bd_X3_readItem_50 (k + 4) ⟨K, hK⟩ 1 (iter (bd_X3_readItem_50 (k + 4) ⟨K, hK⟩ 1) (k + 1)) (nI w, nI 2, v1) = _
    rw [step_50 hK hw7 hnu (by omega), c4, bnd_s, if_pos one_ne]
  have bad : ¬ mayS S p q x.toInt → iter (bd_X3_readItem_50 (k + 4) ⟨K, hK⟩ 1) (k + 2) (nI w, nI 2, v1) = some (0, uI v2 35 0 (nI (e + 1))) := by
    intro g
    rw [C2, S2, (may_y hl2 ok hp hq).2 g, bnd_s, ck_t (by decide), bnd_s, if_neg z_nn, ltm_s, c8]
  have flr : flP v u (uI v2 35 0 (nI (e + 1))) (uI u2 39 18 (nI (e + 1))) (e + 1) := ⟨by omega, by rw [uI_same, upd_same], by rw [uI_same, upd_same], (a8.a.trans c5.a).trans (frC.up v2 _ (by decide)).a, (a9.b.trans c11.b).trans (atR.up u2 _).q.b⟩
  rcases win_or (nI V) 1 998 with g | g
  · have M1 : f_X6_number (k + 4) 2 1 998 u1 = some (1, u2) := (c15 1 998).1 g
    have hV : 1 ≤ V ∧ V ≤ 998 := by
      constructor
      · apply Classical.byContradiction
        intro g2
        rw [win_n (.inl (show nI V < (1 : Int32) by rw [show (1 : Int32) = nI 1 from rfl, nI_lt' (by omega) (by omega)]; omega))] at g
        exact absurd (Option.some.inj g) (by decide)
      · apply Classical.byContradiction
        intro g2
        rw [win_n (.inr (show (998 : Int32) < nI V by rw [show (998 : Int32) = nI 998 from rfl, nI_lt' (by omega) (by omega)]; omega))] at g
        exact absurd (Option.some.inj g) (by decide)
    have M2 : (bnd (f_X6_number (k + 4) 2 1 998 u1) fun r102 t103 => if ¬ r102 = 0 then (if v0 = 0 then (ck (inb 2 3) <| jn_X6_item_389 (k + 4) ((u1.1 39 18) + 1) (t103.1 50 (2 : Int32).toNatClampNeg) t103) else ck (inb 2 3) <| jn_X6_item_389 (k + 4) ((u1.1 39 18) + 1) (-(t103.1 50 (2 : Int32).toNatClampNeg)) t103) else some (0, t103)) = jn_X6_item_389 (k + 4) (nI (e + 1)) x u2 := by
      rw [M1, bnd_s, if_pos one_ne, bu.2.2.2, nI_s, z2, c13, hx1]
      rcases hw with ⟨rfl, rfl⟩ | ⟨rfl, rfl⟩
      · rw [if_neg one_ne, if_pos rfl, ck_t (by decide)]
      · rw [if_pos rfl, if_neg (by decide), ck_t (by decide)]
    rw [M2]
    unfold jn_X6_item_389
    rw [ck_t (by decide), ck_t (by decide), z0, z1, h500, h501]
    by_cases gm : mayS S p q x.toInt
    · right
      obtain ⟨v3, d1, d2, d3⟩ := pinch_y hl2 ok hp hq gm
      obtain ⟨u3, f1, f2, f3, f4, f5⟩ := mpinch_y hm2' ok hp hq gm
      have fv : Fr v2 v3 [2, 5, 8, 11] := d3.mono (by decide)
      have fu : frU u2 u3 := frU.of f3 f4 f5
      have ps2 : psP K m T S e2 v2 u2 := ⟨hl2, hm2', ok, c6, c12, c7.trans b35, c3⟩
      refine ⟨_, e2, v3, u3, ?_, ?_, ps2.land hK d2 f2 (pinch_ok ok hp hq gm) fv fu, by omega, Nat.le_refl _, (a8.a.trans c5.a).trans fv.a, (a9.b.trans c11.b).trans fu.b⟩
      · rw [C2, S2, (may_y hl2 ok hp hq).1 gm, bnd_s, ck_t (by decide), bnd_s, if_pos one_ne]
        show bd_X3_readItem_50 (k + 4) ⟨K, hK⟩ 1 (iter (bd_X3_readItem_50 (k + 4) ⟨K, hK⟩ 1) k) (nI w, nI 3, v2) = _
        rw [end_50 hK hw7 hnu3, T2, d1, bnd_s, bnd_s]
      · rw [(mmay_y hm2' ok hp hq).1 gm, bnd_s, if_pos one_ne, ck_t (by decide), ck_t (by decide), h500, h501, f1, bnd_s]
    · left
      refine ⟨e + 1, _, _, bad gm, ?_, flr⟩
      rw [(mmay_y hm2' ok hp hq).2 gm, bnd_s, if_neg z_nn, ltm_s]
  · left
    have M1 : f_X6_number (k + 4) 2 1 998 u1 = some (0, uI u2 39 18 (nI (e + 1))) := (c15 1 998).2 g
    refine ⟨e + 1, _, _, bad (fun gm => ?_), by rw [M1, bnd_s, if_neg z_nn], flr⟩
    have g2 : ¬ (1 ≤ V ∧ V ≤ 998) := by
      rintro ⟨g3, g4⟩
      rw [win_y (show ¬ nI V < (1 : Int32) by rw [show (1 : Int32) = nI 1 from rfl, nI_lt' (by omega) (by omega)]; omega) (show ¬ (998 : Int32) < nI V by rw [show (998 : Int32) = nI 998 from rfl, nI_lt' (by omega) (by omega)]; omega)] at g
      exact absurd (Option.some.inj g) (by decide)
    have := gm.2.1
    have := gm.2.2.1
    have := gm.2.2.2.1
    omega
