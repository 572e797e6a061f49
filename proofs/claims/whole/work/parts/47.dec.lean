/-! layer 2: a road that becomes shorter -/
def besN (D : Nat → Nat → Nat) (x y p q : Nat) : Nat := min (D x p + D q y) (D x q + D p y)
theorem wS_set {S : Ld} {p q w : Nat} (hpq : ¬ p = q) (hw : ¬ w = 0) (i j : Nat) : wS (setW S p q w) i j = if (i = p ∧ j = q) ∨ (i = q ∧ j = p) then w else wS S i j := by
  unfold wS
  show (if i = j then 0 else if (if (i = p ∧ j = q) ∨ (i = q ∧ j = p) then w else Sw S i j) = 0 then 10000 else if (i = p ∧ j = q) ∨ (i = q ∧ j = p) then w else Sw S i j) = _
  by_cases hc : (i = p ∧ j = q) ∨ (i = q ∧ j = p)
  · rw [if_pos hc, if_pos hc, if_neg (by omega), if_neg hw]
  · rw [if_neg hc, if_neg hc]
theorem dec_tri {dab dar drb dap drp dqb daq drq dpb dqr dpr w : Nat} (h1 : dab ≤ dar + drb) (h2 : dap ≤ dar + drp) (h3 : daq ≤ dar + drq) (h4 : dqb ≤ dqr + drb) (h5 : dpb ≤ dpr + drb) (h6 : dab ≤ dap + dpb) (h7 : dab ≤ daq + dqb) : min dab (w + min (dap + dqb) (daq + dpb)) ≤ min dar (w + min (dap + dqr) (daq + dpr)) + min drb (w + min (drp + dqb) (drq + dpb)) := by
  have e1 : min dab (w + min (dap + dqb) (daq + dpb)) ≤ dab := Nat.min_le_left _ _
  have e2 : min dab (w + min (dap + dqb) (daq + dpb)) ≤ w + (dap + dqb) := by omega
  have e3 : min dab (w + min (dap + dqb) (daq + dpb)) ≤ w + (daq + dpb) := by omega
  generalize min dab (w + min (dap + dqb) (daq + dpb)) = X at *
  rcases Nat.le_total dar (w + min (dap + dqr) (daq + dpr)) with g | g
  · rw [Nat.min_eq_left g]
    omega
  · rw [Nat.min_eq_right g]
    omega
theorem dec_y {S : Ld} {p q w : Nat} (h : okW S) (hp : p < Sc S) (hq : q < Sc S) (hpq : ¬ p = q) (hw : 1 ≤ w) (hw2 : w ≤ wS S p q) (hw3 : w ≤ 9999) {i j : Nat} (hi : i < Sc S) (hj : j < Sc S) : dS (setW S p q w) i j = min (dS S i j) (w + besN (dS S) i j p q) := by
  have hk := wS_set (S := S) hpq (show ¬ w = 0 by omega)
  have hs := wS_sym h p q
  have le1 : ∀ a b, a < Sc S → b < Sc S → dS (setW S p q w) a b ≤ dS S a b := by
    intro a b ha hb
    refine dS_max (S := S) (X := dS (setW S p q w)) (fun a b _ _ => ?_) (fun a b r _ _ hr => dS_tri (setW S p q w) hr a b) ha hb
    have g := dS_w (setW S p q w) a b
    rw [hk] at g
    split at g
    · rename_i e
      rcases e with ⟨rfl, rfl⟩ | ⟨rfl, rfl⟩ <;> omega
    · exact g
  have hpq' : dS (setW S p q w) p q ≤ w := by
    have g := dS_w (setW S p q w) p q
    rw [hk, if_pos (.inl ⟨rfl, rfl⟩)] at g
    exact g
  have hqp' : dS (setW S p q w) q p ≤ w := by
    have g := dS_w (setW S p q w) q p
    rw [hk, if_pos (.inr ⟨rfl, rfl⟩)] at g
    exact g
  refine Nat.le_antisymm ?_ ?_
  · have t1 := dS_tri (setW S p q w) (r := p) hp i j
    have t2 := dS_tri (setW S p q w) (r := q) hq p j
    have t3 := dS_tri (setW S p q w) (r := q) hq i j
    have t4 := dS_tri (setW S p q w) (r := p) hp q j
    have a1 := le1 i j hi hj
    have a2 := le1 i p hi hp
    have a3 := le1 q j hq hj
    have a4 := le1 i q hi hq
    have a5 := le1 p j hp hj
    unfold besN
    omega
  · refine dS_max (S := setW S p q w) (X := fun a b => min (dS S a b) (w + besN (dS S) a b p q)) (fun a b ha hb => ?_) (fun a b r ha hb hr => ?_) hi hj
    · show min (dS S a b) (w + besN (dS S) a b p q) ≤ _
      rw [hk]
      split
      · rename_i e
        have z1 := dS_0 S p
        have z2 := dS_0 S q
        unfold besN
        rcases e with ⟨rfl, rfl⟩ | ⟨rfl, rfl⟩ <;> omega
      · have g := dS_w S a b
        omega
    · show min (dS S a b) (w + besN (dS S) a b p q) ≤ min (dS S a r) (w + besN (dS S) a r p q) + min (dS S r b) (w + besN (dS S) r b p q)
      unfold besN
      exact dec_tri (dS_tri S hr a b) (dS_tri S hr a p) (dS_tri S hr a q) (dS_tri S hr q b) (dS_tri S hr p b) (dS_tri S hp a b) (dS_tri S hq a b)
/-- by a road of m miles that is there: with and without it -/
theorem road_y {S : Ld} {p q : Nat} (h : okW S) (hp : p < Sc S) (hq : q < Sc S) (hpq : ¬ p = q) (h0 : ¬ Sw S p q = 0) {i j : Nat} (hi : i < Sc S) (hj : j < Sc S) : dS S i j = min (dS (setW S p q 0) i j) (Sw S p q + besN (dS (setW S p q 0)) i j p q) := by
  have hb := h.2.2 p q
  have hw : wS (setW S p q 0) p q = 10000 := by rw [wS_without S hpq, if_pos (.inl ⟨rfl, rfl⟩)]
  have g := dec_y (S := setW S p q 0) (w := Sw S p q) (h.setW (by omega)) hp hq hpq (by omega) (by omega) hb hi hj
  rw [setW_back (h.2.1 p q)] at g
  exact g
/-- where two are farther than d, a pinch that helps is told as well by what is with the road -/
theorem cheap_iff {S : Ld} {p q x y n d : Nat} (h : okW S) (hp : p < Sc S) (hq : q < Sc S) (hpq : ¬ p = q) (h0 : ¬ Sw S p q = 0) (hx : x < Sc S) (hy : y < Sc S) (hd : d < dS S x y) (hn1 : 1 ≤ n) (hn : n < Sw S p q) : besN (dS (setW S p q 0)) x y p q + Sw S p q - n ≤ d ↔ besN (dS S) x y p q + Sw S p q - n ≤ d := by
  have r1 := road_y h hp hq hpq h0 hx hp
  have r2 := road_y h hp hq hpq h0 hq hy
  have r3 := road_y h hp hq hpq h0 hx hq
  have r4 := road_y h hp hq hpq h0 hp hy
  have z1 := dS_0 (setW S p q 0) p
  have z2 := dS_0 (setW S p q 0) q
  have t1 := dS_tri S hq x y
  have t2 := dS_tri S hp x y
  unfold besN at r1 r2 r3 r4 ⊢
  generalize dS S x y = dxy at *
  generalize dS S x p = dxp at *
  generalize dS S x q = dxq at *
  generalize dS S q y = dqy at *
  generalize dS S p y = dpy at *
  generalize dS (setW S p q 0) x p = exp at *
  generalize dS (setW S p q 0) x q = exq at *
  generalize dS (setW S p q 0) q y = eqy at *
  generalize dS (setW S p q 0) p y = epy at *
  generalize dS (setW S p q 0) p p = epp at *
  generalize dS (setW S p q 0) q q = eqq at *
  generalize dS (setW S p q 0) p q = epq at *
  generalize dS (setW S p q 0) q p = eqp at *
  generalize Sw S p q = m at *
  omega
theorem bes_ge {S : Ld} {p q x y : Nat} (h : okW S) (hp : p < Sc S) (hq : q < Sc S) (hpq : ¬ p = q) (h0 : ¬ Sw S p q = 0) : dS S x y ≤ Sw S p q + besN (dS S) x y p q := by
  have w1 := dS_w S p q
  rw [wS_road hpq h0] at w1
  have w2 := dS_sym h p q
  have t1 := dS_tri S hp x y
  have t2 := dS_tri S hq p y
  have t3 := dS_tri S hq x y
  have t4 := dS_tri S hp q y
  unfold besN
  omega
theorem asksN_mono {k m a b : Nat} (h : a ≤ b) : asksN k m a ≤ asksN k m b := by
  unfold asksN
  split; omega
  split; omega
  split; omega
  split; omega
  split; omega
  split <;> omega
theorem costN_mono {S : Ld} {p q a b : Nat} (h : a ≤ b) : costN S p q a ≤ costN S p q b := by
  have h1 := asksN_mono (k := Sk S p) (m := Sm S p) h
  have h2 := asksN_mono (k := Sk S q) (m := Sm S q) h
  unfold costN
  omega
theorem bes_y {t : Mem} {J : Fin 2} {c x y p q : Nat} {D : Nat → Nat → Nat} (h : isLn t J c D) (hc : c ≤ 8) (hD : ∀ i j, D i j ≤ 10000) (hx : x < c) (hy : y < c) (hp : p < c) (hq : q < c) : f_X2_lengthBeside J (nI x) (nI y) (nI p) (nI q) t = some (nI (besN D x y p q), t) := by
  have d1 := hD x p
  have d2 := hD q y
  have d3 := hD x q
  have d4 := hD p y
  unfold f_X2_lengthBeside
  rw [len_y h hc hx hp, bnd_s, len_y h hc hq hy, bnd_s, len_y h hc hx hq, bnd_s, len_y h hc hp hy, bnd_s, nI_add, nI_add, min_nI (by omega) (by omega), bnp_s]
  rfl
theorem bes_le {D : Nat → Nat → Nat} (hD : ∀ i j, D i j ≤ 10000) (x y p q : Nat) : besN D x y p q ≤ 20000 := by
  have d1 := hD x p
  have d2 := hD q y
  unfold besN
  omega
theorem relay_y {u : Mem} {S : Ld} {p q x n : Nat} (hn : 8 < n) (hm : isMd u S) (hW : okW S) (hp : p < Sc S) (hq : q < Sc S) (hx : x ≤ 9999) : ∃ u3 u4, f_X6_lay (nI p) (nI q) (nI x) u = some (nI (Sw S p q), u3) ∧ f_X6_walk n u3 = some ((), u4) ∧ isMd u4 (setW S p q x) ∧ isFar u4 (Sc S) (dS (setW S p q x)) ∧ Fr u u4 [45, 51] := by
  have hc := hW.1
  obtain ⟨u3, b1, b2, b3⟩ := mlay_y (p := p) (q := q) (n := x) hm (by omega) (by omega)
  obtain ⟨u4, c1, c2, c3⟩ := walk_y (n := n) hn b2 (hW.setW hx)
  exact ⟨u3, u4, b1, c1, b2.fr c2 (by decide) (by decide) (by decide) (by decide), c3, (b3.mono (by decide)).trans (c2.mono (by decide))⟩
