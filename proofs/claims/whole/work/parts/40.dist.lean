/-! layer 2: distances, as numbers -/
def fwN (W : Nat → Nat → Nat) : Nat → Nat → Nat → Nat
  | 0 => W
  | r + 1 => fun p q => min (fwN W r p q) (fwN W r p r + fwN W r r q)
theorem fw_s (W : Nat → Nat → Nat) (r p q : Nat) : fwN W (r + 1) p q = min (fwN W r p q) (fwN W r p r + fwN W r r q) := rfl
theorem fw_le (W : Nat → Nat → Nat) (r p q : Nat) : fwN W (r + 1) p q ≤ fwN W r p q := Nat.min_le_left _ _
theorem fw_W (W : Nat → Nat → Nat) (p q : Nat) : ∀ r, fwN W r p q ≤ W p q
  | 0 => Nat.le_refl _
  | r + 1 => Nat.le_trans (fw_le W r p q) (fw_W W p q r)
theorem fw_row (W : Nat → Nat → Nat) (r q : Nat) : fwN W (r + 1) r q = fwN W r r q := by
  rw [fw_s]; exact Nat.min_eq_left (Nat.le_add_left _ _)
theorem fw_col (W : Nat → Nat → Nat) (r p : Nat) : fwN W (r + 1) p r = fwN W r p r := by
  rw [fw_s]; exact Nat.min_eq_left (Nat.le_add_right _ _)
theorem fw_0 {W : Nat → Nat → Nat} (h : ∀ p, W p p = 0) (r p : Nat) : fwN W r p p = 0 := by
  have := fw_W W p p r
  rw [h p] at this
  omega
theorem fw_sym {W : Nat → Nat → Nat} (h : ∀ p q, W p q = W q p) : ∀ r p q, fwN W r p q = fwN W r q p
  | 0, p, q => h p q
  | r + 1, p, q => by
    rw [fw_s, fw_s, fw_sym h r p q, fw_sym h r p r, fw_sym h r r q, Nat.add_comm]
theorem fw_tri (W : Nat → Nat → Nat) : ∀ k r, r < k → ∀ p q, fwN W k p q ≤ fwN W k p r + fwN W k r q
  | 0, r, h, p, q => absurd h (Nat.not_lt_zero r)
  | k + 1, r, h, p, q => by
    by_cases e : r = k
    · subst e
      rw [fw_col, fw_row, fw_s]
      exact Nat.min_le_right _ _
    · have t1 := fw_tri W k r (by omega)
      have a1 := t1 p q
      have a2 := t1 k q
      have a3 := t1 p k
      rw [fw_s, fw_s, fw_s]
      omega
theorem fw_max {X W : Nat → Nat → Nat} {c : Nat} (hW : ∀ p q, p < c → q < c → X p q ≤ W p q) (ht : ∀ p q r, p < c → q < c → r < c → X p q ≤ X p r + X r q) : ∀ k, k ≤ c → ∀ p q, p < c → q < c → X p q ≤ fwN W k p q
  | 0, _, p, q, hp, hq => hW p q hp hq
  | k + 1, hk, p, q, hp, hq => by
    have a1 := fw_max hW ht k (by omega) p q hp hq
    have a2 := fw_max hW ht k (by omega) p k hp (by omega)
    have a3 := fw_max hW ht k (by omega) k q (by omega) hq
    have a4 := ht p q k hp hq (by omega)
    rw [fw_s]
    omega
theorem fw_next {W : Nat → Nat → Nat} {c : Nat} (h0 : ∀ p, W p p = 0) : ∀ k, k ≤ c → ∀ p q, ¬ p = q → q < c → ∃ r, r < c ∧ ¬ r = p ∧ W p r + fwN W k r q ≤ fwN W k p q
  | 0, _, p, q, hpq, hq => ⟨q, hq, fun e => hpq e.symm, by show W p q + W q q ≤ W p q; rw [h0 q]; omega⟩
  | k + 1, hk, p, q, hpq, hq => by
    by_cases e : fwN W k p q ≤ fwN W k p k + fwN W k k q
    · obtain ⟨r, r1, r2, r3⟩ := fw_next h0 k (by omega) p q hpq hq
      refine ⟨r, r1, r2, ?_⟩
      have := fw_le W k r q
      rw [fw_s W k p q]
      omega
    · have hpk : ¬ p = k := by
        intro e2
        subst e2
        omega
      obtain ⟨r, r1, r2, r3⟩ := fw_next (c := c) h0 k (by omega) p k hpk (by omega)
      refine ⟨r, r1, r2, ?_⟩
      rw [fw_s W k p q, fw_s W k r q]
      omega
theorem fw_congr {W V : Nat → Nat → Nat} {c : Nat} (h : ∀ p q, p < c → q < c → W p q = V p q) : ∀ k, k ≤ c → ∀ p q, p < c → q < c → fwN W k p q = fwN V k p q
  | 0, _, p, q, hp, hq => h p q hp hq
  | k + 1, hk, p, q, hp, hq => by
    rw [fw_s, fw_s, fw_congr h k (by omega) p q hp hq, fw_congr h k (by omega) p k hp (by omega), fw_congr h k (by omega) k q (by omega) hq]
/-- the roads of a land as lengths -/
def wS (S : Ld) (p q : Nat) : Nat := if p = q then 0 else if Sw S p q = 0 then 10000 else Sw S p q
def dS (S : Ld) : Nat → Nat → Nat := fwN (wS S) (Sc S)
/-- what the maths of distances wants of a land -/
def okW (S : Ld) : Prop := Sc S ≤ 8 ∧ (∀ p q, Sw S p q = Sw S q p) ∧ ∀ p q, Sw S p q ≤ 9999
theorem okLd.w {S : Ld} (h : okLd S) : okW S := ⟨h.1, h.2.2.2.2.2.2.1, fun p q => by have := h.2.2.2.2.2.1 p q; omega⟩
theorem wS_0 (S : Ld) (p : Nat) : wS S p p = 0 := if_pos rfl
theorem wS_sym {S : Ld} (h : okW S) (p q : Nat) : wS S p q = wS S q p := by
  unfold wS
  rw [h.2.1 p q]
  by_cases e : p = q
  · rw [if_pos e, if_pos e.symm]
  · rw [if_neg e, if_neg (show ¬ q = p from fun g => e g.symm)]
theorem wS_le {S : Ld} (h : okW S) (p q : Nat) : wS S p q ≤ 10000 := by
  have := h.2.2 p q
  unfold wS
  repeat' split
  all_goals omega
theorem wS_road {S : Ld} {p q : Nat} (h1 : ¬ p = q) (h : ¬ Sw S p q = 0) : wS S p q = Sw S p q := by
  unfold wS
  rw [if_neg h1, if_neg h]
theorem dS_0 (S : Ld) (p : Nat) : dS S p p = 0 := fw_0 (wS_0 S) _ p
theorem dS_sym {S : Ld} (h : okW S) (p q : Nat) : dS S p q = dS S q p := fw_sym (wS_sym h) _ p q
theorem dS_w (S : Ld) (p q : Nat) : dS S p q ≤ wS S p q := fw_W _ p q _
theorem dS_le {S : Ld} (h : okW S) (p q : Nat) : dS S p q ≤ 10000 := Nat.le_trans (dS_w S p q) (wS_le h p q)
theorem dS_tri (S : Ld) {r : Nat} (hr : r < Sc S) (p q : Nat) : dS S p q ≤ dS S p r + dS S r q := fw_tri _ _ r hr p q
theorem dS_max {S : Ld} {X : Nat → Nat → Nat} (hW : ∀ p q, p < Sc S → q < Sc S → X p q ≤ wS S p q) (ht : ∀ p q r, p < Sc S → q < Sc S → r < Sc S → X p q ≤ X p r + X r q) {p q : Nat} (hp : p < Sc S) (hq : q < Sc S) : X p q ≤ dS S p q := fw_max hW ht _ (Nat.le_refl _) p q hp hq
theorem dS_next {S : Ld} (h : okW S) {p q : Nat} (hpq : ¬ p = q) (hq : q < Sc S) (hd : dS S p q < 10000) : ∃ r, r < Sc S ∧ ¬ Sw S p r = 0 ∧ Sw S p r + dS S r q = dS S p q := by
  obtain ⟨r, r1, r2, r3⟩ := fw_next (wS_0 S) (Sc S) (Nat.le_refl _) p q hpq hq
  have r4 : wS S p r + dS S r q ≤ dS S p q := r3
  have hw : ¬ Sw S p r = 0 := by
    intro e
    have : wS S p r = 10000 := by unfold wS; rw [if_neg (fun g => r2 g.symm), if_pos e]
    omega
  have hr := wS_road (S := S) (fun g => r2 g.symm) hw
  refine ⟨r, r1, hw, ?_⟩
  have t1 := dS_tri S r1 p q
  have t2 := dS_w S p r
  omega
/-! loops whose memory is only known by what holds of it -/
theorem iter_inv {S Rt : Type} {body : (S → Option Rt) → S → Option Rt} (c : Nat) (I : Nat → S → Prop) (P : Option Rt → Prop) (hstep : ∀ (self : S → Option Rt) (i : Nat) (s : S), i < c → I i s → (∃ s', body self s = self s' ∧ I (i + 1) s') ∨ P (body self s)) (hexit : ∀ (self : S → Option Rt) (s : S), I c s → P (body self s)) : ∀ (k i : Nat) (s : S), i ≤ c → c - i < k → I i s → P (iter body k s) := by
  intro k
  induction k with
  | zero => intro i s _ h; omega
  | succ k ih =>
    intro i s hi hk hI
    show P (body (iter body k) s)
    by_cases e : i = c
    · subst e; exact hexit _ s hI
    · rcases hstep (iter body k) i s (by omega) hI with ⟨s', h1, h2⟩ | h
      · rw [h1]; exact ih (i + 1) s' (by omega) (by omega) h2
      · exact h
theorem nle8 {c q : Nat} (hq : q < c) (hc : c ≤ 8) : ¬ nI c ≤ nI q := by
  rw [nI_le' (by omega) (by omega)]; omega
theorem le8 {c : Nat} : nI c ≤ nI c := Int32.le_refl _
/-! the reference's walk -/
def ln (p q i j : Nat) : Prop := i < p ∨ (i = p ∧ j < q)
def lnK (f : Nat → Int32) (c : Nat) (A : Nat → Nat → Nat) (p q : Nat) : Prop := ∀ i j, i < c → j < c → ln p q i j → f (8 * i + j) = nI (A i j)
def lnR (f : Nat → Int32) (c : Nat) (A' A : Nat → Nat → Nat) (p q : Nat) : Prop := lnK f c A' p q ∧ ∀ i j, i < c → j < c → ¬ ln p q i j → f (8 * i + j) = nI (A i j)
theorem lnK.up {f : Nat → Int32} {c : Nat} {A : Nat → Nat → Nat} {p q : Nat} {x : Int32} (h : lnK f c A p q) (hc : c ≤ 8) (hp : p < c) (hq : q < c) (hx : x = nI (A p q)) : lnK (upd f (8 * p + q) x) c A p (q + 1) := by
  intro i j hi hj g
  by_cases e : 8 * i + j = 8 * p + q
  · have e1 : i = p := by omega
    have e2 : j = q := by omega
    subst e1 e2
    rw [upd_same]; exact hx
  · rw [upd_ne _ e]
    refine h i j hi hj ?_
    unfold ln at g ⊢
    omega
theorem lnK.row {f : Nat → Int32} {c : Nat} {A : Nat → Nat → Nat} {p : Nat} (h : lnK f c A p c) : lnK f c A (p + 1) 0 := fun i j hi hj g => h i j hi hj (by unfold ln at g ⊢; omega)
theorem lnK.nil {f : Nat → Int32} {c : Nat} {A : Nat → Nat → Nat} : lnK f c A 0 0 := fun i j _ _ g => by unfold ln at g; omega
theorem lnK.all {f : Nat → Int32} {c : Nat} {A : Nat → Nat → Nat} (h : lnK f c A c 0) {i j : Nat} (hi : i < c) (hj : j < c) : f (8 * i + j) = nI (A i j) := h i j hi hj (.inl hi)
theorem lnR.up {f : Nat → Int32} {c : Nat} {A' A : Nat → Nat → Nat} {p q : Nat} {x : Int32} (h : lnR f c A' A p q) (hc : c ≤ 8) (hp : p < c) (hq : q < c) (hx : x = nI (A' p q)) : lnR (upd f (8 * p + q) x) c A' A p (q + 1) := by
  refine ⟨h.1.up hc hp hq hx, fun i j hi hj g => ?_⟩
  have e : ¬ 8 * i + j = 8 * p + q := by
    intro e
    have e1 : i = p := by omega
    have e2 : j = q := by omega
    subst e1 e2
    exact g (.inr ⟨rfl, by omega⟩)
  rw [upd_ne _ e]
  refine h.2 i j hi hj ?_
  unfold ln at g ⊢
  omega
theorem lnR.row {f : Nat → Int32} {c : Nat} {A' A : Nat → Nat → Nat} {p : Nat} (h : lnR f c A' A p c) : lnR f c A' A (p + 1) 0 := ⟨h.1.row, fun i j hi hj g => h.2 i j hi hj (by unfold ln at g ⊢; omega)⟩
theorem lnR.get {f : Nat → Int32} {c : Nat} {A' A : Nat → Nat → Nat} {p q i j : Nat} (h : lnR f c A' A p q) (hi : i < c) (hj : j < c) (e : A' i j = A i j) : f (8 * i + j) = nI (A i j) := by
  by_cases g : ln p q i j
  · rw [h.1 i j hi hj g, e]
  · exact h.2 i j hi hj g
theorem uI_same (t : Mem) (o k : Nat) (x : Int32) : (uI t o k x).1 o = upd (t.1 o) k x := by
  unfold uI
  rw [uA_same]
theorem Fr.uI (t : Mem) {o : Nat} (k : Nat) (x : Int32) {l : List Nat} (h : o ∈ l) : Fr t (uI t o k x) l := Fr.uA t _ h
/-- the far of the reference -/
def isFar (u : Mem) (c : Nat) (D : Nat → Nat → Nat) : Prop := ∀ p q, p < c → q < c → u.1 51 (8 * p + q) = nI (D p q)
def wk (u : Mem) (c : Nat) (A' A : Nat → Nat → Nat) (p q : Nat) (v : Mem) : Prop := Fr u v [51] ∧ lnR (v.1 51) c A' A p q
theorem walk_in {u u0 : Mem} {n r p : Nat} {S : Ld} (hn : 8 < n) (hm : isMd u S) (hc : Sc S ≤ 8) (hW : okW S) (hr : r < Sc S) (hp : p < Sc S) (self85 : Int32 × Mem → Option (Unit × Mem)) (self95 : Int32 × Int32 × Mem → Option (Unit × Mem)) (h : wk u (Sc S) (fwN (wS S) (r + 1)) (fwN (wS S) r) p 0 u0) : ∃ v, iter (bd_X6_walk_105 n self85 self95) n (nI r, nI p, 0, u0) = self95 (nI r, nI (p + 1), v) ∧ wk u (Sc S) (fwN (wS S) (r + 1)) (fwN (wS S) r) (p + 1) 0 v := by
  refine iter_inv (body := bd_X6_walk_105 n self85 self95) (Sc S) (fun q s => ∃ v, s = (nI r, nI p, nI q, v) ∧ wk u (Sc S) (fwN (wS S) (r + 1)) (fwN (wS S) r) p q v) (fun x => ∃ v, x = self95 (nI r, nI (p + 1), v) ∧ wk u (Sc S) (fwN (wS S) (r + 1)) (fwN (wS S) r) (p + 1) 0 v) ?_ ?_ n 0 _ (Nat.zero_le _) (by omega) ⟨u0, rfl, h⟩
  · intro self q s hq hs
    obtain ⟨v, rfl, hF, hR⟩ := hs
    have hcn : v.1 39 3 = nI (Sc S) := by rw [hF.1 39 (by decide)]; exact hm.1
    have b1 := Nat.le_trans (fw_W (wS S) p q r) (wS_le hW p q)
    have b2 := Nat.le_trans (fw_W (wS S) p r r) (wS_le hW p r)
    have b3 := Nat.le_trans (fw_W (wS S) r q r) (wS_le hW r q)
    have v1 : v.1 51 (8 * p + q) = nI (fwN (wS S) r p q) := hR.2 p q hp hq (by unfold ln; omega)
    have v2 : v.1 51 (8 * p + r) = nI (fwN (wS S) r p r) := hR.get hp hr (fw_col _ _ _)
    have v3 : v.1 51 (8 * r + q) = nI (fwN (wS S) r r q) := hR.get hr hq (fw_row _ _ _)
    refine .inl ⟨(nI r, nI p, nI (q + 1), uI v 51 (8 * p + q) (nI (fwN (wS S) (r + 1) p q))), ?_, _, rfl, hF.trans (Fr.uI v _ _ (List.mem_singleton.mpr rfl)), ?_⟩
    · unfold bd_X6_walk_105
      dsimp only
      rw [hcn, if_neg (nle8 hq hc), ck_t (inb8' (by omega) (by omega)), ck_t (inb8' (by omega) (by omega)), ck_t (inb8' (by omega) (by omega)), clamp8' (by omega) (by omega), clamp8' (by omega) (by omega), clamp8' (by omega) (by omega), v1, v2, v3, nI_add, min_nI (by omega) (by omega), bnp_s, ck_t (inb8' (by omega) (by omega)), ltm_s, nI_s]
      rfl
    · rw [uI_same]
      exact hR.up hc hp hq rfl
  · intro self s hs
    obtain ⟨v, rfl, hF, hR⟩ := hs
    have hcn : v.1 39 3 = nI (Sc S) := by rw [hF.1 39 (by decide)]; exact hm.1
    refine ⟨v, ?_, hF, hR.row⟩
    unfold bd_X6_walk_105
    dsimp only
    rw [hcn, if_pos le8, nI_s]
theorem walk_mid {u u0 : Mem} {n r : Nat} {S : Ld} (hn : 8 < n) (hm : isMd u S) (hW : okW S) (hr : r < Sc S) (self85 : Int32 × Mem → Option (Unit × Mem)) (h : Fr u u0 [51] ∧ isFar u0 (Sc S) (fwN (wS S) r)) : ∃ v, iter (bd_X6_walk_95 n self85) n (nI r, 0, u0) = self85 (nI (r + 1), v) ∧ Fr u v [51] ∧ isFar v (Sc S) (fwN (wS S) (r + 1)) := by
  have hc := hW.1
  refine iter_inv (body := bd_X6_walk_95 n self85) (Sc S) (fun p s => ∃ v, s = (nI r, nI p, v) ∧ wk u (Sc S) (fwN (wS S) (r + 1)) (fwN (wS S) r) p 0 v) (fun x => ∃ v, x = self85 (nI (r + 1), v) ∧ Fr u v [51] ∧ isFar v (Sc S) (fwN (wS S) (r + 1))) ?_ ?_ n 0 _ (Nat.zero_le _) (by omega) ⟨u0, rfl, h.1, lnK.nil, fun i j hi hj _ => h.2 i j hi hj⟩
  · intro self p s hp hs
    obtain ⟨v, rfl, hF, hR⟩ := hs
    have hcn : v.1 39 3 = nI (Sc S) := by rw [hF.1 39 (by decide)]; exact hm.1
    obtain ⟨w, w1, w2⟩ := walk_in hn hm hc hW hr hp self85 self ⟨hF, hR⟩
    refine .inl ⟨_, ?_, w, rfl, w2⟩
    unfold bd_X6_walk_95
    dsimp only
    rw [hcn, if_neg (nle8 hp hc)]
    exact w1
  · intro self s hs
    obtain ⟨v, rfl, hF, hR⟩ := hs
    have hcn : v.1 39 3 = nI (Sc S) := by rw [hF.1 39 (by decide)]; exact hm.1
    refine ⟨v, ?_, hF, fun i j hi hj => hR.1.all hi hj⟩
    unfold bd_X6_walk_95
    dsimp only
    rw [hcn, if_pos le8, nI_s]
theorem walk_end {u u0 : Mem} {n : Nat} {S : Ld} (hn : 8 < n) (hm : isMd u S) (hW : okW S) (h : Fr u u0 [51] ∧ isFar u0 (Sc S) (wS S)) : ∃ v, iter (bd_X6_walk_85 n) n (0, u0) = some ((), v) ∧ Fr u v [51] ∧ isFar v (Sc S) (dS S) := by
  have hc := hW.1
  refine iter_inv (body := bd_X6_walk_85 n) (Sc S) (fun r s => ∃ v, s = (nI r, v) ∧ Fr u v [51] ∧ isFar v (Sc S) (fwN (wS S) r)) (fun x => ∃ v, x = some ((), v) ∧ Fr u v [51] ∧ isFar v (Sc S) (dS S)) ?_ ?_ n 0 _ (Nat.zero_le _) (by omega) ⟨u0, rfl, h⟩
  · intro self r s hr hs
    obtain ⟨v, rfl, hF, hR⟩ := hs
    have hcn : v.1 39 3 = nI (Sc S) := by rw [hF.1 39 (by decide)]; exact hm.1
    obtain ⟨w, w1, w2⟩ := walk_mid hn hm hW hr self ⟨hF, hR⟩
    refine .inl ⟨_, ?_, w, rfl, w2⟩
    unfold bd_X6_walk_85
    dsimp only
    rw [hcn, if_neg (nle8 hr hc)]
    exact w1
  · intro self s hs
    obtain ⟨v, rfl, hF, hR⟩ := hs
    have hcn : v.1 39 3 = nI (Sc S) := by rw [hF.1 39 (by decide)]; exact hm.1
    refine ⟨v, ?_, hF, hR⟩
    unfold bd_X6_walk_85
    dsimp only
    rw [hcn, if_pos le8]
theorem walk_w {u u0 : Mem} {n p : Nat} {S : Ld} (hn : 8 < n) (hm : isMd u S) (hW : okW S) (hp : p < Sc S) (self2 : Int32 × Mem → Option (Unit × Mem)) (h : Fr u u0 [51] ∧ lnK (u0.1 51) (Sc S) (wS S) p 0) : ∃ v, iter (bd_X6_walk_12 n self2) n (nI p, 0, u0) = self2 (nI (p + 1), v) ∧ Fr u v [51] ∧ lnK (v.1 51) (Sc S) (wS S) (p + 1) 0 := by
  have hc := hW.1
  refine iter_inv (body := bd_X6_walk_12 n self2) (Sc S) (fun q s => ∃ v, s = (nI p, nI q, v) ∧ Fr u v [51] ∧ lnK (v.1 51) (Sc S) (wS S) p q) (fun x => ∃ v, x = self2 (nI (p + 1), v) ∧ Fr u v [51] ∧ lnK (v.1 51) (Sc S) (wS S) (p + 1) 0) ?_ ?_ n 0 _ (Nat.zero_le _) (by omega) ⟨u0, rfl, h⟩
  · intro self q s hq hs
    obtain ⟨v, rfl, hF, hR⟩ := hs
    have hcn : v.1 39 3 = nI (Sc S) := by rw [hF.1 39 (by decide)]; exact hm.1
    have hv : v.1 45 (8 * p + q) = nI (Sw S p q) := by rw [hF.1 45 (by decide)]; exact hm.2.2.2.2.2.2 p q (by omega) (by omega)
    have b1 := hW.2.2 p q
    refine .inl ⟨(nI p, nI (q + 1), uI v 51 (8 * p + q) (nI (wS S p q))), ?_, _, rfl, hF.trans (Fr.uI v _ _ (List.mem_singleton.mpr rfl)), ?_⟩
    · unfold bd_X6_walk_12
      dsimp only
      rw [hcn, if_neg (nle8 hq hc)]
      by_cases e : p = q
      · rw [if_neg (fun g => g (by rw [e])), ck_t (inb8' (by omega) (by omega)), clamp8' (by omega) (by omega), ltm_s, nI_s, e, wS_0]
        rfl
      · rw [if_pos (nI_ne (by omega) (by omega) e), ck_t (inb8' (by omega) (by omega)), clamp8' (by omega) (by omega), hv]
        by_cases e0 : Sw S p q = 0
        · rw [if_pos ((nI_le0 (by omega)).mpr e0), ck_t (inb8' (by omega) (by omega)), ltm_s, nI_s, show wS S p q = 10000 by unfold wS; rw [if_neg e, if_pos e0]]
          rfl
        · rw [if_neg (fun g => e0 ((nI_le0 (by omega)).mp g)), ck_t (inb8' (by omega) (by omega)), ck_t (inb8' (by omega) (by omega)), ltm_s, nI_s, wS_road e e0]
    · rw [uI_same]
      exact hR.up hc hp hq rfl
  · intro self s hs
    obtain ⟨v, rfl, hF, hR⟩ := hs
    have hcn : v.1 39 3 = nI (Sc S) := by rw [hF.1 39 (by decide)]; exact hm.1
    refine ⟨v, ?_, hF, hR.row⟩
    unfold bd_X6_walk_12
    dsimp only
    rw [hcn, if_pos le8, nI_s]
theorem walk_y {u : Mem} {n : Nat} {S : Ld} (hn : 8 < n) (hm : isMd u S) (hW : okW S) : ∃ v, f_X6_walk n u = some ((), v) ∧ Fr u v [51] ∧ isFar v (Sc S) (dS S) := by
  have hc := hW.1
  unfold f_X6_walk
  refine iter_inv (body := bd_X6_walk_2 n) (Sc S) (fun p s => ∃ v, s = (nI p, v) ∧ Fr u v [51] ∧ lnK (v.1 51) (Sc S) (wS S) p 0) (fun x => ∃ v, x = some ((), v) ∧ Fr u v [51] ∧ isFar v (Sc S) (dS S)) ?_ ?_ n 0 _ (Nat.zero_le _) (by omega) ⟨u, rfl, Fr.rf _ _, lnK.nil⟩
  · intro self p s hp hs
    obtain ⟨v, rfl, hF, hR⟩ := hs
    have hcn : v.1 39 3 = nI (Sc S) := by rw [hF.1 39 (by decide)]; exact hm.1
    obtain ⟨w, w1, w2⟩ := walk_w hn hm hW hp self ⟨hF, hR⟩
    refine .inl ⟨_, ?_, w, rfl, w2⟩
    unfold bd_X6_walk_2
    dsimp only
    rw [hcn, if_neg (nle8 hp hc)]
    exact w1
  · intro self s hs
    obtain ⟨v, rfl, hF, hR⟩ := hs
    have hcn : v.1 39 3 = nI (Sc S) := by rw [hF.1 39 (by decide)]; exact hm.1
    obtain ⟨w, w1, w2⟩ := walk_end hn hm hW ⟨hF, fun i j hi hj => hR.all hi hj⟩
    refine ⟨w, ?_, w2⟩
    unfold bd_X6_walk_2
    dsimp only
    rw [hcn, if_pos le8]
    exact w1
