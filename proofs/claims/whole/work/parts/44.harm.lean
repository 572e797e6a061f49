/-! layer 2: harm -/
theorem iter_pair {S1 S2 R1 R2 : Type} {b1 : (S1 → Option R1) → S1 → Option R1} {b2 : (S2 → Option R2) → S2 → Option R2} (c : Nat) (R : Nat → S1 → S2 → Prop) (P : Option R1 → Option R2 → Prop) (hstep : ∀ (self1 : S1 → Option R1) (self2 : S2 → Option R2) (i : Nat) (s1 : S1) (s2 : S2), i < c → R i s1 s2 → (∃ s1' s2', b1 self1 s1 = self1 s1' ∧ b2 self2 s2 = self2 s2' ∧ R (i + 1) s1' s2') ∨ P (b1 self1 s1) (b2 self2 s2)) (hexit : ∀ (self1 : S1 → Option R1) (self2 : S2 → Option R2) (s1 : S1) (s2 : S2), R c s1 s2 → P (b1 self1 s1) (b2 self2 s2)) : ∀ (k1 k2 i : Nat) (s1 : S1) (s2 : S2), i ≤ c → c - i < k1 → c - i < k2 → R i s1 s2 → P (iter b1 k1 s1) (iter b2 k2 s2) := by
  intro k1
  induction k1 with
  | zero => intro k2 i s1 s2 _ h; omega
  | succ k1 ih =>
    intro k2 i s1 s2 hi hk1 hk2 hR
    obtain ⟨k, rfl⟩ : ∃ k, k2 = k + 1 := ⟨k2 - 1, by omega⟩
    show P (b1 (iter b1 k1) s1) (b2 (iter b2 k) s2)
    by_cases e : i = c
    · subst e; exact hexit _ _ s1 s2 hR
    · rcases hstep (iter b1 k1) (iter b2 k) i s1 s2 (by omega) hR with ⟨s1', s2', h1, h2, h3⟩ | h
      · rw [h1, h2]; exact ih k (i + 1) s1' s2' (by omega) (by omega) (by omega) h3
      · exact h
def smN (f : Nat → Nat) : Nat → Nat
  | 0 => 0
  | i + 1 => smN f i + f i
theorem sm_congr {f g : Nat → Nat} : ∀ c, (∀ i, i < c → f i = g i) → smN f c = smN g c
  | 0, _ => rfl
  | c + 1, h => by
    unfold smN
    rw [sm_congr c (fun i hi => h i (by omega)), h c (by omega)]
theorem sm_add (f g : Nat → Nat) : ∀ c, smN (fun i => f i + g i) c = smN f c + smN g c
  | 0 => rfl
  | c + 1 => by
    unfold smN
    rw [sm_add f g c]
    omega
theorem sm_0 {f : Nat → Nat} : ∀ c, (∀ i, i < c → f i = 0) → smN f c = 0
  | 0, _ => rfl
  | c + 1, h => by
    unfold smN
    rw [sm_0 c (fun i hi => h i (by omega)), h c (by omega)]
theorem sm_le {f : Nat → Nat} {B : Nat} : ∀ c, (∀ i, i < c → f i ≤ B) → smN f c ≤ c * B
  | 0, _ => Nat.zero_le _
  | c + 1, h => by
    have h1 := sm_le c (fun i hi => h i (by omega))
    have h2 := h c (by omega)
    unfold smN
    rw [Nat.succ_mul]
    omega
/-- pairs from the lesser on -/
def upN (f : Nat → Nat → Nat) (c p : Nat) : Nat := smN (fun j => if p < j then f p j else 0) c
def totN (f : Nat → Nat → Nat) (c : Nat) : Nat := smN (fun p => upN f c p) c
theorem up_0 (f : Nat → Nat → Nat) (p : Nat) : upN f (p + 1) p = 0 := sm_0 _ (fun i hi => if_neg (by omega))
theorem up_s (f : Nat → Nat → Nat) {p q : Nat} (h : p < q) : upN f (q + 1) p = upN f q p + f p q := by
  show smN _ q + (if p < q then f p q else 0) = _
  rw [if_pos h]
  rfl
theorem tot_swap (f : Nat → Nat → Nat) : ∀ c, totN f c = smN (fun r => smN (fun t => f t r) r) c
  | 0 => rfl
  | c + 1 => by
    have h := tot_swap f c
    show smN (fun p => upN f (c + 1) p) c + upN f (c + 1) c = smN (fun r => smN (fun t => f t r) r) c + smN (fun t => f t c) c
    rw [up_0, ← h, sm_congr (g := fun p => upN f c p + f p c) c (fun i hi => up_s f hi), sm_add]
    rfl
theorem tot_sub {f g : Nat → Nat → Nat} {c : Nat} (hf : ∀ p q, f p q = f q p) (hg : ∀ p q, g p q = g q p) (h : ∀ p q, p < c → q < c → f p q ≤ g p q) : totN g c = totN f c + smN (fun r => smN (fun t => g r t - f r t) r) c := by
  rw [tot_swap, tot_swap, ← sm_add]
  refine sm_congr c (fun r hr => ?_)
  show _ = smN (fun t => f t r) r + smN (fun t => g r t - f r t) r
  rw [← sm_add]
  refine sm_congr r (fun t ht => ?_)
  have := h r t hr (by omega)
  show g t r = f t r + (g r t - f r t)
  rw [hg t r, hf t r]
  omega
theorem tot_le {f : Nat → Nat → Nat} {c : Nat} (hc : c ≤ 8) (h : ∀ p q, f p q ≤ 10000) : totN f c ≤ 640000 := by
  have h1 : ∀ p, p < c → upN f c p ≤ 80000 := by
    intro p _
    have := sm_le (f := fun j => if p < j then f p j else 0) (B := 10000) c (fun i _ => by
      show (if p < i then f p i else 0) ≤ 10000
      split
      · exact h p i
      · omega)
    unfold upN
    omega
  have : totN f c ≤ c * 80000 := sm_le c h1
  omega
theorem total_y {t : Mem} {J : Fin 2} {c n : Nat} {D : Nat → Nat → Nat} (hn : 8 < n) (h : isLn t J c D) (hc : c ≤ 8) : f_X2_total n J t = some (nI (totN D c), t) := by
  refine iter_up0 (body := bd_X2_total_4 n J) c (fun p => (nI (smN (fun p => upN D c p) p), nI p, t)) _ rfl (by omega) (fun self p hp => ?_) (fun self => ?_)
  · unfold bd_X2_total_4
    dsimp only
    rw [h.1, if_neg (nle8 hp hc), nI_s]
    refine iter_inv (body := bd_X2_total_16 n J self) c (fun q s => p < q ∧ s = (nI (smN (fun p => upN D c p) p + upN D q p), nI p, nI q, t)) (fun x => x = self (nI (smN (fun p => upN D c p) (p + 1)), nI (p + 1), t)) ?_ ?_ n (p + 1) _ (by omega) (by omega) ⟨by omega, by rw [up_0]; rfl⟩
    · intro self2 q s hq hs
      obtain ⟨hpq, rfl⟩ := hs
      refine .inl ⟨_, ?_, by omega, rfl⟩
      unfold bd_X2_total_16
      dsimp only
      rw [h.1, if_neg (nle8 hq hc), len_y h hc hp hq, bnd_s, nI_s, nI_add, up_s D hpq, Nat.add_assoc]
    · intro self2 s hs
      obtain ⟨hpq, rfl⟩ := hs
      unfold bd_X2_total_16
      dsimp only
      rw [h.1, if_pos le8, nI_s]
      rfl
  · unfold bd_X2_total_4
    dsimp only
    rw [h.1, if_pos le8]
    rfl
theorem setW_back {S : Ld} {p q x : Nat} (h : Sw S p q = Sw S q p) : setW (setW S p q x) p q (Sw S p q) = S := by
  have e : (fun i j => if (i = p ∧ j = q) ∨ (i = q ∧ j = p) then Sw S p q else Sw (setW S p q x) i j) = Sw S := by
    funext i j
    by_cases g : (i = p ∧ j = q) ∨ (i = q ∧ j = p)
    · rw [if_pos g]
      rcases g with ⟨rfl, rfl⟩ | ⟨rfl, rfl⟩
      · rfl
      · exact h
    · rw [if_neg g]
      exact if_neg g
  unfold setW at e ⊢
  show (Sc S, Sk S, Sm S, _, Sf S, Sd S, Se S) = S
  rw [e]
theorem dS_mono {S : Ld} {p q : Nat} (hpq : ¬ p = q) (h : okW S) (i j : Nat) (hi : i < Sc S) (hj : j < Sc S) : dS S i j ≤ dS (setW S p q 0) i j := by
  refine dS_max (S := setW S p q 0) (X := dS S) (fun a b ha hb => ?_) (fun a b r ha hb hr => dS_tri S hr a b) hi hj
  rw [wS_without S hpq]
  have h1 := dS_w S a b
  have h2 := dS_le h a b
  split <;> omega
/-- the harm of a road, as the reference sums it -/
def hmN (S : Ld) (p q : Nat) : Nat := smN (fun r => smN (fun t => dS (setW S p q 0) r t - dS S r t) r) (Sc S)
theorem hm_tot {S : Ld} {p q : Nat} (hpq : ¬ p = q) (h : okW S) : totN (dS (setW S p q 0)) (Sc S) = totN (dS S) (Sc S) + hmN S p q :=
  tot_sub (fun a b => dS_sym h a b) (fun a b => dS_sym (h.setW (by omega)) a b) (fun a b ha hb => dS_mono hpq h a b ha hb)
theorem msum_y {u : Mem} {S : Ld} {p q n : Nat} {x1 x2 : Int32} (hn : 8 < n) (hm : isMd u S) (hW : okW S) (hpq : ¬ p = q) (h1 : isFar u (Sc S) (dS (setW S p q 0))) (h2 : ∀ i j, i < Sc S → j < Sc S → u.1 52 (8 * i + j) = nI (dS S i j)) : iter (bd_X6_harmOf_56 n x1 x2) n (0, 0, u) = some (nI (hmN S p q), u) := by
  have hc := hW.1
  refine iter_up0 (body := bd_X6_harmOf_56 n x1 x2) (Sc S) (fun r => (nI (smN (fun r => smN (fun t => dS (setW S p q 0) r t - dS S r t) r) r), nI r, u)) _ rfl (by omega) (fun self r hr => ?_) (fun self => ?_)
  · unfold bd_X6_harmOf_56
    dsimp only
    rw [hm.1, if_neg (nle8 hr hc)]
    refine iter_up0 (body := bd_X6_harmOf_68 n x1 x2 self) r (fun t => (nI (smN (fun r => smN (fun t => dS (setW S p q 0) r t - dS S r t) r) r + smN (fun t => dS (setW S p q 0) r t - dS S r t) t), nI r, nI t, u)) _ rfl (by omega) (fun self2 t ht => ?_) (fun self2 => ?_)
    · have hmo := dS_mono hpq hW r t hr (by omega)
      unfold bd_X6_harmOf_68
      dsimp only
      rw [if_neg (nle8 ht (by omega)), ck_t (inb8' (by omega) (by omega)), ck_t (inb8' (by omega) (by omega)), mfar' h1 hc hr (by omega), clamp8' (by omega) (by omega), h2 r t hr (by omega), nI_sub hmo, lti_s, nI_s, nI_add, Nat.add_assoc]
      rfl
    · unfold bd_X6_harmOf_68
      dsimp only
      rw [if_pos le8, nI_s]
      rfl
  · unfold bd_X6_harmOf_56
    dsimp only
    rw [hm.1, if_pos le8]
    rfl
theorem harmOf_y {u : Mem} {S : Ld} {p q n : Nat} (hn : 64 < n) (hm : isMd u S) (hW : okW S) (hp : p < Sc S) (hq : q < Sc S) (hpq : ¬ p = q) : ∃ w, f_X6_harmOf n (nI p) (nI q) u = some (nI (hmN S p q), w) ∧ isMd w S ∧ Fr u w [45, 51, 52] ∧ isFar w (Sc S) (dS (setW S p q 0)) ∧ ∀ i j, i < Sc S → j < Sc S → w.1 52 (8 * i + j) = nI (dS S i j) := by
  have hc := hW.1
  obtain ⟨u1, a1, a2, a3⟩ := walk_y (n := n) (by omega) hm hW
  have hm1 := hm.fr a2 (by decide) (by decide) (by decide) (by decide)
  unfold f_X6_harmOf
  rw [a1, bnd_s]
  refine iter_inv (body := bd_X6_harmOf_6 n (nI p) (nI q)) 64 (fun i s => ∃ v, s = (nI i, v) ∧ Fr u1 v [52] ∧ ∀ j, j < i → v.1 52 j = u1.1 51 j) (fun x => ∃ w, x = some (nI (hmN S p q), w) ∧ isMd w S ∧ Fr u w [45, 51, 52] ∧ isFar w (Sc S) (dS (setW S p q 0)) ∧ ∀ i j, i < Sc S → j < Sc S → w.1 52 (8 * i + j) = nI (dS S i j)) ?_ ?_ n 0 _ (Nat.zero_le _) (by omega) ⟨u1, rfl, Fr.rf _ _, fun j hj => absurd hj (Nat.not_lt_zero j)⟩
  · intro self i s hi hs
    obtain ⟨v, rfl, hF, hv⟩ := hs
    refine .inl ⟨(nI (i + 1), uI v 52 i (v.1 51 i)), ?_, _, rfl, hF.trans (Fr.uI v _ _ (List.mem_singleton.mpr rfl)), fun j hj => ?_⟩
    · unfold bd_X6_harmOf_6
      dsimp only
      rw [if_neg (show ¬ (64 : Int32) ≤ nI i by rw [show (64 : Int32) = nI 64 from rfl, nI_le' (by omega) (by omega)]; omega), ck_t (inb_nI hi (by decide)), ck_t (inb_nI hi (by decide)), nI_clamp (by omega), ltm_s, nI_s]
    · rw [uI_same]
      by_cases e : j = i
      · rw [e, upd_same, hF.1 51 (by decide)]
      · rw [upd_ne _ e]; exact hv j (by omega)
  · intro self s hs
    obtain ⟨v, rfl, hF, hv⟩ := hs
    have hm2 := hm1.fr hF (by decide) (by decide) (by decide) (by decide)
    obtain ⟨u3, b1, b2, b3⟩ := mlay_y (p := p) (q := q) (n := 0) hm2 (by omega) (by omega)
    obtain ⟨u4, c1, c2, c3⟩ := walk_y (n := n) (by omega) b2 (hW.setW (by omega))
    have hm4 := b2.fr c2 (by decide) (by decide) (by decide) (by decide)
    obtain ⟨u5, d1, d2, d3⟩ := mlay_y (p := p) (q := q) (n := Sw S p q) hm4 (by omega) (by omega)
    rw [setW_back (hW.2.1 p q)] at d2
    have k1 : isFar u5 (Sc S) (dS (setW S p q 0)) := fun i j hi hj => by rw [d3.1 51 (by decide)]; exact c3 i j hi hj
    have k2 : ∀ i j, i < Sc S → j < Sc S → u5.1 52 (8 * i + j) = nI (dS S i j) := fun i j hi hj => by
      rw [d3.1 52 (by decide), c2.1 52 (by decide), b3.1 52 (by decide), hv _ (by omega)]
      exact a3 i j hi hj
    refine ⟨u5, ?_, d2, ?_, k1, k2⟩
    · unfold bd_X6_harmOf_6
      dsimp only
      rw [if_pos (show (64 : Int32) ≤ nI 64 from le8), show (0 : Int32) = nI 0 from rfl, b1, bnd_s, c1, bnd_s, d1, bnd_s]
      exact msum_y (by omega) d2 hW hpq k1 k2
    · exact ((((a2.mono (by decide)).trans (hF.mono (by decide))).trans (b3.mono (by decide))).trans (c2.mono (by decide))).trans (d3.mono (by decide))
