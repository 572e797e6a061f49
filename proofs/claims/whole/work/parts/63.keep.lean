/-! layer 2: KEEP, the numbers -/
theorem ex_iff {f : Nat → Bool} : ∀ c, exB f c = true ↔ ∃ r, r < c ∧ f r = true
  | 0 => ⟨fun h => (by cases h), fun ⟨r, h, _⟩ => absurd h (Nat.not_lt_zero r)⟩
  | c + 1 => by
    have h := ex_iff (f := f) c
    unfold exB
    rw [Bool.or_eq_true, h]
    refine ⟨fun g => ?_, fun ⟨r, h1, h2⟩ => ?_⟩
    · rcases g with ⟨r, h1, h2⟩ | g
      · exact ⟨r, by omega, h2⟩
      · exact ⟨c, by omega, g⟩
    · by_cases e : r = c
      · rw [e] at h2; exact .inr h2
      · exact .inl ⟨r, by omega, h2⟩
/-- roads of at most so many miles: 0 joined, else more -/
def thW (S : Ld) (t p q : Nat) : Nat := if p = q ∨ (¬ Sw S p q = 0 ∧ Sw S p q ≤ t) then 0 else 1
def cd (S : Ld) (t : Nat) : Nat → Nat → Nat := fwN (thW S t) (Sc S)
theorem cd_0 (S : Ld) (t p : Nat) : cd S t p p = 0 := fw_0 (fun p => by unfold thW; rw [if_pos (.inl rfl)]) _ p
theorem cd_sym {S : Ld} (h : okW S) (t p q : Nat) : cd S t p q = cd S t q p := fw_sym (fun p q => by
  unfold thW
  rw [h.2.1 p q]
  by_cases e : q = p
  · rw [if_pos (.inl e.symm), if_pos (.inl e)]
  · by_cases g : ¬ Sw S q p = 0 ∧ Sw S q p ≤ t
    · rw [if_pos (.inr g), if_pos (.inr g)]
    · rw [if_neg (by omega), if_neg (by omega)]) _ p q
theorem cd_tr (S : Ld) (t : Nat) {p q r : Nat} (hr : r < Sc S) (h1 : cd S t p r = 0) (h2 : cd S t r q = 0) : cd S t p q = 0 := by
  have : cd S t p q ≤ cd S t p r + cd S t r q := fw_tri _ _ r hr p q
  omega
theorem cd_edge {S : Ld} {t p q : Nat} (h1 : ¬ Sw S p q = 0) (h2 : Sw S p q ≤ t) : cd S t p q = 0 := by
  have h := fw_W (thW S t) p q (Sc S)
  unfold thW at h
  rw [if_pos (.inr ⟨h1, h2⟩)] at h
  unfold cd thW
  omega
theorem cd_closed {S : Ld} {t : Nat} {I : Nat → Bool} (h : ∀ p q, p < Sc S → q < Sc S → I p = true → ¬ I q = true → Sw S p q = 0 ∨ t < Sw S p q) (hs : okW S) {u v : Nat} (hu : u < Sc S) (hv : v < Sc S) (h1 : I u = true) (h2 : ¬ I v = true) : ¬ cd S t u v = 0 := by
  intro e
  have g := fw_max (W := thW S t) (c := Sc S) (X := fun p q => if I p = I q then 0 else 1) (fun p q hp hq => by
    show (if I p = I q then 0 else 1) ≤ thW S t p q
    unfold thW
    by_cases e1 : I p = I q
    · rw [if_pos e1]; omega
    · rw [if_neg e1]
      have e2 : ¬ p = q := fun e => e1 (by rw [e])
      have e3 : Sw S p q = 0 ∨ t < Sw S p q := by
        by_cases a : I p = true
        · refine h p q hp hq a (fun b => e1 (by rw [a, b]))
        · by_cases b : I q = true
          · rw [hs.2.1 p q]
            exact h q p hq hp b a
          · exact absurd (by rw [Bool.not_eq_true] at a b; rw [a, b]) e1
      rw [if_neg (by omega)]
      omega) (fun p q r hp hq hr => by
    show (if I p = I q then 0 else 1) ≤ (if I p = I r then 0 else 1) + (if I r = I q then 0 else 1)
    by_cases a : I p = I r
    · rw [if_pos a, a]; omega
    · rw [if_neg a]
      split <;> omega) (Sc S) (Nat.le_refl _) u v hu hv
  have g' : (if I u = I v then 0 else 1) ≤ cd S t u v := g
  rw [e, if_neg (fun x => h2 (by rw [← x]; exact h1))] at g'
  omega
/-- the sets of a threshold that the joined places touch, counted at their least members -/
def kcB (S : Ld) (t : Nat) (I : Nat → Bool) (r : Nat) : Bool := !exB (fun q => decide (cd S t q r = 0)) r && exB (fun v => I v && decide (cd S t r v = 0)) (Sc S)
def kcN (S : Ld) (t : Nat) (I : Nat → Bool) : Nat := cntN (kcB S t I) (Sc S)
theorem kcB_iff {S : Ld} {t : Nat} {I : Nat → Bool} {r : Nat} : kcB S t I r = true ↔ (∀ q, q < r → ¬ cd S t q r = 0) ∧ ∃ v, v < Sc S ∧ I v = true ∧ cd S t r v = 0 := by
  unfold kcB
  rw [Bool.and_eq_true, ex_iff, Bool.not_eq_true']
  constructor
  · rintro ⟨h1, v, h2, h3⟩
    rw [Bool.and_eq_true, decide_eq_true_eq] at h3
    refine ⟨fun q hq e => ?_, v, h2, h3⟩
    have : exB (fun q => decide (cd S t q r = 0)) r = true := (ex_iff r).mpr ⟨q, hq, decide_eq_true e⟩
    rw [h1] at this
    cases this
  · rintro ⟨h1, v, h2, h3, h4⟩
    refine ⟨?_, v, h2, by rw [Bool.and_eq_true, decide_eq_true_eq]; exact ⟨h3, h4⟩⟩
    cases e : exB (fun q => decide (cd S t q r = 0)) r with
    | false => rfl
    | true =>
      obtain ⟨q, h5, h6⟩ := (ex_iff r).mp e
      exact absurd (of_decide_eq_true h6) (h1 q h5)
def addI (I : Nat → Bool) (v : Nat) (x : Nat) : Bool := I x || decide (x = v)
theorem addI_iff {I : Nat → Bool} {v x : Nat} : addI I v x = true ↔ I x = true ∨ x = v := by
  unfold addI
  rw [Bool.or_eq_true, decide_eq_true_eq]
theorem bool_eq {a b : Bool} (h : a = true ↔ b = true) : a = b := by
  cases a <;> cases b <;> simp_all
theorem kc_same {S : Ld} {t : Nat} {I : Nat → Bool} {u v : Nat} (hv : v < Sc S) (hu : u < Sc S) (h1 : I u = true) (h2 : cd S t v u = 0) : kcN S t (addI I v) = kcN S t I := by
  refine cnt_congr (fun r hr => bool_eq ?_)
  rw [kcB_iff, kcB_iff]
  refine ⟨fun ⟨g1, x, g2, g3, g4⟩ => ⟨g1, ?_⟩, fun ⟨g1, x, g2, g3, g4⟩ => ⟨g1, x, g2, addI_iff.mpr (.inl g3), g4⟩⟩
  rcases addI_iff.mp g3 with e | e
  · exact ⟨x, g2, e, g4⟩
  · rw [e] at g4
    exact ⟨u, hu, h1, cd_tr S t hv g4 h2⟩
theorem cnt_one {b b' : Nat → Bool} {r : Nat} : ∀ c, r < c → ¬ b r = true → b' r = true → (∀ i, i < c → ¬ i = r → b' i = b i) → cntN b' c = cntN b c + 1
  | 0, h, _, _, _ => absurd h (Nat.not_lt_zero r)
  | c + 1, h, h1, h2, h3 => by
    unfold cntN
    by_cases e : r = c
    · subst e
      rw [if_pos h2, if_neg h1, cnt_congr (fun i hi => h3 i (by omega) (by omega))]
    · have := cnt_one c (by omega) h1 h2 (fun i hi => h3 i (by omega))
      rw [h3 c (by omega) (fun g => e g.symm), this]
      split <;> rfl
theorem kc_more {S : Ld} {t : Nat} {I : Nat → Bool} {v : Nat} (hs : okW S) (hv : v < Sc S) (h : ∀ u, u < Sc S → I u = true → ¬ cd S t u v = 0) : kcN S t (addI I v) = kcN S t I + 1 := by
  obtain ⟨r, r1, r2, r3⟩ := least_ex (f := fun r => cd S t r v = 0) (Sc S) ⟨v, hv, cd_0 S t v⟩
  refine cnt_one (r := r) (Sc S) r1 ?_ ?_ (fun i hi hir => bool_eq ?_)
  · rw [kcB_iff]
    rintro ⟨_, x, g2, g3, g4⟩
    refine h x g2 g3 (cd_tr S t r1 ?_ r2)
    rw [cd_sym hs]; exact g4
  · rw [kcB_iff]
    exact ⟨fun q hq e => r3 q hq (cd_tr S t r1 e r2), v, hv, addI_iff.mpr (.inr rfl), r2⟩
  · rw [kcB_iff, kcB_iff]
    refine ⟨fun ⟨g1, x, g2, g3, g4⟩ => ⟨g1, ?_⟩, fun ⟨g1, x, g2, g3, g4⟩ => ⟨g1, x, g2, addI_iff.mpr (.inl g3), g4⟩⟩
    rcases addI_iff.mp g3 with e | e
    · exact ⟨x, g2, e, g4⟩
    · exfalso
      rw [e] at g4
      have hvr : cd S t v r = 0 := by rw [cd_sym hs]; exact r2
      rcases Nat.lt_trichotomy i r with k | k | k
      · exact r3 i k g4
      · exact hir k
      · refine g1 r k (cd_tr S t hv r2 ?_)
        rw [cd_sym hs]; exact g4
/-- a turn of either side: v comes in by w miles, the least, or by none -/
def tnP (S : Ld) (I : Nat → Bool) (v w : Nat) : Prop := v < Sc S ∧ ¬ I v = true ∧ ((w = 0 ∧ ∀ p q, p < Sc S → q < Sc S → I p = true → ¬ I q = true → Sw S p q = 0) ∨ (¬ w = 0 ∧ (∃ p, p < Sc S ∧ I p = true ∧ Sw S p v = w) ∧ ∀ p q, p < Sc S → q < Sc S → I p = true → ¬ I q = true → ¬ Sw S p q = 0 → w ≤ Sw S p q))
theorem kc_turn {S : Ld} {I : Nat → Bool} {v w : Nat} (hs : okW S) (h : tnP S I v w) (t : Nat) : kcN S t (addI I v) = kcN S t I + if w = 0 ∨ t < w then 1 else 0 := by
  obtain ⟨hv, hiv, h⟩ := h
  by_cases e : w = 0 ∨ t < w
  · rw [if_pos e]
    refine kc_more hs hv (fun u hu h1 => cd_closed (I := I) (fun p q hp hq a b => ?_) hs hu hv h1 hiv)
    rcases h with ⟨h1, h2⟩ | ⟨h1, _, h2⟩
    · exact .inl (h2 p q hp hq a b)
    · by_cases z : Sw S p q = 0
      · exact .inl z
      · have := h2 p q hp hq a b z
        exact .inr (by omega)
  · rw [if_neg e]
    rcases h with ⟨h1, h2⟩ | ⟨h1, ⟨p, p1, p2, p3⟩, h2⟩
    · omega
    · refine kc_same (u := p) hv p1 p2 ?_
      rw [cd_sym hs]
      exact cd_edge (by omega) (by omega)
theorem sm_lt {w : Nat} : ∀ c, smN (fun t => if t < w then 1 else 0) c = min w c
  | 0 => by show 0 = min w 0; omega
  | c + 1 => by
    show smN _ c + (if c < w then 1 else 0) = _
    rw [sm_lt c]
    split <;> omega
theorem sm_one : ∀ c, smN (fun _ => 1) c = c
  | 0 => rfl
  | c + 1 => by
    show smN _ c + 1 = _
    rw [sm_one c]
/-- what the sum is at every turn -/
def kpI (S : Ld) (I : Nat → Bool) (s : Nat) : Prop := s + 1000 * kcN S 999 I = smN (fun t => kcN S t I) 1000
theorem kp_turn {S : Ld} {I : Nat → Bool} {v w s : Nat} (hs : okW S) (h : tnP S I v w) (hw : w ≤ 999) (hk : kpI S I s) : kpI S (addI I v) (s + w) := by
  unfold kpI at hk ⊢
  have e1 : smN (fun t => kcN S t (addI I v)) 1000 = smN (fun t => kcN S t I) 1000 + smN (fun t => if w = 0 ∨ t < w then 1 else 0) 1000 := by
    rw [← sm_add]
    exact sm_congr _ (fun t _ => kc_turn hs h t)
  rw [e1, kc_turn hs h 999, ← hk]
  by_cases e : w = 0
  · have e2 : smN (fun t => if w = 0 ∨ t < w then 1 else 0) 1000 = 1000 := by
      rw [sm_congr (g := fun _ => 1) 1000 (fun t _ => if_pos (.inl e)), sm_one]
    rw [e2, if_pos (.inl e), e]
    omega
  · have e2 : smN (fun t => if w = 0 ∨ t < w then 1 else 0) 1000 = w := by
      rw [sm_congr (g := fun t => if t < w then 1 else 0) 1000 (fun t _ => by
        by_cases g : t < w
        · rw [if_pos (.inr g), if_pos g]
        · rw [if_neg (by omega), if_neg g]), sm_lt]
      omega
    rw [e2, if_neg (by omega)]
    omega
theorem kc_congr {S : Ld} {t : Nat} {I J : Nat → Bool} (h : ∀ v, v < Sc S → I v = J v) : kcN S t I = kcN S t J :=
  cnt_congr (fun r _ => bool_eq (by
    rw [kcB_iff, kcB_iff]
    refine ⟨fun ⟨g1, x, g2, g3, g4⟩ => ⟨g1, x, g2, by rw [← h x g2]; exact g3, g4⟩, fun ⟨g1, x, g2, g3, g4⟩ => ⟨g1, x, g2, by rw [h x g2]; exact g3, g4⟩⟩))
theorem kp_end {S : Ld} {I J : Nat → Bool} {s s' : Nat} (hI : ∀ v, v < Sc S → I v = true) (hJ : ∀ v, v < Sc S → J v = true) (h1 : kpI S I s) (h2 : kpI S J s') : s = s' := by
  unfold kpI at h1 h2
  have e : ∀ t, kcN S t I = kcN S t J := fun t => kc_congr (fun v hv => by rw [hI v hv, hJ v hv])
  rw [e 999, sm_congr (g := fun t => kcN S t J) 1000 (fun t _ => e t)] at h1
  omega
theorem kp_0 (S : Ld) : kpI S (fun _ => false) 0 := by
  have e : ∀ t, kcN S t (fun _ => false) = 0 := by
    intro t
    have : kcN S t (fun _ => false) = cntN (fun _ => false) (Sc S) := cnt_congr (fun r _ => bool_eq (by
      rw [kcB_iff]
      exact ⟨fun ⟨_, x, _, g, _⟩ => g, fun g => by cases g⟩))
    rw [this]
    have z : ∀ c, cntN (fun _ => false) c = 0 := by
      intro c
      induction c with
      | zero => rfl
      | succ c ih => show (if false = true then _ else cntN (fun _ => false) c) = 0; rw [if_neg (by decide), ih]
    exact z _
  unfold kpI
  rw [e, sm_0 1000 (fun t _ => e t)]
/-! masks of joined places -/
theorem mk_bit : ∀ q : Fin 8, ∀ m : Fin 256, ((nI m.val >>> (nI q.val &&& 31)) &&& 1) = if m.val.testBit q.val = true then 1 else 0 := by decide +kernel
theorem mk_or : ∀ q : Fin 8, ∀ m : Fin 256, m.val.testBit q.val = false → nI m.val ||| ((1 : Int32) <<< (nI q.val &&& 31)) = nI (m.val + 2 ^ q.val) := by decide +kernel
theorem bs_bit {I : Nat → Bool} {q : Nat} (hq : q < 8) : ((nI (bsN I 8) >>> (nI q &&& 31)) &&& 1) = if I q = true then 1 else 0 := by
  rw [mk_bit ⟨q, hq⟩ ⟨bsN I 8, bsN_256 I (by omega)⟩]
  show (if (bsN I 8).testBit q = true then 1 else 0) = _
  rw [bsN_bit, decide_eq_true hq, Bool.true_and]
theorem bs_add {I : Nat → Bool} {v : Nat} (h : ¬ I v = true) : ∀ c, bsN (addI I v) c = bsN I c + if v < c then 2 ^ v else 0
  | 0 => by rw [if_neg (by omega)]; rfl
  | c + 1 => by
    have ih := bs_add h c
    unfold bsN
    by_cases e : c = v
    · subst e
      rw [if_pos (addI_iff.mpr (.inr rfl)), if_neg h, ih, if_neg (by omega), if_pos (by omega), Nat.add_zero]
    · by_cases g : I c = true
      · rw [if_pos (addI_iff.mpr (.inl g)), if_pos g, ih]
        by_cases k : v < c
        · rw [if_pos k, if_pos (by omega)]; omega
        · rw [if_neg k, if_neg (by omega)]; omega
      · rw [if_neg (fun x => by rcases addI_iff.mp x with a | a; exact g a; exact e a), if_neg g, ih]
        by_cases k : v < c
        · rw [if_pos k, if_pos (by omega)]
        · rw [if_neg k, if_neg (by omega)]
theorem bs_set {I : Nat → Bool} {v : Nat} (hv : v < 8) (h : ¬ I v = true) : nI (bsN I 8) ||| ((1 : Int32) <<< (nI v &&& 31)) = nI (bsN (addI I v) 8) := by
  rw [mk_or ⟨v, hv⟩ ⟨bsN I 8, bsN_256 I (by omega)⟩ (by
    show (bsN I 8).testBit v = false
    rw [bsN_bit, decide_eq_true hv, Bool.true_and]
    exact Bool.not_eq_true _ ▸ h), bs_add h, if_pos hv]
theorem cnt_add {I : Nat → Bool} {v c : Nat} (hv : v < c) (h : ¬ I v = true) : cntN (addI I v) c = cntN I c + 1 :=
  cnt_one c hv h (addI_iff.mpr (.inr rfl)) (fun i _ hi => bool_eq (by
    rw [addI_iff]
    exact ⟨fun g => g.resolve_right hi, .inl⟩))
theorem cnt_full {I : Nat → Bool} : ∀ c, cntN I c = c → ∀ i, i < c → I i = true
  | 0, _, i, hi => absurd hi (Nat.not_lt_zero i)
  | c + 1, h, i, hi => by
    have h1 := cnt_le I c
    unfold cntN at h
    by_cases e : I c = true
    · rw [if_pos e] at h
      by_cases g : i = c
      · rw [g]; exact e
      · exact cnt_full c (by omega) i (by omega)
    · rw [if_neg e] at h
      omega
theorem cnt_free {I : Nat → Bool} {c : Nat} (h : cntN I c < c) : ∃ i, i < c ∧ ¬ I i = true := by
  apply Classical.byContradiction
  intro g
  have : cntN I c = cntN (fun _ => true) c := cnt_congr (fun i hi => by
    apply Classical.byContradiction
    intro e
    exact g ⟨i, hi, e⟩)
  have h2 : ∀ c, cntN (fun _ => true) c = c := by
    intro c
    induction c with
    | zero => rfl
    | succ c ih => show (if true = true then cntN (fun _ => true) c + 1 else _) = c + 1; rw [if_pos rfl, ih]
  rw [this, h2] at h
  omega
