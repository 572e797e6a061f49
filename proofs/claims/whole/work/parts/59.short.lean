/-! layer 2: shortest -/
theorem least_ex {f : Nat → Prop} : ∀ c, (∃ r, r < c ∧ f r) → ∃ r, r < c ∧ f r ∧ ∀ k, k < r → ¬ f k
  | 0, h => by obtain ⟨r, h, _⟩ := h; omega
  | c + 1, h => by
    by_cases e : ∃ r, r < c ∧ f r
    · obtain ⟨r, h1, h2, h3⟩ := least_ex c e
      exact ⟨r, by omega, h2, h3⟩
    · obtain ⟨r, h1, h2⟩ := h
      have : r = c := by
        apply Classical.byContradiction
        intro g
        exact e ⟨r, by omega, h2⟩
      subst this
      exact ⟨r, h1, h2, fun k hk g => e ⟨k, hk, g⟩⟩
def nxP (S : Ld) (p q r : Nat) : Prop := ¬ Sw S p r = 0 ∧ Sw S p r + dS S r q = dS S p q
theorem cnx_y {t : Mem} {L : Fin 3} {J : Fin 2} {S : Ld} {p q r n : Nat} (hn : 8 < n) (hl : isLd t L S) (hW : okW S) (hw9 : ∀ p q, Sw S p q ≤ 9999) (hv : isLn t J (Sc S) (dS S)) (hp : p < Sc S) (hq : q < Sc S) (hr : r < Sc S) (h1 : nxP S p q r) (h2 : ∀ k, k < r → ¬ nxP S p q k) : f_X2_nextOnTheWay n J L (nI p) (nI q) t = some (nI r, t) := by
  have hc := hW.1
  have st : ∀ (self : Int32 × Mem → Option (Int32 × Mem)) i, i < Sc S → bd_X2_nextOnTheWay_3 n J L (nI p) (nI q) self (nI i, t) = if nI (Sw S p i) = 0 then self (nI (i + 1), t) else if ¬ nI (Sw S p i + dS S i q) = nI (dS S p q) then self (nI (i + 1), t) else some (nI i, t) := by
    intro self i hi
    unfold bd_X2_nextOnTheWay_3
    dsimp only
    rw [hv.1, if_neg (nle8 hi hc), btw_y hl hc hp hi, bnd_s, len_y hv hc hi hq, bnd_s, len_y hv hc hp hq, bnd_s, nI_add, nI_s]
  refine iter_up0 (body := bd_X2_nextOnTheWay_3 n J L (nI p) (nI q)) r (fun i => (nI i, t)) _ rfl (by omega) (fun self i hi => ?_) (fun self => ?_)
  · have w1 := hw9 p i
    have d1 := dS_le hW i q
    have d2 := dS_le hW p q
    show bd_X2_nextOnTheWay_3 n J L (nI p) (nI q) self (nI i, t) = self (nI (i + 1), t)
    rw [st self i (by omega)]
    by_cases e : Sw S p i = 0
    · rw [if_pos (by rw [e]; rfl)]
    · rw [if_neg (fun g => e ((nI_z (by omega)).mp g)), if_pos (fun g => h2 i hi ⟨e, (nI_eq (by omega) (by omega)).mp g⟩)]
  · have w1 := hw9 p r
    show bd_X2_nextOnTheWay_3 n J L (nI p) (nI q) self (nI r, t) = some (nI r, t)
    rw [st self r hr, if_neg (fun g => h1.1 ((nI_z (by omega)).mp g)), if_neg (fun g => g (by rw [h1.2]))]
theorem mnx_y {u : Mem} {S : Ld} {p q r n : Nat} (hn : 8 < n) (hm : isMd u S) (hW : okW S) (hf : isFar u (Sc S) (dS S)) (hp : p < Sc S) (hq : q < Sc S) (hr : r < Sc S) (h1 : nxP S p q r) (h2 : ∀ k, k < r → ¬ nxP S p q k) : f_X6_next n (nI p) (nI q) u = some (nI r, u) := by
  have hc := hW.1
  have st : ∀ (self : Int32 × Mem → Option (Int32 × Mem)) i, i < Sc S → bd_X6_next_2 n (nI p) (nI q) self (nI i, u) = if nI (Sw S p i) = 0 then self (nI (i + 1), u) else if nI (Sw S p i + dS S i q) = nI (dS S p q) then some (nI i, u) else self (nI (i + 1), u) := by
    intro self i hi
    unfold bd_X6_next_2
    dsimp only
    rw [ck_t (inb8' (by omega) (by omega)), ck_t (inb8' (by omega) (by omega)), ck_t (inb8' (by omega) (by omega)), ck_t (inb8' (by omega) (by omega)), mfar' hf hc hi hq, mfar' hf hc hp hq, clamp8' (by omega) (by omega), hm.2.2.2.2.2.2 p i (by omega) (by omega), nI_add, nI_s]
  refine iter_up0 (body := bd_X6_next_2 n (nI p) (nI q)) r (fun i => (nI i, u)) _ rfl (by omega) (fun self i hi => ?_) (fun self => ?_)
  · have w1 := hW.2.2 p i
    have d1 := dS_le hW i q
    have d2 := dS_le hW p q
    show bd_X6_next_2 n (nI p) (nI q) self (nI i, u) = self (nI (i + 1), u)
    rw [st self i (by omega)]
    by_cases e : Sw S p i = 0
    · rw [if_pos (by rw [e]; rfl)]
    · rw [if_neg (fun g => e ((nI_z (by omega)).mp g)), if_neg (fun g => h2 i hi ⟨e, (nI_eq (by omega) (by omega)).mp g⟩)]
  · have w1 := hW.2.2 p r
    show bd_X6_next_2 n (nI p) (nI q) self (nI r, u) = some (nI r, u)
    rw [st self r hr, if_neg (fun g => h1.1 ((nI_z (by omega)).mp g)), if_pos (by rw [h1.2])]
/-- the next place of both, nearer by a road -/
theorem next_both {S : Ld} {p q : Nat} (hW : okW S) (hq : q < Sc S) (hpq : ¬ p = q) (hd : dS S p q < 10000) : ∃ r, r < Sc S ∧ nxP S p q r ∧ ∀ k, k < r → ¬ nxP S p q k := by
  obtain ⟨r, h1, h2, h3⟩ := dS_next hW hpq hq hd
  exact least_ex (f := nxP S p q) (Sc S) ⟨r, h1, h2, h3⟩
def rkN (S : Ld) (o a : Nat) : Nat := cntN (fun j => decide (dS S j o < dS S a o)) (Sc S)
theorem rk_lt {S : Ld} {o a r : Nat} (hr : r < Sc S) (h : dS S r o < dS S a o) : rkN S o r < rkN S o a :=
  cnt_lt (Sc S) (fun i _ g => by
    have := of_decide_eq_true g
    exact decide_eq_true (by omega)) ⟨r, hr, decide_eq_true h, by simp⟩
theorem rk_7 {S : Ld} {o a : Nat} (hc : Sc S ≤ 8) (ha : a < Sc S) : rkN S o a ≤ 7 := by
  have h1 : rkN S o a < cntN (fun _ => true) (Sc S) := cnt_lt (Sc S) (fun _ _ _ => rfl) ⟨a, ha, rfl, by simp⟩
  have h2 := cnt_le (fun _ => true) (Sc S)
  omega
theorem eq_s {x : Int32} {k : Nat} : nI (k + 1) = x + 1 ↔ nI k = x := by
  rw [← nI_s]
  exact ⟨fun h => (Int32.add_left_inj 1).mp h, fun h => by rw [h]⟩
theorem stp17 {n : Nat} (hn : 8 < n) : Stp17 Rel n := fun t u x1 x2 x3 h0 => by
  obtain ⟨S, hl, hm, ok, ho⟩ := id h0
  unfold f_X5_shortest f_X6_shortest jn_X6_shortest_16 jn_X6_shortest_48
  rcases e1 : plc (Sc S) x1 with _ | p
  · rw [hasBoth_n hl ok.1 (.inl e1), bnd_s, if_neg z_nn, isPl_n hm ok.1 e1, bnd_s, if_pos rfl]
    exact fin_no 1 h0 (by decide) (by decide)
  obtain ⟨rfl, hp⟩ := plc_some e1
  rw [isPl_y hm ok.1 hp, bnd_s, if_neg one_ne]
  rcases e2 : plc (Sc S) x2 with _ | q
  · rw [hasBoth_n hl ok.1 (.inr e2), bnd_s, if_neg z_nn, isPl_n hm ok.1 e2, bnd_s, if_neg z_nn]
    exact fin_no 1 h0 (by decide) (by decide)
  obtain ⟨rfl, hq⟩ := plc_some e2
  rw [hasBoth_y hl ok.1 hp hq, bnd_s, if_pos one_ne, isPl_y hm ok.1 hq, bnd_s, if_pos one_ne]
  have hc := ok.1
  have hD := dS_le ok.w
  obtain ⟨v, w, a, b, hl', hm', ho', hv, hw⟩ := both_y hn hl hm ok ho
  have hR : Rel v w := ⟨S, hl', hm', ok, ho'⟩
  rw [a, b, bnd_s, bnd_s, ck_t (inb8' (by omega) (by omega)), mfar' hw hc hp hq]
  -- a turn of the class
  have turn : ∀ (self : Int32 × Int32 × Mem → Option (Int32 × Mem)) (at' k : Nat), at' < Sc S → k < 8 → bd_X5_shortest_35 n (nI p) (nI q) x3 self (nI at', nI k, v) = if dS S at' q < 10000 then (if nI k = x3 then some (nI at', v) else if at' = q then (if x3 = -1 then some (nI (k + 1), v) else bnd (f_X5_refuse (-5) v) fun r16 t17 => some (r16, t17)) else bnd (f_X2_nextOnTheWay n 0 0 (nI at') (nI q) v) fun r13 t14 => self (r13, nI (k + 1), t14)) else bnd (f_X5_refuse (-5) v) fun r16 t17 => some (r16, t17) := by
    intro self at' k h1 h2
    unfold bd_X5_shortest_35 jn_X5_shortest_111
    dsimp only
    rw [if_neg (show ¬ (8 : Int32) ≤ nI k by rw [show (8 : Int32) = nI 8 from rfl, nI_le' (by omega) (by omega)]; omega), joins_y hv hc (hD at' q) h1 hq, bnd_s, bI_it, nI_s]
    by_cases e : dS S at' q < 10000
    · rw [if_pos (decide_eq_true e), if_pos e]
      by_cases e3 : nI k = x3
      · rw [if_neg (fun g => g e3), if_pos e3]
      · rw [if_pos e3, if_neg e3]
        by_cases e4 : at' = q
        · rw [if_pos e4, if_neg (fun g => g (by rw [e4]))]
          by_cases e5 : x3 = -1
          · rw [if_neg (fun g => g e5), if_pos e5]
          · rw [if_pos e5, if_neg e5]
        · rw [if_neg e4, if_pos (nI_ne (by omega) (by omega) e4)]
    · rw [if_neg (by simp [e]), if_neg e]
  by_cases e3 : dS S p q = 10000
  · rw [e3, if_pos (show nI 10000 = (10000 : Int32) from rfl)]
    have : iter (bd_X5_shortest_35 n (nI p) (nI q) x3) n (nI p, 0, v) = bnd (f_X5_refuse (-5) v) fun r16 t17 => some (r16, t17) := by
      obtain ⟨k, rfl⟩ : ∃ k, n = k + 1 := ⟨n - 1, by omega⟩
      show bd_X5_shortest_35 (k + 1) (nI p) (nI q) x3 _ (nI p, nI 0, v) = _
      rw [turn _ p 0 hp (by omega), if_neg (by omega)]
    rw [this]
    exact fin_no 5 hR (by decide) (by decide)
  have hd := hD p q
  rw [if_neg (show ¬ nI (dS S p q) = 10000 from nI_ne (b := 10000) (by omega) (by omega) e3)]
  have hr7 := rk_7 (o := q) hc hp
  by_cases e4 : (-1 : Int32) ≤ x3
  · rw [if_pos e4]
    refine iter_pair (b1 := bd_X5_shortest_35 n (nI p) (nI q) x3) (b2 := bd_X6_shortest_61 n (nI p) (nI q) x3) 8 (fun k s1 s2 => ∃ a, a < Sc S ∧ dS S a q < 10000 ∧ rkN S q a + k ≤ 7 ∧ s1 = (nI a, nI k, v) ∧ s2 = (nI (k + 1), nI a, w)) (fun r1 r2 => ∃ r t' u', r1 = some (r, t') ∧ r2 = some (r, u') ∧ Rel t' u') ?_ ?_ n n 0 _ _ (Nat.zero_le _) (by omega) (by omega) ⟨p, hp, by omega, by omega, rfl, rfl⟩
    · intro s1 s2 k y1 y2 hk hR'
      obtain ⟨a, ha, had, hrk, rfl, rfl⟩ := hR'
      rw [turn s1 a k ha hk, if_pos had]
      have mt : bd_X6_shortest_61 n (nI p) (nI q) x3 s2 (nI (k + 1), nI a, w) = if a = q then jn_X6_shortest_90 n (nI p) (nI q) x3 (nI (k + 1)) (nI a) w else if nI k = x3 then jn_X6_shortest_90 n (nI p) (nI q) x3 (nI (k + 1)) (nI a) w else bnd (f_X6_next n (nI a) (nI q) w) fun r17 t18 => s2 (nI (k + 1 + 1), r17, t18) := by
        unfold bd_X6_shortest_61
        dsimp only
        rw [nI_s]
        by_cases e5 : a = q
        · rw [if_pos e5, if_pos (by rw [e5])]
        · rw [if_neg e5, if_neg (nI_ne (by omega) (by omega) e5)]
          by_cases e6 : nI k = x3
          · rw [if_pos e6, if_pos (eq_s.mpr e6)]
          · rw [if_neg e6, if_neg (fun g => e6 (eq_s.mp g))]
      have mj : jn_X6_shortest_90 n (nI p) (nI q) x3 (nI (k + 1)) (nI a) w = if x3 = -1 then some (nI (k + 1), w) else if nI k = x3 then some (nI a, w) else bnd (f_X6_no (-5) w) fun r21 t22 => some (r21, t22) := by
        unfold jn_X6_shortest_90
        by_cases e5 : x3 = -1
        · rw [if_neg (fun g => g e5), if_pos e5]
        · rw [if_pos e5, if_neg e5]
          by_cases e6 : nI k = x3
          · rw [if_neg (fun g => g (eq_s.mpr e6)), if_pos e6]
          · rw [if_pos (fun g => e6 (eq_s.mp g)), if_neg e6]
      rw [mt, mj]
      by_cases e6 : nI k = x3
      · have e7 : ¬ x3 = -1 := fun g => nI_nm (p := k) (by omega) (e6.trans g)
        rw [if_pos e6, if_pos e6, if_pos e6, if_neg e7]
        refine .inr ⟨_, _, _, rfl, ?_, hR⟩
        split <;> rfl
      · rw [if_neg e6, if_neg e6, if_neg e6]
        by_cases e5 : a = q
        · rw [if_pos e5, if_pos e5]
          by_cases e8 : x3 = -1
          · rw [if_pos e8, if_pos e8]
            exact .inr ⟨_, _, _, rfl, rfl, hR⟩
          · rw [if_neg e8, if_neg e8]
            exact .inr (fin_no 5 hR (by decide) (by decide))
        · rw [if_neg e5, if_neg e5]
          obtain ⟨r, r1, r2, r3⟩ := next_both ok.w hq e5 had
          have hlt : dS S r q < dS S a q := by
            have := r2.1
            have := r2.2
            omega
          have := rk_lt (o := q) r1 hlt
          refine .inl ⟨(nI r, nI (k + 1), v), (nI (k + 1 + 1), nI r, w), ?_, ?_, r, r1, by omega, by omega, rfl, rfl⟩
          · rw [cnx_y hn hl' ok.w ok.w.2.2 hv ha hq r1 r2 r3, bnd_s]
          · rw [mnx_y hn hm' ok.w hw ha hq r1 r2 r3, bnd_s]
    · intro s1 s2 y1 y2 hR'
      obtain ⟨a, ha, had, hrk, rfl, rfl⟩ := hR'
      omega
  · rw [if_neg e4]
    have : iter (bd_X5_shortest_35 n (nI p) (nI q) x3) n (nI p, 0, v) = bnd (f_X5_refuse (-5) v) fun r16 t17 => some (r16, t17) := by
      refine iter_inv (body := bd_X5_shortest_35 n (nI p) (nI q) x3) 8 (fun k s => ∃ a, a < Sc S ∧ dS S a q < 10000 ∧ rkN S q a + k ≤ 7 ∧ s = (nI a, nI k, v)) (fun x => x = bnd (f_X5_refuse (-5) v) fun r16 t17 => some (r16, t17)) ?_ ?_ n 0 _ (Nat.zero_le _) (by omega) ⟨p, hp, by omega, by omega, rfl⟩
      · intro self k s hk hs
        obtain ⟨a, ha, had, hrk, rfl⟩ := hs
        rw [turn self a k ha hk, if_pos had]
        have e6 : ¬ nI k = x3 := by
          intro g
          rw [← g, i_le, nI_toInt (by omega)] at e4
          have : ((-1 : Int32)).toInt = -1 := rfl
          omega
        have e7 : ¬ x3 = -1 := by
          intro g
          rw [g] at e4
          exact e4 (Int32.le_refl _)
        rw [if_neg e6]
        by_cases e5 : a = q
        · rw [if_pos e5, if_neg e7]
          exact .inr rfl
        · rw [if_neg e5]
          obtain ⟨r, r1, r2, r3⟩ := next_both ok.w hq e5 had
          have hlt : dS S r q < dS S a q := by
            have := r2.1
            have := r2.2
            omega
          have := rk_lt (o := q) r1 hlt
          rw [cnx_y hn hl' ok.w ok.w.2.2 hv ha hq r1 r2 r3, bnd_s]
          exact .inl ⟨_, rfl, r, r1, by omega, by omega, rfl⟩
      · intro self s hs
        obtain ⟨a, ha, had, hrk, rfl⟩ := hs
        omega
    rw [this]
    exact fin_no 5 hR (by decide) (by decide)
