/-! layer 2: the calls that change a shelf -/
theorem Oth.shelf {c : Nat} {t u t' u' : Mem} {K : Nat} (h : Oth c t u) (h1 : ∀ o, ¬ o = 18 + K → t'.1 o = t.1 o) (h2 : ∀ o, ¬ o = 26 + K → t'.2 o = t.2 o) (hK : K < 8) (h3 : ∀ o, ¬ o ∈ [40, 41] → u'.1 o = u.1 o) (h4 : ∀ j, ¬ j = K → u'.1 40 j = u.1 40 j ∧ u'.1 41 j = u.1 41 j) (h5 : ∀ j, ¬ (160 * K ≤ j ∧ j < 160 * K + 160) → u'.2 42 j = u.2 42 j) (hs : shR c t' u' K) : Oth c t' u' := by
  refine ⟨fun J hJ => ?_, h.2.1.fr (h1 _ (by omega)) (h1 _ (by omega)) (h1 _ (by omega)) (h1 _ (by omega)) (h1 _ (by omega)) (congrFun (h3 39 (by decide)) 14) (h3 _ (by decide)), ?_⟩
  · by_cases e : J = K
    · rw [e]; exact hs
    have a := h.1 J hJ
    unfold shR at a ⊢
    rw [h1 (18 + J) (by omega), h2 (26 + J) (by omega), (h4 J e).1, (h4 J e).2]
    rcases a with a | a | ⟨s, n, a1, a2, a3, a4, a5, a6, a7, a8⟩
    · exact .inl a
    · exact .inr (.inl a)
    · exact .inr (.inr ⟨s, n, a1, a2, a3, a4, a5, a6, a7, fun i hi => (a8 i hi).trans (h5 _ (by omega)).symm⟩)
  · rw [h1 34 (by omega), h1 35 (by omega), h1 37 (by omega), h1 38 (by omega), h3 39 (by decide), h3 46 (by decide), h3 47 (by decide)]
    exact h.2.2
theorem isLd.rows {t t' : Mem} {L : Fin 3} {S : Ld} (h : isLd t L S) (h1 : ∀ o, o < 18 → t'.1 o = t.1 o) : isLd t' L S := by
  have hL := L.isLt
  unfold isLd
  rw [h1 (oLd L) (by simp only [oLd]; omega), h1 (oKn L) (by simp only [oKn]; omega), h1 (oMk L) (by simp only [oMk]; omega), h1 (oRd L) (by simp only [oRd]; omega)]
  exact h
theorem isMd.rows {u u' : Mem} {S : Ld} (h : isMd u S) (h1 : u'.1 39 = u.1 39) (h2 : u'.1 43 = u.1 43) (h3 : u'.1 44 = u.1 44) (h4 : u'.1 45 = u.1 45) : isMd u' S := by
  unfold isMd
  rw [h1, h2, h3, h4]
  exact h
theorem Rel.shelf {t u t' u' : Mem} {K : Nat} {S : Ld} (hl : isLd t 0 S) (hm : isMd u S) (ok : okLd S) (h : Oth (Sc S) t u) (h1 : ∀ o, ¬ o = 18 + K → t'.1 o = t.1 o) (h2 : ∀ o, ¬ o = 26 + K → t'.2 o = t.2 o) (hK : K < 8) (h3 : ∀ o, ¬ o ∈ [40, 41] → u'.1 o = u.1 o) (h4 : ∀ j, ¬ j = K → u'.1 40 j = u.1 40 j ∧ u'.1 41 j = u.1 41 j) (h5 : ∀ j, ¬ (160 * K ≤ j ∧ j < 160 * K + 160) → u'.2 42 j = u.2 42 j) (hs : shR (Sc S) t' u' K) : Rel t' u' :=
  ⟨S, hl.rows (fun o ho => h1 o (by omega)), hm.rows (h3 _ (by decide)) (h3 _ (by decide)) (h3 _ (by decide)) (h3 _ (by decide)), ok, h.shelf h1 h2 hK h3 h4 h5 hs⟩
theorem take_y {t u : Mem} {K : Nat} {S : Ld} {x : Int32} (hK : K < 8) (hl : isLd t 0 S) (hm : isMd u S) (ok : okLd S) (h : Oth (Sc S) t u) (hx : x = -1 ∨ ∃ p, p < Sc S ∧ x = nI p) : ∃ t' u', f_X4_takePlace ⟨K, hK⟩ x t = some ((), t') ∧ jn_X6_show_29 (nI K) x u = (if ¬ x = (-1) then some (1, u') else some (0, u')) ∧ Rel t' u' := by
  refine ⟨_, uI u 40 K x, rfl, ?_, ?_⟩
  · unfold jn_X6_show_29
    rw [ck_t (inb_nI hK (by decide)), nI_clamp (by omega), ltm_s]
  · refine Rel.shelf (K := K) hl hm ok h ?_ (fun o _ => rfl) hK ?_ ?_ (fun j _ => rfl) ?_
    · intro o ho
      unfold uI
      rw [uA_ne _ ho, uA_ne _ ho, uA_ne _ ho]
    · intro o ho
      exact uA_ne _ (by simp_all)
    · intro j hj
      unfold uI
      rw [uA_same, uA_ne _ (by decide), upd_ne _ hj]
      exact ⟨rfl, rfl⟩
    · have a1 : (uI (uI (uI t (18 + K) 3 x) (18 + K) 2 (-1)) (18 + K) 1 0).1 (18 + K) 2 = -1 := by
        unfold uI
        rw [uA_same, upd_ne _ (by decide), uA_same, upd_same]
      have a2 : (uI (uI (uI t (18 + K) 3 x) (18 + K) 2 (-1)) (18 + K) 1 0).1 (18 + K) 3 = x := by
        unfold uI
        rw [uA_same, upd_ne _ (by decide), uA_same, upd_ne _ (by decide), uA_same, upd_same]
      have a3 : (uI u 40 K x).1 40 K = x := by
        unfold uI
        rw [uA_same, upd_same]
      rcases hx with e | ⟨p, hp, e⟩
      · exact .inl ⟨a1, a2.trans e, a3.trans e⟩
      · exact .inr (.inl ⟨p, hp, a1, a2.trans e, a3.trans e⟩)
theorem stp4 {n : Nat} : Stp4 Rel n := fun t u x1 x2 h0 => by
  obtain ⟨S, hl, hm, ok, ho⟩ := id h0
  unfold f_X5_show f_X6_show jn_X5_show_26 jn_X6_show_23
  rcases e1 : plc 8 x1 with _ | K
  · rw [slot_n e1, bnd_s, nul_n, win7_n e1, bnp_s, if_pos rfl]
    exact fin_no 1 h0 (by decide) (by decide)
  obtain ⟨rfl, hK⟩ := plc_some e1
  rw [slot_y hK, bnd_s, nul_s, win7_y hK, bnp_s, if_neg one_ne]
  unfold jn_X5_show_32
  rw [nn_s]
  by_cases e : x2 = -1
  · obtain ⟨t', u', a, b, r⟩ := take_y (x := x2) hK hl hm ok ho (.inl e)
    rw [if_pos e, if_pos e, a, b, bnd_s, if_neg (fun f => f e), if_neg (fun f => f e)]
    exact ⟨_, _, _, rfl, rfl, r⟩
  rw [if_neg e, if_neg e]
  rcases e2 : plc (Sc S) x2 with _ | p
  · rw [has_n hl ok.1 e2, bnd_s, if_neg z_nn, isPl_n hm ok.1 e2, bnd_s, if_neg z_nn]
    exact fin_no 1 h0 (by decide) (by decide)
  · obtain ⟨rfl, hp⟩ := plc_some e2
    obtain ⟨t', u', a, b, r⟩ := take_y (x := nI p) hK hl hm ok ho (.inr ⟨p, hp, rfl⟩)
    rw [has_y hl ok.1 hp, bnd_s, if_pos one_ne, isPl_y hm ok.1 hp, bnd_s, if_pos one_ne, nn_s, a, b, bnd_s, if_pos e, if_pos e]
    exact ⟨_, _, _, rfl, rfl, r⟩
theorem updL_same (f : Nat → Int64) (k : Nat) (x : Int64) : vp_updL f k x k = x := by
  show (if k = k then x else f k) = x
  rw [if_pos rfl]
theorem updL_ne {f : Nat → Int64} {k j : Nat} (x : Int64) (h : ¬ j = k) : vp_updL f k x j = f j := by
  show (if j = k then x else f j) = f j
  rw [if_neg h]
theorem put_rel {t u : Mem} {K i : Nat} {S : Ld} {v : Int64} (hK : K < 8) (hi : i < 160) (hl : isLd t 0 S) (hm : isMd u S) (ok : okLd S) (h : Oth (Sc S) t u) (hr : ∃ s n, s ≤ 3 ∧ n ≤ 160 ∧ t.1 (18 + K) 2 = nI s ∧ t.1 (18 + K) 3 = -1 ∧ t.1 (18 + K) 1 = nI n ∧ u.1 40 K = nI (100 + s) ∧ u.1 41 K = nI n ∧ ∀ i, i < 160 → t.2 (26 + K) i = u.2 42 (160 * K + i)) : Rel (uL t (26 + K) i v) (uL u 42 (160 * K + i) v) := by
  refine Rel.shelf (K := K) hl hm ok h (fun o _ => rfl) (fun o ho => uB_ne _ ho) hK (fun o _ => rfl) (fun j _ => ⟨rfl, rfl⟩) ?_ ?_
  · intro j hj
    show (uB u 42 _).2 42 j = _
    rw [uB_same, updL_ne _ (by omega)]
  · obtain ⟨s, n, a1, a2, a3, a4, a5, a6, a7, a8⟩ := hr
    refine .inr (.inr ⟨s, n, a1, a2, a3, a4, a5, a6, a7, fun j hj => ?_⟩)
    show (uB t (26 + K) _).2 (26 + K) j = (uB u 42 _).2 42 (160 * K + j)
    rw [uB_same, uB_same]
    by_cases e : j = i
    · rw [e, updL_same, updL_same]
    · rw [updL_ne _ e, updL_ne _ (by omega), a8 j hj]
theorem hasE_y {t : Mem} {K : Fin 8} {m a b : Nat} (hm : m ≤ 160) (h : t.1 (18 + K.val) 1 = nI m) (hb : a + b ≤ m) : f_X4_hasElements K (nI a) (nI b) t = some (1, t) := by
  unfold f_X4_hasElements
  rw [if_neg (nI_nneg (by omega)), if_neg (nI_nneg (by omega)), show t.1 (oSh K) 1 = nI m from h, if_neg (by rw [nI_lt' (by omega) (by omega)]; omega), nI_sub (by omega), if_neg (by rw [nI_lt' (by omega) (by omega)]; omega)]
theorem hasE_1n {t : Mem} {K : Fin 8} {m : Nat} {x : Int32} (hm : m ≤ 160) (h : t.1 (18 + K.val) 1 = nI m) (hx : plc m x = none) : f_X4_hasElements K x 1 t = some (0, t) := by
  unfold f_X4_hasElements
  rw [show t.1 (oSh K) 1 = nI m from h]
  rcases plc_none (by omega) hx with h | ⟨h, h2⟩
  · rw [if_pos h]
  rw [if_neg h, if_neg (by decide)]
  by_cases e : nI m < x
  · rw [if_pos e]
  · have e' : x = nI m := Int32.le_antisymm (Int32.not_lt.mp e) h2
    rw [if_neg e, e', if_pos (by rw [Int32.sub_self]; decide)]
theorem fin_set {t u t' u' : Mem} (h : Rel t' u') {A : Option (Int32 × Mem)} {B : Option (Int32 × Mem)} (ha : A = some (1, t')) (hb : B = some (1, u')) : ∃ r t' u', A = some (r, t') ∧ B = some (r, u') ∧ Rel t' u' := ⟨_, _, _, ha, hb, h⟩
theorem stp1 {n : Nat} : Stp1 Rel n := fun t u x1 x2 x3 h0 => by
  obtain ⟨S, hl, hm, ok, ho⟩ := id h0
  unfold f_X5_set f_X6_set jn_X5_set_33
  rcases e1 : plc 8 x1 with _ | K
  · have e3 : f_X6_noRow x1 u = some (-1, u) := by
      unfold f_X6_noRow
      rw [win7_n e1, bnp_s, if_neg z_nn]
    rw [slot_n e1, bnd_s, e3, bnd_s, if_neg (by decide)]
    unfold f_X5_rowProblem
    rw [nul_n, bnd_s, if_pos (by decide), if_neg (by decide)]
    exact fin_no 1 h0 (by decide) (by decide)
  obtain ⟨rfl, hK⟩ := plc_some e1
  rw [slot_y hK, bnd_s]
  rcases prob ok.1 hK (ho.1 K hK) with ⟨a, b, _⟩ | ⟨a, b, _⟩ | ⟨a, b, _, hr⟩
  · rw [a, b, bnd_s, bnd_s, if_pos (by decide), if_neg (by decide), if_neg (by decide)]
    exact fin_no 3 h0 (by decide) (by decide)
  · rw [a, b, bnd_s, bnd_s, if_pos (by decide), if_neg (by decide), if_neg (by decide)]
    exact fin_no 2 h0 (by decide) (by decide)
  obtain ⟨s, m, hs, hm', c, d, e, f, g, k⟩ := id hr
  rw [a, b, bnd_s, bnd_s, if_neg z_nn, if_pos (by decide), nn_s, ck_t (inb_nI hK (by decide)), nI_clamp (by omega), g]
  rcases e2 : plc m x2 with _ | i
  · rw [win_len_n hm' e2, bnp_s, if_neg z_nn, hasE_1n hm' e e2, bnd_s, if_neg z_nn, if_neg (by decide)]
    exact fin_no 5 h0 (by decide) (by decide)
  obtain ⟨rfl, hi⟩ := plc_some e2
  have hE : f_X4_hasElements ⟨K, hK⟩ (nI i) 1 t = some (1, t) := hasE_y (b := 1) hm' e (by omega)
  rw [win_len_y hm' hi, bnp_s, if_pos one_ne, hE, bnd_s, if_pos one_ne, if_pos rfl, nn_s]
  unfold f_X4_put f_X4_kept
  rw [hE, bnd_s, if_neg one_ne, show t.1 (oSh ⟨K, hK⟩) 2 = nI s from c, ck_t (inb_nI hK (by decide)), f, lti_s, show (100 : Int32) = nI 100 from rfl, nI_sub (by omega), show 100 + s - 100 = s by omega, ix160, ck_t (inb_nI (show 160 * K + i < 1280 by omega) (by decide)), ck_t (inb_nI (show 160 * K + i < 1280 by omega) (by decide)), ck_t (inb_nI (show 160 * K + i < 1280 by omega) (by decide)), ck_t (inb_nI (show 160 * K + i < 1280 by omega) (by decide)), nI_clamp (show 160 * K + i < 2 ^ 31 by omega)]
  have hput : ∀ v, (bnd (bnd (some (v, t)) fun r4 t5 => ck (inb (nI i) 160) (lt (uL t5 (oEl ⟨K, hK⟩) (nI i).toNatClampNeg r4) fun t7 => some ((), t7))) fun _ t12 => some ((1 : Int32), t12)) = some (1, uL t (26 + K) i v) := by
    intro v
    rw [bnd_s, ck_t (inb_nI (show i < 160 by omega) (by decide)), nI_clamp (by omega)]
    rfl
  have hp := fun v => put_rel (v := v) hK (show i < 160 by omega) hl hm ok ho hr
  rcases (show s = 0 ∨ s = 1 ∨ s = 2 ∨ s = 3 by omega) with e | e | e | e <;> subst e
  · exact fin_set (t := t) (u := u) (hp _) (hput _) rfl
  · exact fin_set (t := t) (u := u) (hp _) (hput _) rfl
  · exact fin_set (t := t) (u := u) (hp _) (hput _) rfl
  · exact fin_set (t := t) (u := u) (hp _) (hput _) rfl
