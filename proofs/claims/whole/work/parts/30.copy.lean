/-! layer 2: copies between rows -/
def cpw (u : Mem) (A B lo hi : Nat) : Mem := uB u 42 (fun j => if B + lo ≤ j ∧ j < B + hi then u.2 42 (A + (j - B)) else u.2 42 j)
theorem cpw_0 {u : Mem} {A B lo hi : Nat} (h : hi ≤ lo) : cpw u A B lo hi = u := by
  refine Prod.ext rfl (funext fun k => funext fun j => ?_)
  show (if k = 42 then _ else u.2 k) j = u.2 k j
  by_cases e : k = 42
  · rw [if_pos e, e]
    show (if B + lo ≤ j ∧ j < B + hi then _ else u.2 42 j) = _
    rw [if_neg (by omega)]
  · rw [if_neg e]
theorem cpw_up {u : Mem} {A B i : Nat} (h : ¬ (B ≤ A + i ∧ A + i < B + i)) : uL (cpw u A B 0 i) 42 (B + i) ((cpw u A B 0 i).2 42 (A + i)) = cpw u A B 0 (i + 1) := by
  refine Prod.ext rfl (funext fun k => funext fun j => ?_)
  by_cases e : k = 42
  · rw [e]
    unfold uL cpw
    rw [uB_same, uB_same, uB_same, if_neg (by omega)]
    by_cases e2 : j = B + i
    · rw [e2, updL_same, if_pos (by omega), show A + (B + i - B) = A + i by omega]
    · rw [updL_ne _ e2]
      by_cases e3 : B + 0 ≤ j ∧ j < B + i
      · rw [if_pos e3, if_pos (by omega)]
      · rw [if_neg e3, if_neg (by omega)]
  · unfold uL cpw
    rw [uB_ne _ e, uB_ne _ e, uB_ne _ e]
theorem cpw_dn {u : Mem} {A B lo hi : Nat} (h0 : lo < hi) (h : ¬ (B + (lo + 1) ≤ A + lo ∧ A + lo < B + hi)) : uL (cpw u A B (lo + 1) hi) 42 (B + lo) ((cpw u A B (lo + 1) hi).2 42 (A + lo)) = cpw u A B lo hi := by
  refine Prod.ext rfl (funext fun k => funext fun j => ?_)
  by_cases e : k = 42
  · rw [e]
    unfold uL cpw
    rw [uB_same, uB_same, uB_same, if_neg (by omega)]
    by_cases e2 : j = B + lo
    · rw [e2, updL_same, if_pos (by omega), show A + (B + lo - B) = A + lo by omega]
    · rw [updL_ne _ e2]
      by_cases e3 : B + (lo + 1) ≤ j ∧ j < B + hi
      · rw [if_pos e3, if_pos (by omega)]
      · rw [if_neg e3, if_neg (by omega)]
  · unfold uL cpw
    rw [uB_ne _ e, uB_ne _ e, uB_ne _ e]
theorem lsum {a b m : Nat} (ha : a < 2 ^ 31) (hb : b < 2 ^ 31) (hm : m < 2 ^ 31) : ((nI a).toInt64 + (nI b).toInt64 ≤ (nI m).toInt64) ↔ a + b ≤ m := by
  rw [Int64.le_iff_toInt_le, Int64.toInt_add, Int32.toInt_toInt64, Int32.toInt_toInt64, Int32.toInt_toInt64, nI_toInt ha, nI_toInt hb, nI_toInt hm, Int.bmod_eq_of_le (by omega) (by omega)]
  omega
theorem hasE_i {t : Mem} {K : Fin 8} {m a b : Nat} (ha : a < 2 ^ 31) (hb : b < 2 ^ 31) (hm : m ≤ 160) (h : t.1 (18 + K.val) 1 = nI m) : f_X4_hasElements K (nI a) (nI b) t = some (if a + b ≤ m then 1 else 0, t) := by
  by_cases e : a + b ≤ m
  · rw [if_pos e]; exact hasE_y hm h e
  unfold f_X4_hasElements
  rw [if_neg e, if_neg (nI_nneg ha), if_neg (nI_nneg hb), show t.1 (oSh K) 1 = nI m from h]
  by_cases e2 : m < a
  · rw [if_pos (by rw [nI_lt' (by omega) (by omega)]; omega)]
  · rw [if_neg (by rw [nI_lt' (by omega) (by omega)]; omega), nI_sub (by omega), if_pos (by rw [nI_lt' (by omega) (by omega)]; omega)]
theorem hasE_z {t : Mem} {K : Fin 8} {x y : Int32} (h : x < 0) : f_X4_hasElements K x y t = some (0, t) := if_pos h
theorem ix160b {K a i : Nat} : 160 * nI K + nI a + nI i = nI (160 * K + a + i) := by
  rw [ix160, nI_add]
theorem mcp_up {u : Mem} {K J a b m n : Nat} (hn : m < n) (hm : m ≤ 160) (hK : K < 8) (hJ : J < 8) (h1 : a + m ≤ 160) (h2 : b + m ≤ 160) (h : ¬ K = J ∨ b ≤ a) : iter (bd_X6_copy_251 n (nI K) (nI J) (nI a) (nI b) (nI m)) n (0, u) = some (1, cpw u (160 * K + a) (160 * J + b) 0 m) := by
  refine iter_up0 m (fun i => (nI i, cpw u (160 * K + a) (160 * J + b) 0 i)) _ (by rw [cpw_0 (Nat.le_refl 0)]; rfl) hn ?_ ?_
  · intro self i hi
    unfold bd_X6_copy_251
    dsimp only
    rw [if_neg (by rw [nI_le' (by omega) (by omega)]; omega), ix160b, ix160b, ck_t (inb_nI (by omega) (by decide)), ck_t (inb_nI (by omega) (by decide)), ltm_s, nI_clamp (by omega), nI_clamp (by omega), show (1 : Int32) = nI 1 from rfl, nI_add, cpw_up (by omega)]
  · intro self
    unfold bd_X6_copy_251
    dsimp only
    rw [if_pos (by rw [nI_le' (by omega) (by omega)]; omega)]
theorem nI_prd {k : Nat} (h : k < 2 ^ 31) : nI (k + 1) - 1 = nI k := by
  rw [show (1 : Int32) = nI 1 from rfl, nI_sub (by omega)]
  rfl
theorem mcp_dn {u : Mem} {K a b m n : Nat} (hn : m < n) (hm : m ≤ 160) (hK : K < 8) (h1 : a + m ≤ 160) (h2 : b + m ≤ 160) (h : a < b) : iter (bd_X6_copy_203 n (nI K) (nI K) (nI a) (nI b) (nI m)) n (nI m - 1, u) = some (1, cpw u (160 * K + a) (160 * K + b) 0 m) := by
  refine iter_up0 m (fun i => (nI (m - i) - 1, cpw u (160 * K + a) (160 * K + b) (m - i) m)) _ (by rw [Nat.sub_zero, cpw_0 (Nat.le_refl _)]) hn ?_ ?_
  · intro self i hi
    obtain ⟨k, hk⟩ : ∃ k, m - i = k + 1 := ⟨m - i - 1, by omega⟩
    unfold bd_X6_copy_203
    dsimp only
    rw [hk, nI_prd (by omega), if_neg (nI_nneg (by omega)), ix160b, ix160b, ck_t (inb_nI (by omega) (by decide)), ck_t (inb_nI (by omega) (by decide)), ltm_s, nI_clamp (by omega), nI_clamp (by omega), cpw_dn (by omega) (by omega), show m - (i + 1) = k by omega, show nI k + -1 = nI k - 1 from (Int32.sub_eq_add_neg _ _).symm]
  · intro self
    unfold bd_X6_copy_203
    dsimp only
    rw [Nat.sub_self, if_pos (by decide)]
theorem cp_rel {t u : Mem} {K J s m2 a b m : Nat} {S : Ld} (hK : K < 8) (hJ : J < 8) (hl : isLd t 0 S) (hm : isMd u S) (ok : okLd S) (h : Oth (Sc S) t u) (h1 : a + m ≤ 160) (h2 : b + m ≤ 160) (hr1 : ∀ i, i < 160 → t.2 (26 + K) i = u.2 42 (160 * K + i)) (hs : s ≤ 3) (hm2 : m2 ≤ 160) (hr : t.1 (18 + J) 2 = nI s ∧ t.1 (18 + J) 3 = -1 ∧ t.1 (18 + J) 1 = nI m2 ∧ u.1 40 J = nI (100 + s) ∧ u.1 41 J = nI m2 ∧ ∀ i, i < 160 → t.2 (26 + J) i = u.2 42 (160 * J + i)) : Rel (uB t (26 + J) (va_cpy (t.2 (26 + K)) (t.2 (26 + J)) a b m)) (cpw u (160 * K + a) (160 * J + b) 0 m) := by
  refine Rel.shelf (K := J) hl hm ok h (fun o _ => rfl) (fun o ho => uB_ne _ ho) hJ (fun o _ => rfl) (fun j _ => ⟨rfl, rfl⟩) ?_ ?_
  · intro j hj
    unfold cpw
    rw [uB_same, if_neg (by omega)]
  · obtain ⟨a1, a2, a3, a4, a5, a6⟩ := hr
    refine .inr (.inr ⟨s, m2, hs, hm2, a1, a2, a3, a4, a5, fun j hj => ?_⟩)
    unfold cpw
    rw [uB_same, uB_same]
    show (if b ≤ j ∧ j < b + m then t.2 (26 + K) (a + (j - b)) else t.2 (26 + J) j) = _
    by_cases e : b ≤ j ∧ j < b + m
    · rw [if_pos e, if_pos (by omega), hr1 _ (by omega), show 160 * K + a + (160 * J + j - (160 * J + b)) = 160 * K + (a + (j - b)) by omega]
    · rw [if_neg e, if_neg (by omega), a6 j hj]
theorem as_nat' {x : Int32} (h1 : ¬ x < 0) : ∃ j, j < 2 ^ 31 ∧ x = nI j := by
  rw [i_lt] at h1
  have : (0 : Int32).toInt = 0 := rfl
  have := Int32.toInt_lt x
  obtain ⟨j, ej⟩ : ∃ j : Nat, x.toInt = j := ⟨x.toInt.toNat, by omega⟩
  exact ⟨j, by omega, Int32.toInt_inj.mp (by rw [nI_toInt (by omega)]; exact ej)⟩
theorem stp2 {n : Nat} (hn : 160 < n) : Stp2 Rel n := fun t u x1 x2 x3 x4 x5 h0 => by
  obtain ⟨S, hl, hm, ok, ho⟩ := id h0
  have hc := ok.1
  unfold f_X5_copy f_X6_copy jn_X6_copy_20
  rcases e1 : plc 8 x1 with _ | K
  · rw [slot_n e1, bnd_s, win7_n e1, bnp_s, if_pos rfl]
    have rn : ∀ r, f_X5_rowsProblem none r t = some (-1, t) := fun _ => rfl
    have e3 : ∃ r, f_X5_shelfAt x2 t = some (r, t) := by
      rcases e2 : plc 8 x2 with _ | J
      · exact ⟨_, slot_n e2⟩
      · obtain ⟨rfl, hJ⟩ := plc_some e2
        exact ⟨_, slot_y hJ⟩
    obtain ⟨r, e3⟩ := e3
    unfold jn_X5_copy_37 jn_X5_copy_69
    rw [e3, bnd_s, rn, bnd_s, if_pos (by decide), if_pos (by decide), if_neg (by decide)]
    exact fin_no 1 h0 (by decide) (by decide)
  obtain ⟨rfl, hK⟩ := plc_some e1
  rw [slot_y hK, bnd_s, win7_y hK, bnp_s, if_neg one_ne]
  rcases e2 : plc 8 x2 with _ | J
  · rw [slot_n e2, bnd_s, win7_n e2, bnp_s, if_neg z_nn]
    unfold f_X5_rowsProblem jn_X5_copy_37 jn_X5_copy_69
    rw [nul_s, nul_n, bnd_s, if_pos (by decide), if_pos (by decide), if_neg (by decide)]
    exact fin_no 1 h0 (by decide) (by decide)
  obtain ⟨rfl, hJ⟩ := plc_some e2
  rw [slot_y hJ, bnd_s, win7_y hJ, bnp_s, if_pos one_ne, ck_t (inb_nI hK (by decide)), nI_clamp (show K < 2 ^ 31 by omega)]
  have mm2 : ∀ {A : Option (Int32 × Mem)} {B : Option (Int32 × Mem)}, A = (bnd (f_X5_refuse (-nI 2) t) fun r t => some (r, t)) → B = (bnd (f_X6_no (-nI 2) u) fun r t => some (r, t)) → ∃ r t' u', A = some (r, t') ∧ B = some (r, u') ∧ Rel t' u' := fun ha hb => by rw [ha, hb]; exact fin_no 2 h0 (by decide) (by decide)
  have mm3 : ∀ {A : Option (Int32 × Mem)} {B : Option (Int32 × Mem)}, A = (bnd (f_X5_refuse (-nI 3) t) fun r t => some (r, t)) → B = (bnd (f_X6_no (-nI 3) u) fun r t => some (r, t)) → ∃ r t' u', A = some (r, t') ∧ B = some (r, u') ∧ Rel t' u' := fun ha hb => by rw [ha, hb]; exact fin_no 3 h0 (by decide) (by decide)
  have cl2 : f_X5_rowsProblem (some ⟨K, hK⟩) (some ⟨J, hJ⟩) t = some (-2, t) → (bnd (f_X5_rowsProblem (some ⟨K, hK⟩) (some ⟨J, hJ⟩) t) fun r5 t6 => if ¬ r5 = 0 then (jn_X5_copy_37 (nI K) (nI J) x3 x4 x5 (some ⟨K, hK⟩) (some ⟨J, hJ⟩) r5 t6) else if 0 ≤ x5 then (jn_X5_copy_37 (nI K) (nI J) x3 x4 x5 (some ⟨K, hK⟩) (some ⟨J, hJ⟩) r5 t6) else jn_X5_copy_37 (nI K) (nI J) x3 x4 x5 (some ⟨K, hK⟩) (some ⟨J, hJ⟩) (-4) t6) = (bnd (f_X5_refuse (-nI 2) t) fun r t => some (r, t)) := fun h => by
    unfold jn_X5_copy_37 jn_X5_copy_69
    rw [h, bnd_s, if_pos (by decide), if_pos (by decide), if_neg (by decide)]
    rfl
  have cl3 : f_X5_rowsProblem (some ⟨K, hK⟩) (some ⟨J, hJ⟩) t = some (-3, t) → (bnd (f_X5_rowsProblem (some ⟨K, hK⟩) (some ⟨J, hJ⟩) t) fun r5 t6 => if ¬ r5 = 0 then (jn_X5_copy_37 (nI K) (nI J) x3 x4 x5 (some ⟨K, hK⟩) (some ⟨J, hJ⟩) r5 t6) else if 0 ≤ x5 then (jn_X5_copy_37 (nI K) (nI J) x3 x4 x5 (some ⟨K, hK⟩) (some ⟨J, hJ⟩) r5 t6) else jn_X5_copy_37 (nI K) (nI J) x3 x4 x5 (some ⟨K, hK⟩) (some ⟨J, hJ⟩) (-4) t6) = (bnd (f_X5_refuse (-nI 3) t) fun r t => some (r, t)) := fun h => by
    unfold jn_X5_copy_37 jn_X5_copy_69
    rw [h, bnd_s, if_pos (by decide), if_pos (by decide), if_neg (by decide)]
    rfl
  have i1 : inb (nI K) 8 = true := inb_nI hK (by decide)
  have i2 : inb (nI J) 8 = true := inb_nI hJ (by decide)
  have k1 : (nI K).toNatClampNeg = K := nI_clamp (by omega)
  have k2 : (nI J).toNatClampNeg = J := nI_clamp (by omega)
  have hm1 : ((-1 : Int32) < 0) := by decide
  rcases ho.1 K hK with ⟨a, b, c⟩ | ⟨p, hp, a, b, c⟩ | ⟨s, m, hs, hm', a, b, c, d, e, f⟩
  · -- nothing in the first
    have nk := isRow_n hK (u := u) (by rw [c]; decide)
    rcases ho.1 J hJ with ⟨a', b', c'⟩ | ⟨p', hp', a', b', c'⟩ | ⟨s', m', hs', hm2, a', b', c', d', e', f'⟩
    · refine mm3 (cl3 ?_) ?_
      · unfold f_X5_rowsProblem
        rw [nul_s, nul_s, hpl_n b, bnd_s, if_neg z_nn, hpl_n b', bnd_s, if_pos rfl, hrw_n a, bnd_s, if_pos rfl]
      · unfold jn_X6_copy_43 jn_X6_copy_60 jn_X6_copy_98
        rw [c, if_pos hm1, ck_t i2, k2, c', if_pos hm1, nk, bnd_s, if_pos rfl, ck_t i1, k1, c, if_pos hm1]
        rfl
    · refine mm2 (cl2 ?_) ?_
      · unfold f_X5_rowsProblem
        rw [nul_s, nul_s, hpl_n b, bnd_s, if_neg z_nn, hpl_y (by omega) b', bnd_s, if_neg one_ne]
      · unfold jn_X6_copy_43
        rw [c, if_pos hm1, ck_t i2, k2, c', if_neg (nI_nneg (by omega)), isRow_n hJ (by rw [c']; exact pl_100 (by omega)), bnd_s, if_pos rfl]
        rfl
    · refine mm3 (cl3 ?_) ?_
      · unfold f_X5_rowsProblem
        rw [nul_s, nul_s, hpl_n b, bnd_s, if_neg z_nn, hpl_n b', bnd_s, if_pos rfl, hrw_n a, bnd_s, if_pos rfl]
      · unfold jn_X6_copy_43 jn_X6_copy_60 jn_X6_copy_98
        rw [c, if_pos hm1, ck_t i2, k2, d', if_neg (nI_nneg (by omega)), isRow_y hJ (by rw [d']; exact rw_100 hs'), bnd_s, if_neg one_ne, nk, bnd_s, if_pos rfl, ck_t i1, k1, c, if_pos hm1]
        rfl
  · refine mm2 (cl2 ?_) ?_
    · unfold f_X5_rowsProblem
      rw [nul_s, nul_s, hpl_y (by omega) b, bnd_s, if_pos one_ne]
    · rw [c, if_neg (nI_nneg (by omega)), isRow_n hK (by rw [c]; exact pl_100 (by omega)), bnd_s, if_pos rfl]
      rfl
  · have nk := isRow_y hK (u := u) (by rw [d]; exact rw_100 hs)
    rw [d, if_neg (nI_nneg (by omega)), nk, bnd_s, if_neg one_ne]
    unfold jn_X6_copy_43
    rw [ck_t i2, k2]
    rcases ho.1 J hJ with ⟨a', b', c'⟩ | ⟨p', hp', a', b', c'⟩ | ⟨s', m', hs', hm2, a', b', c', d', e', f'⟩
    · refine mm3 (cl3 ?_) ?_
      · unfold f_X5_rowsProblem
        rw [nul_s, nul_s, hpl_n b, bnd_s, if_neg z_nn, hpl_n b', bnd_s, if_pos rfl, hrw_y (by omega) a, bnd_s, if_neg one_ne, hrw_n a', bnd_s, if_neg z_nn]
      · unfold jn_X6_copy_60 jn_X6_copy_98
        rw [c', if_pos hm1, nk, bnd_s, if_neg one_ne, isRow_n hJ (by rw [c']; decide), bnd_s, if_pos rfl, ck_t i1, k1, d, if_neg (nI_nneg (by omega)), ck_t i2, k2, c', if_neg (by decide)]
        rfl
    · refine mm2 (cl2 ?_) ?_
      · unfold f_X5_rowsProblem
        rw [nul_s, nul_s, hpl_n b, bnd_s, if_neg z_nn, hpl_y (by omega) b', bnd_s, if_neg one_ne]
      · rw [c', if_neg (nI_nneg (by omega)), isRow_n hJ (by rw [c']; exact pl_100 (by omega)), bnd_s, if_pos rfl]
        rfl
    · rw [d', if_neg (nI_nneg (by omega)), isRow_y hJ (by rw [d']; exact rw_100 hs'), bnd_s, if_neg one_ne]
      unfold jn_X6_copy_60
      rw [nk, bnd_s, if_neg one_ne, isRow_y hJ (by rw [d']; exact rw_100 hs'), bnd_s, if_neg one_ne, ck_t i1, ck_t i2, k1, k2, d, d']
      by_cases es : s = s'
      · subst es
        have rp : f_X5_rowsProblem (some ⟨K, hK⟩) (some ⟨J, hJ⟩) t = some (0, t) := by
          unfold f_X5_rowsProblem
          rw [nul_s, nul_s, hpl_n b, bnd_s, if_neg z_nn, hpl_n b', bnd_s, if_pos rfl, hrw_y (by omega) a, bnd_s, if_neg one_ne, hrw_y (by omega) a', bnd_s, if_pos one_ne, if_neg (fun h => h (a.trans a'.symm))]
        rw [rp, bnd_s, if_neg z_nn, if_pos rfl]
        unfold jn_X6_copy_98 jn_X5_copy_37
        rw [ck_t i1, k1, d, if_neg (nI_nneg (by omega)), ck_t i2, k2, d', if_pos (show (0 : Int32) ≤ nI (100 + s) from Int32.not_lt.mp (nI_nneg (by omega)))]
        unfold jn_X5_copy_65 jn_X5_copy_69 jn_X6_copy_179 jn_X6_copy_248
        by_cases h5 : 0 ≤ x5
        rotate_left
        · rw [if_neg h5, if_neg h5, if_pos (by decide), if_neg (by decide)]
          exact fin_no 4 h0 (by decide) (by decide)
        rw [if_pos h5, if_pos h5, if_neg z_nn, nn_s]
        by_cases h3 : x3 < 0
        · rw [hasE_z h3, bnd_s, if_pos rfl, if_neg (by decide), if_pos h3]
          exact fin_no 5 h0 (by decide) (by decide)
        obtain ⟨α, hα, rfl⟩ := as_nat' h3
        obtain ⟨β, hβ, rfl⟩ := as_nat' (Int32.not_lt.mpr h5)
        rw [if_neg h3, hasE_i hα hβ hm' c, bnd_s, ck_t i1, e]
        by_cases g1 : α + β ≤ m
        rotate_left
        · rw [if_neg g1, if_pos rfl, if_neg (by decide), if_pos ((lg_cmp_gt _ _).mpr (Int64.not_le.mp (fun h => g1 ((lsum hα hβ (by omega)).mp h))))]
          by_cases h4 : x4 < 0
          · rw [if_pos h4]
            exact fin_no 5 h0 (by decide) (by decide)
          · rw [if_neg h4]
            exact fin_no 5 h0 (by decide) (by decide)
        rw [if_pos g1, if_neg one_ne, nn_s, if_neg (fun h => Int64.not_le.mpr ((lg_cmp_gt _ _).mp h) ((lsum hα hβ (by omega)).mpr g1)), ck_t i2, e']
        by_cases h4 : x4 < 0
        · rw [hasE_z h4, bnd_s, if_neg z_nn, if_neg (by decide), if_pos h4]
          exact fin_no 5 h0 (by decide) (by decide)
        obtain ⟨γ, hγ, rfl⟩ := as_nat' h4
        rw [if_neg h4, hasE_i hγ hβ hm2 c', bnd_s]
        by_cases g2 : γ + β ≤ m'
        rotate_left
        · rw [if_neg g2, if_neg z_nn, if_neg (by decide), if_neg (fun h => g2 ((lsum hγ hβ (by omega)).mp ((lg_cmp_le _ _).mp h)))]
          exact fin_no 5 h0 (by decide) (by decide)
        rw [if_pos g2, if_pos one_ne, if_pos rfl, nn_s, nn_s, nI_clamp hα, nI_clamp hβ, nI_clamp hγ, ck_t (decide_eq_true ⟨h3, h4, Int32.not_lt.mpr h5, by omega, by omega⟩), ltm_s, if_pos ((lg_cmp_le _ _).mpr ((lsum hγ hβ (by omega)).mpr g2))]
        have fin := cp_rel (a := α) (b := γ) (m := β) hK hJ hl hm ok ho (by omega) (by omega) f hs' hm2 ⟨a', b', c', d', e', f'⟩
        by_cases q1 : K = J
        · subst q1
          rw [if_neg (fun h => h rfl)]
          by_cases q2 : γ ≤ α
          · rw [if_pos (by rw [nI_le' hγ hα]; exact q2), mcp_up (by omega) (by omega) hK hK (by omega) (by omega) (.inr q2)]
            exact ⟨_, _, _, rfl, rfl, fin⟩
          · rw [if_neg (by rw [nI_le' hγ hα]; exact q2), mcp_dn (by omega) (by omega) hK (by omega) (by omega) (by omega)]
            exact ⟨_, _, _, rfl, rfl, fin⟩
        · rw [if_pos (nI_ne (by omega) (by omega) q1), mcp_up (by omega) (by omega) hK hJ (by omega) (by omega) (.inl q1)]
          exact ⟨_, _, _, rfl, rfl, fin⟩
      · rw [if_neg (fun h => es (by have := (nI_eq (by omega) (by omega)).mp h; omega))]
        refine mm2 (cl2 ?_) rfl
        unfold f_X5_rowsProblem
        rw [nul_s, nul_s, hpl_n b, bnd_s, if_neg z_nn, hpl_n b', bnd_s, if_pos rfl, hrw_y (by omega) a, bnd_s, if_neg one_ne, hrw_y (by omega) a', bnd_s, if_pos one_ne, if_pos (show ¬ t.1 (18 + K) 2 = t.1 (18 + J) 2 by rw [a, a']; exact nI_ne (by omega) (by omega) es)]
