/-! layer 2: a new row -/
def fil (t : Mem) (o b i : Nat) : Mem := uB t o (fun j => if b ≤ j ∧ j < b + i then 0 else t.2 o j)
theorem fil_0 (t : Mem) (o b : Nat) : fil t o b 0 = t := by
  refine Prod.ext rfl (funext fun k => funext fun j => ?_)
  show (if k = o then _ else t.2 k) j = t.2 k j
  by_cases e : k = o
  · rw [if_pos e, e]
    show (if b ≤ j ∧ j < b + 0 then 0 else t.2 o j) = _
    rw [if_neg (by omega)]
  · rw [if_neg e]
theorem fil_s (t : Mem) (o b i : Nat) : uL (fil t o b i) o (b + i) 0 = fil t o b (i + 1) := by
  refine Prod.ext rfl (funext fun k => funext fun j => ?_)
  by_cases e : k = o
  · rw [e]
    unfold uL fil
    rw [uB_same, uB_same, uB_same]
    by_cases e2 : j = b + i
    · rw [e2, updL_same, if_pos (by omega)]
    · rw [updL_ne _ e2]
      by_cases e3 : b ≤ j ∧ j < b + i
      · rw [if_pos e3, if_pos (by omega)]
      · rw [if_neg e3, if_neg (by omega)]
  · unfold uL fil
    rw [uB_ne _ e, uB_ne _ e, uB_ne _ e]
theorem as_nat {x : Int32} (c : Nat) (hc : c < 2 ^ 31) (h1 : ¬ x < 0) (h2 : x ≤ nI c) : ∃ j, j ≤ c ∧ x = nI j := by
  rw [i_lt] at h1
  rw [i_le, nI_toInt hc] at h2
  have : (0 : Int32).toInt = 0 := rfl
  obtain ⟨j, ej⟩ : ∃ j : Nat, x.toInt = j := ⟨x.toInt.toNat, by omega⟩
  exact ⟨j, by omega, Int32.toInt_inj.mp (by rw [nI_toInt (by omega)]; exact ej)⟩
theorem fill_y {t : Mem} {K : Fin 8} {n : Nat} (hn : 160 < n) : f_J7_fill_d0a16 n K 0 t = some ((), fil t (26 + K.val) 0 160) := by
  unfold f_J7_fill_d0a16
  refine iter_up0 160 (fun i => (nI i, nI 160, fil t (26 + K.val) 0 i)) _ (by rw [fil_0]; rfl) hn ?_ ?_
  · intro self i hi
    show (if nI 160 ≤ nI i then _ else ck (inb (nI i) 160) (lt (uL (fil t (26 + K.val) 0 i) (oEl K) (nI i).toNatClampNeg 0) fun t3 => self ((nI i + 1), nI 160, t3))) = _
    rw [if_neg (by rw [nI_le' (by omega) (by omega)]; omega), ck_t (inb_nI hi (by decide)), ltm_s, nI_clamp (by omega), show (1 : Int32) = nI 1 from rfl, nI_add]
    have := fil_s t (26 + K.val) 0 i
    rw [Nat.zero_add] at this
    rw [show oEl K = 26 + K.val from rfl, this]
  · intro self
    unfold bd_J7_fill_d0a16_6
    dsimp only
    rw [if_pos (by decide)]
theorem mfill_y {u : Mem} {K : Nat} {n : Nat} {x2 x3 : Int32} (hK : K < 8) (hn : 160 < n) : iter (bd_X6_row_77 n (nI K) x2 x3) n (0, u) = some (1, fil u 42 (160 * K) 160) := by
  refine iter_up0 160 (fun i => (nI i, fil u 42 (160 * K) i)) _ (by rw [fil_0]; rfl) hn ?_ ?_
  · intro self i hi
    show (if nI 160 ≤ nI i then _ else ck (inb (160 * nI K + nI i) 1280) (lt (uL (fil u 42 (160 * K) i) 42 (160 * nI K + nI i).toNatClampNeg 0) fun t3 => self ((nI i + 1), t3))) = _
    rw [if_neg (by rw [nI_le' (by omega) (by omega)]; omega), ix160, ck_t (inb_nI (by omega) (by decide)), ltm_s, nI_clamp (by omega), show (1 : Int32) = nI 1 from rfl, nI_add, fil_s]
  · intro self
    unfold bd_X6_row_77
    dsimp only
    rw [if_pos (by decide)]
theorem fil_1 (t : Mem) (o b i : Nat) : (fil t o b i).1 = t.1 := rfl
theorem row_rel {t u : Mem} {K s m : Nat} {S : Ld} (hK : K < 8) (hs : s ≤ 3) (hm' : m ≤ 160) (hl : isLd t 0 S) (hm : isMd u S) (ok : okLd S) (h : Oth (Sc S) t u) : Rel (fil (uI (uI (uI t (18 + K) 3 (-1)) (18 + K) 2 (nI s)) (18 + K) 1 (nI m)) (26 + K) 0 160) (fil (uI (uI u 40 K (nI (100 + s))) 41 K (nI m)) 42 (160 * K) 160) := by
  refine Rel.shelf (K := K) hl hm ok h ?_ (fun o ho => uB_ne _ ho) hK ?_ ?_ ?_ ?_
  · intro o ho
    rw [fil_1]
    unfold uI
    rw [uA_ne _ ho, uA_ne _ ho, uA_ne _ ho]
  · intro o ho
    rw [fil_1]
    unfold uI
    rw [uA_ne _ (by simp_all), uA_ne _ (by simp_all)]
  · intro j hj
    rw [fil_1]
    unfold uI
    rw [uA_ne _ (by decide), uA_same, uA_same, uA_ne _ (by decide), upd_ne _ hj, upd_ne _ hj]
    exact ⟨rfl, rfl⟩
  · intro j hj
    unfold fil
    rw [uB_same, if_neg hj]
    rfl
  · refine .inr (.inr ⟨s, m, hs, hm', ?_, ?_, ?_, ?_, ?_, ?_⟩)
    · rw [fil_1]
      unfold uI
      rw [uA_same, upd_ne _ (by decide), uA_same, upd_same]
    · rw [fil_1]
      unfold uI
      rw [uA_same, upd_ne _ (by decide), uA_same, upd_ne _ (by decide), uA_same, upd_same]
    · rw [fil_1]
      unfold uI
      rw [uA_same, upd_same]
    · rw [fil_1]
      unfold uI
      rw [uA_ne _ (by decide), uA_same, upd_same]
    · rw [fil_1]
      unfold uI
      rw [uA_same, upd_same]
    · intro i hi
      unfold fil
      rw [uB_same, uB_same, if_pos (by omega), if_pos (by omega)]
theorem stp0 {n : Nat} (hn : 160 < n) : Stp0 Rel n := fun t u x1 x2 x3 h0 => by
  obtain ⟨S, hl, hm, ok, ho⟩ := id h0
  unfold f_X5_row f_X6_row jn_X5_row_38
  rcases e1 : plc 8 x1 with _ | K
  · rw [slot_n e1, bnd_s, nul_n, win7_n e1, bnp_s, if_neg z_nn]
    exact fin_no 1 h0 (by decide) (by decide)
  obtain ⟨rfl, hK⟩ := plc_some e1
  rw [slot_y hK, bnd_s, nul_s, win7_y hK, bnp_s, if_pos one_ne]
  by_cases e2 : 0 ≤ x3
  · rw [if_pos e2, if_pos e2]
    by_cases e3 : x2 < 0
    · rw [if_pos e3, win_n (.inl e3), bnp_s, if_neg z_nn]
      exact fin_no 6 h0 (by decide) (by decide)
    rw [if_neg e3]
    by_cases e4 : x2 ≤ 3
    · rw [if_pos e4, win_y e3 (Int32.not_lt.mpr e4), bnp_s, if_pos one_ne]
      by_cases e5 : x3 ≤ 160
      · obtain ⟨s, hs, rfl⟩ := as_nat 3 (by decide) e3 e4
        obtain ⟨m, hm', rfl⟩ := as_nat 160 (by decide) (Int32.not_lt.mpr e2) e5
        rw [if_pos e5, if_pos e5, ck_t (inb_nI hK (by decide)), ltm_s, ck_t (inb_nI hK (by decide)), ltm_s, mfill_y hK hn, nI_clamp (by omega), show (100 : Int32) = nI 100 from rfl, nI_add]
        unfold f_X4_takeRow
        rw [ltm_s, ltm_s, ltm_s, fill_y hn, bnd_s, bnd_s]
        exact ⟨_, _, _, rfl, rfl, row_rel hK hs hm' hl hm ok ho⟩
      · rw [if_neg e5, if_neg e5]
        exact fin_no 7 h0 (by decide) (by decide)
    · rw [if_neg e4, win_n (.inr (Int32.not_le.mp e4)), bnp_s, if_neg z_nn]
      exact fin_no 6 h0 (by decide) (by decide)
  · rw [if_neg e2, if_neg e2]
    exact fin_no 4 h0 (by decide) (by decide)
