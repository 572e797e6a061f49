theorem mi_X6_no : MI yX6_no cX6_no 2 (some .int) "MillOfDistancesModel" 1 := ⟨(gm mw_941 rfl), (gm mw_940 rfl), (gm mw_25 rfl), (gm mw_75 rfl), by decide +kernel, by decide⟩
theorem c_X6_no {l : Launch} {D : va_G} {ad : Nat → Nat} {g : Gv} {t u : Mem} {x1 : Int32} {u' : Mem} {r : Int32} (hJ : Jad ad) (h : f_X6_no x1 u = some (r, u')) : ConI l yX6_no cX6_no 2 (some .int) 0 [.ref (ad 39), .int x1] D ad g t u t u' r := by
  refine con_i hJ (by decide) (Nat.le_of_ble_eq_true rfl) rfl (fun X F E => ?_)
  refine g_lv (lv' := [(0, .ref (ad 39)), (1, .int x1)]) rfl ?_
  unfold f_X6_no at h
  refine g_aload_n F (dAt dk_X6_no 0 rfl) 0 rfl ?_
  refine gg_Model_refusals F (gm mw_875 rfl) (dAt dk_X6_no 1 rfl) ?_
  refine g_iload_n F (dAt dk_X6_no 2 rfl) 1 rfl ?_
  refine g_ineg F (dAt dk_X6_no 3 rfl) ?_
  refine g_dup2 F (dAt dk_X6_no 4 rfl) rfl rfl ?_
  refine g_ck h (fun hi1 h => ?_)
  refine g_ialoadm F am_refusals (dAt dk_X6_no 5 rfl) hi1 ?_
  refine g_iconst (v := 1) F (dAt dk_X6_no 6 rfl) (by decide) ?_
  refine g_iadd F (dAt dk_X6_no 7 rfl) ?_
  refine g_ck h (fun hi2 h => ?_)
  refine g_iastorem F am_refusals (dAt dk_X6_no 8 rfl) hi2 ?_
  refine g_ltu h (fun t3 h => ?_)
  refine g_iload_n F (dAt dk_X6_no 9 rfl) 1 rfl ?_
  cases h
  exact E (dAt dk_X6_no 10 rfl) rfl
theorem mi_X6_no10 : MI yX6_no10 cX6_no10 2 (some .int) "MillOfDistancesModel" 1 := ⟨(gm mw_1021 rfl), (gm mw_1020 rfl), (gm mw_33 rfl), (gm mw_75 rfl), by decide +kernel, by decide⟩
theorem c_X6_no10 {l : Launch} {D : va_G} {ad : Nat → Nat} {g : Gv} {t u : Mem} {x1 : Int32} {u' : Mem} {r : Int32} (hJ : Jad ad) (h : f_X6_no10 x1 u = some (r, u')) : ConI l yX6_no10 cX6_no10 2 (some .int) 0 [.ref (ad 39), .int x1] D ad g t u t u' r := by
  refine con_i hJ (by decide) (Nat.le_of_ble_eq_true rfl) rfl (fun X F E => ?_)
  refine g_lv (lv' := [(0, .ref (ad 39)), (1, .int x1)]) rfl ?_
  unfold f_X6_no10 at h
  refine g_aload_n F (dAt dk_X6_no10 0 rfl) 0 rfl ?_
  refine gg_Model_refusals F (gm mw_875 rfl) (dAt dk_X6_no10 1 rfl) ?_
  refine g_iload_n F (dAt dk_X6_no10 2 rfl) 1 rfl ?_
  refine g_ineg F (dAt dk_X6_no10 3 rfl) ?_
  refine g_dup2 F (dAt dk_X6_no10 4 rfl) rfl rfl ?_
  refine g_ck h (fun hi1 h => ?_)
  refine g_ialoadm F am_refusals (dAt dk_X6_no10 5 rfl) hi1 ?_
  refine g_iconst (v := 1) F (dAt dk_X6_no10 6 rfl) (by decide) ?_
  refine g_iadd F (dAt dk_X6_no10 7 rfl) ?_
  refine g_ck h (fun hi2 h => ?_)
  refine g_iastorem F am_refusals (dAt dk_X6_no10 8 rfl) hi2 ?_
  refine g_ltu h (fun t3 h => ?_)
  refine g_iload_n F (dAt dk_X6_no10 9 rfl) 1 rfl ?_
  refine g_bipush (v := 10) F (dAt dk_X6_no10 10 rfl) (by decide) ?_
  refine g_isub F (dAt dk_X6_no10 11 rfl) ?_
  cases h
  exact E (dAt dk_X6_no10 12 rfl) rfl
theorem ms_X6_within : MS yX6_within cX6_within 3 (some .boolean) 3 := ⟨(gm mw_937 rfl), (gm mw_936 rfl), (gm mw_75 rfl), by decide +kernel, by decide⟩
theorem c_X6_within {l : Launch} {D : va_G} {ad : Nat → Nat} {g : Gv} {t u : Mem} {x0 : Int32} {x1 : Int32} {x2 : Int32} {r : Int32} (hJ : Jad ad) (h : f_X6_within x0 x1 x2 = some r) : ConI l yX6_within cX6_within 3 (some .boolean) 0 [.int x0, .int x1, .int x2] D ad g t u t u r := by
  refine con_i hJ (by decide) (Nat.le_of_ble_eq_true rfl) rfl (fun X F E => ?_)
  refine g_lv (lv' := [(0, .int x0), (1, .int x1), (2, .int x2)]) rfl ?_
  unfold f_X6_within at h
  refine g_iload_n F (dAt dk_X6_within 0 rfl) 0 rfl ?_
  refine g_iload_n F (dAt dk_X6_within 1 rfl) 1 rfl ?_
  refine g_icmp_lt (tgt := 14) F (dAt dk_X6_within 2 rfl) (by decide) h (fun c1 h => ?_) (fun c1 h => ?_)
  · refine g_iconst (v := 0) F (dAt dk_X6_within 8 rfl) (by decide) ?_
    cases h
    exact E (dAt dk_X6_within 9 rfl) rfl
  · refine g_iload_n F (dAt dk_X6_within 3 rfl) 0 rfl ?_
    refine g_iload_n F (dAt dk_X6_within 4 rfl) 2 rfl ?_
    refine g_icmp_gt (tgt := 14) F (dAt dk_X6_within 5 rfl) (by decide) h (fun c2 h => ?_) (fun c2 h => ?_)
    · refine g_iconst (v := 0) F (dAt dk_X6_within 8 rfl) (by decide) ?_
      cases h
      exact E (dAt dk_X6_within 9 rfl) rfl
    · refine g_iconst (v := 1) F (dAt dk_X6_within 6 rfl) (by decide) ?_
      refine g_goto (tgt := 15) F (dAt dk_X6_within 7 rfl) (by decide) ?_
      cases h
      exact E (dAt dk_X6_within 9 rfl) rfl
theorem ms_X6_has : MS yX6_has cX6_has 2 (some .boolean) 2 := ⟨(gm mw_1152 rfl), (gm mw_1151 rfl), (gm mw_75 rfl), by decide +kernel, by decide⟩
theorem c_X6_has {l : Launch} {D : va_G} {ad : Nat → Nat} {g : Gv} {t u : Mem} {x0 : Int32} {x1 : Int32} {r : Int32} (hJ : Jad ad) (h : f_X6_has x0 x1 = some r) : ConI l yX6_has cX6_has 2 (some .boolean) 0 [.int x0, .int x1] D ad g t u t u r := by
  refine con_i hJ (by decide) (Nat.le_of_ble_eq_true rfl) rfl (fun X F E => ?_)
  refine g_lv (lv' := [(0, .int x0), (1, .int x1)]) rfl ?_
  unfold f_X6_has at h
  refine g_iload_n F (dAt dk_X6_has 0 rfl) 0 rfl ?_
  refine g_iload_n F (dAt dk_X6_has 1 rfl) 1 rfl ?_
  refine g_ishr F (dAt dk_X6_has 2 rfl) ?_
  refine g_iconst (v := 1) F (dAt dk_X6_has 3 rfl) (by decide) ?_
  refine g_iand F (dAt dk_X6_has 4 rfl) ?_
  refine g_iconst (v := 1) F (dAt dk_X6_has 5 rfl) (by decide) ?_
  refine g_icmp_ne (tgt := 13) F (dAt dk_X6_has 6 rfl) (by decide) h (fun c1 h => ?_) (fun c1 h => ?_)
  · refine g_iconst (v := 0) F (dAt dk_X6_has 9 rfl) (by decide) ?_
    cases h
    exact E (dAt dk_X6_has 10 rfl) rfl
  · refine g_iconst (v := 1) F (dAt dk_X6_has 7 rfl) (by decide) ?_
    refine g_goto (tgt := 14) F (dAt dk_X6_has 8 rfl) (by decide) ?_
    cases h
    exact E (dAt dk_X6_has 10 rfl) rfl
theorem mi_X6_isPlace : MI yX6_isPlace cX6_isPlace 2 (some .boolean) "MillOfDistancesModel" 1 := ⟨(gm mw_969 rfl), (gm mw_968 rfl), (gm mw_28 rfl), (gm mw_75 rfl), by decide +kernel, by decide⟩
theorem c_X6_isPlace {l : Launch} {D : va_G} {ad : Nat → Nat} {g : Gv} {t u : Mem} {x1 : Int32} {u' : Mem} {r : Int32} (hJ : Jad ad) (h : f_X6_isPlace x1 u = some (r, u')) : ConI l yX6_isPlace cX6_isPlace 2 (some .boolean) 1 [.ref (ad 39), .int x1] D ad g t u t u' r := by
  refine con_i hJ (by decide) (Nat.le_of_ble_eq_true rfl) rfl (fun X F E => ?_)
  refine g_lv (lv' := [(0, .ref (ad 39)), (1, .int x1)]) rfl ?_
  unfold f_X6_isPlace at h
  refine g_iload_n F (dAt dk_X6_isPlace 0 rfl) 1 rfl ?_
  refine g_iconst (v := 0) F (dAt dk_X6_isPlace 1 rfl) (by decide) ?_
  refine g_aload_n F (dAt dk_X6_isPlace 2 rfl) 0 rfl ?_
  refine gg_Model_places F (gm mw_867 rfl) (dAt dk_X6_isPlace 3 rfl) ?_
  refine g_iconst (v := 1) F (dAt dk_X6_isPlace 4 rfl) (by decide) ?_
  refine g_isub F (dAt dk_X6_isPlace 5 rfl) ?_
  refine g_invS_ip F ms_X6_within (gm mw_935 rfl) (dAt dk_X6_isPlace 6 rfl) [.int x1, .int 0, .int ((u.1 39 3) - 1)] rfl rfl (by decide) (Nat.le_of_ble_eq_true rfl) h (fun _ hf => c_X6_within hJ hf) (fun r1 h => ?_)
  refine g_ck h (fun hz2 h => ?_)
  cases h
  exact E (dAt dk_X6_isPlace 7 rfl) (nB hz2)
theorem mi_X6_isRow : MI yX6_isRow cX6_isRow 2 (some .boolean) "MillOfDistancesModel" 1 := ⟨(gm mw_953 rfl), (gm mw_952 rfl), (gm mw_27 rfl), (gm mw_75 rfl), by decide +kernel, by decide⟩
theorem c_X6_isRow {l : Launch} {D : va_G} {ad : Nat → Nat} {g : Gv} {t u : Mem} {x1 : Int32} {u' : Mem} {r : Int32} (hJ : Jad ad) (h : f_X6_isRow x1 u = some (r, u')) : ConI l yX6_isRow cX6_isRow 2 (some .boolean) 0 [.ref (ad 39), .int x1] D ad g t u t u' r := by
  refine con_i hJ (by decide) (Nat.le_of_ble_eq_true rfl) rfl (fun X F E => ?_)
  refine g_lv (lv' := [(0, .ref (ad 39)), (1, .int x1)]) rfl ?_
  unfold f_X6_isRow at h
  refine g_aload_n F (dAt dk_X6_isRow 0 rfl) 0 rfl ?_
  refine gg_Model_holding F (gm mw_864 rfl) (dAt dk_X6_isRow 1 rfl) ?_
  refine g_iload_n F (dAt dk_X6_isRow 2 rfl) 1 rfl ?_
  refine g_ck h (fun hi1 h => ?_)
  refine g_ialoadm F am_holding (dAt dk_X6_isRow 3 rfl) hi1 ?_
  refine g_bipush (v := 100) F (dAt dk_X6_isRow 4 rfl) (by decide) ?_
  refine g_icmp_lt (tgt := 15) F (dAt dk_X6_isRow 5 rfl) (by decide) h (fun c2 h => ?_) (fun c2 h => ?_)
  · refine g_iconst (v := 0) F (dAt dk_X6_isRow 8 rfl) (by decide) ?_
    cases h
    exact E (dAt dk_X6_isRow 9 rfl) rfl
  · refine g_iconst (v := 1) F (dAt dk_X6_isRow 6 rfl) (by decide) ?_
    refine g_goto (tgt := 16) F (dAt dk_X6_isRow 7 rfl) (by decide) ?_
    cases h
    exact E (dAt dk_X6_isRow 9 rfl) rfl
theorem mi_X6_row : MI yX6_row cX6_row 5 (some .int) "MillOfDistancesModel" 3 := ⟨(gm mw_934 rfl), (gm mw_932 rfl), (gm mw_933 rfl), (gm mw_75 rfl), by decide +kernel, by decide⟩
theorem c_X6_row {l : Launch} {D : va_G} {ad : Nat → Nat} {g : Gv} {t u : Mem} {n : Nat} {x1 : Int32} {x2 : Int32} {x3 : Int32} {u' : Mem} {r : Int32} (hJ : Jad ad) (h : f_X6_row n x1 x2 x3 u = some (r, u')) : ConI l yX6_row cX6_row 5 (some .int) 1 [.ref (ad 39), .int x1, .int x2, .int x3] D ad g t u t u' r := by
  refine con_i hJ (by decide) (Nat.le_of_ble_eq_true rfl) rfl (fun X F E => ?_)
  have H77 : ∀ (k : Nat) (s : Int32 × Mem), iter (bd_X6_row_77 n x1 x2 x3) k s = some (r, u') → G X D ad g t s.2 [(0, .ref (ad 39)), (1, .int x1), (4, .int s.1)] 77 [] := by
    refine iter_walk (P := fun (s : Int32 × Mem) => G X D ad g t s.2 [(0, .ref (ad 39)), (1, .int x1), (4, .int s.1)] 77 []) (fun self77 ih77 s h => ?_)
    obtain ⟨v4, u0⟩ := s
    change G X D ad g t u0 [(0, .ref (ad 39)), (1, .int x1), (4, .int v4)] 77 []
    unfold bd_X6_row_77 at h; try dsimp only at h
    refine g_iload F (dAt dk_X6_row 45 rfl) 2 rfl ?_
    refine g_sipush (v := 160) F (dAt dk_X6_row 46 rfl) (by decide) ?_
    refine g_icmp_ge (tgt := 105) F (dAt dk_X6_row 47 rfl) (by decide) h (fun c19 h => ?_) (fun c19 h => ?_)
    · refine g_iconst (v := 1) F (dAt dk_X6_row 59 rfl) (by decide) ?_
      cases h
      exact E (dAt dk_X6_row 60 rfl) rfl
    · refine g_aload_n F (dAt dk_X6_row 48 rfl) 0 rfl ?_
      refine gg_Model_rowOf F (gm mw_866 rfl) (dAt dk_X6_row 49 rfl) ?_
      refine g_sipush (v := 160) F (dAt dk_X6_row 50 rfl) (by decide) ?_
      refine g_iload_n F (dAt dk_X6_row 51 rfl) 1 rfl ?_
      refine g_imul F (dAt dk_X6_row 52 rfl) ?_
      refine g_iload F (dAt dk_X6_row 53 rfl) 2 rfl ?_
      refine g_iadd F (dAt dk_X6_row 54 rfl) ?_
      refine g_lconst (v := 0) F (dAt dk_X6_row 55 rfl) (by decide) ?_
      refine g_ck h (fun hi20 h => ?_)
      refine g_lastorem F am_rowOf (dAt dk_X6_row 56 rfl) hi20 ?_
      refine g_ltu h (fun t21 h => ?_)
      refine g_iinc (lv' := [(4, .int (v4 + 1)), (0, .ref (ad 39)), (1, .int x1)]) F (dAt dk_X6_row 57 rfl) 2 rfl (w := 1) (by decide) (by decide) rfl ?_
      refine g_goto (tgt := 77) F (dAt dk_X6_row 58 rfl) (by decide) ?_
      refine g_sub (lv' := [(0, .ref (ad 39)), (1, .int x1), (4, .int (v4 + 1))]) [1, 2, 0] rfl ?_
      exact ih77 ((v4 + 1), t21) h
  refine g_lv (lv' := [(0, .ref (ad 39)), (1, .int x1), (2, .int x2), (3, .int x3)]) rfl ?_
  unfold f_X6_row at h
  refine g_iload_n F (dAt dk_X6_row 0 rfl) 1 rfl ?_
  refine g_iconst (v := 0) F (dAt dk_X6_row 1 rfl) (by decide) ?_
  refine g_bipush (v := 7) F (dAt dk_X6_row 2 rfl) (by decide) ?_
  refine g_invS_ip F ms_X6_within (gm mw_935 rfl) (dAt dk_X6_row 3 rfl) [.int x1, .int 0, .int 7] rfl rfl (by decide) (Nat.le_of_ble_eq_true rfl) h (fun _ hf => c_X6_within hJ hf) (fun r1 h => ?_)
  refine g_if_ne (tgt := 16) F (dAt dk_X6_row 4 rfl) (by decide) h (fun c2 h => ?_) (fun c2 h => ?_)
  · refine g_iload_n F (dAt dk_X6_row 9 rfl) 3 rfl ?_
    refine g_if_ge (tgt := 27) F (dAt dk_X6_row 10 rfl) (by decide) h (fun c3 h => ?_) (fun c3 h => ?_)
    · refine g_iload_n F (dAt dk_X6_row 15 rfl) 2 rfl ?_
      refine g_iconst (v := 0) F (dAt dk_X6_row 16 rfl) (by decide) ?_
      refine g_iconst (v := 3) F (dAt dk_X6_row 17 rfl) (by decide) ?_
      refine g_invS_ip F ms_X6_within (gm mw_935 rfl) (dAt dk_X6_row 18 rfl) [.int x2, .int 0, .int 3] rfl rfl (by decide) (Nat.le_of_ble_eq_true rfl) h (fun _ hf => c_X6_within hJ hf) (fun r4 h => ?_)
      refine g_if_ne (tgt := 43) F (dAt dk_X6_row 19 rfl) (by decide) h (fun c5 h => ?_) (fun c5 h => ?_)
      · refine g_iload_n F (dAt dk_X6_row 24 rfl) 3 rfl ?_
        refine g_sipush (v := 160) F (dAt dk_X6_row 25 rfl) (by decide) ?_
        refine g_icmp_le (tgt := 57) F (dAt dk_X6_row 26 rfl) (by decide) h (fun c6 h => ?_) (fun c6 h => ?_)
        · refine g_aload_n F (dAt dk_X6_row 31 rfl) 0 rfl ?_
          refine gg_Model_holding F (gm mw_864 rfl) (dAt dk_X6_row 32 rfl) ?_
          refine g_iload_n F (dAt dk_X6_row 33 rfl) 1 rfl ?_
          refine g_bipush (v := 100) F (dAt dk_X6_row 34 rfl) (by decide) ?_
          refine g_iload_n F (dAt dk_X6_row 35 rfl) 2 rfl ?_
          refine g_iadd F (dAt dk_X6_row 36 rfl) ?_
          refine g_ck h (fun hi7 h => ?_)
          refine g_iastorem F am_holding (dAt dk_X6_row 37 rfl) hi7 ?_
          refine g_ltu h (fun t8 h => ?_)
          refine g_aload_n F (dAt dk_X6_row 38 rfl) 0 rfl ?_
          refine gg_Model_rowLength F (gm mw_865 rfl) (dAt dk_X6_row 39 rfl) ?_
          refine g_iload_n F (dAt dk_X6_row 40 rfl) 1 rfl ?_
          refine g_iload_n F (dAt dk_X6_row 41 rfl) 3 rfl ?_
          refine g_ck h (fun hi9 h => ?_)
          refine g_iastorem F am_rowLength (dAt dk_X6_row 42 rfl) hi9 ?_
          refine g_ltu h (fun t10 h => ?_)
          refine g_iconst (v := 0) F (dAt dk_X6_row 43 rfl) (by decide) ?_
          refine g_istore (lv' := [(4, .int 0), (0, .ref (ad 39)), (1, .int x1), (2, .int x2), (3, .int x3)]) F (dAt dk_X6_row 44 rfl) (by decide) rfl ?_
          refine g_sub (lv' := [(0, .ref (ad 39)), (1, .int x1), (4, .int 0)]) [1, 2, 0] rfl ?_
          exact H77  n (0, t10) h
        · refine g_aload_n F (dAt dk_X6_row 27 rfl) 0 rfl ?_
          refine g_bipush (v := (-7)) F (dAt dk_X6_row 28 rfl) (by decide) ?_
          refine g_invV_im F mi_X6_no (gm mw_938 rfl) (dAt dk_X6_row 29 rfl) (rcx_of F rc_Model) [.int (-7)] rfl rfl (by decide) (Nat.le_of_ble_eq_true rfl) h (fun _ _ hf => c_X6_no hJ hf) (fun r11 t12 h => ?_)
          cases h
          exact E (dAt dk_X6_row 30 rfl) rfl
      · refine g_aload_n F (dAt dk_X6_row 20 rfl) 0 rfl ?_
        refine g_bipush (v := (-6)) F (dAt dk_X6_row 21 rfl) (by decide) ?_
        refine g_invV_im F mi_X6_no (gm mw_938 rfl) (dAt dk_X6_row 22 rfl) (rcx_of F rc_Model) [.int (-6)] rfl rfl (by decide) (Nat.le_of_ble_eq_true rfl) h (fun _ _ hf => c_X6_no hJ hf) (fun r13 t14 h => ?_)
        cases h
        exact E (dAt dk_X6_row 23 rfl) rfl
    · refine g_aload_n F (dAt dk_X6_row 11 rfl) 0 rfl ?_
      refine g_bipush (v := (-4)) F (dAt dk_X6_row 12 rfl) (by decide) ?_
      refine g_invV_im F mi_X6_no (gm mw_938 rfl) (dAt dk_X6_row 13 rfl) (rcx_of F rc_Model) [.int (-4)] rfl rfl (by decide) (Nat.le_of_ble_eq_true rfl) h (fun _ _ hf => c_X6_no hJ hf) (fun r15 t16 h => ?_)
      cases h
      exact E (dAt dk_X6_row 14 rfl) rfl
  · refine g_aload_n F (dAt dk_X6_row 5 rfl) 0 rfl ?_
    refine g_iconst (v := (-1)) F (dAt dk_X6_row 6 rfl) (by decide) ?_
    refine g_invV_im F mi_X6_no (gm mw_938 rfl) (dAt dk_X6_row 7 rfl) (rcx_of F rc_Model) [.int (-1)] rfl rfl (by decide) (Nat.le_of_ble_eq_true rfl) h (fun _ _ hf => c_X6_no hJ hf) (fun r17 t18 h => ?_)
    cases h
    exact E (dAt dk_X6_row 8 rfl) rfl
theorem mi_X6_noRow : MI yX6_noRow cX6_noRow 2 (some .int) "MillOfDistancesModel" 1 := ⟨(gm mw_949 rfl), (gm mw_948 rfl), (gm mw_26 rfl), (gm mw_75 rfl), by decide +kernel, by decide⟩
theorem c_X6_noRow {l : Launch} {D : va_G} {ad : Nat → Nat} {g : Gv} {t u : Mem} {x1 : Int32} {u' : Mem} {r : Int32} (hJ : Jad ad) (h : f_X6_noRow x1 u = some (r, u')) : ConI l yX6_noRow cX6_noRow 2 (some .int) 1 [.ref (ad 39), .int x1] D ad g t u t u' r := by
  refine con_i hJ (by decide) (Nat.le_of_ble_eq_true rfl) rfl (fun X F E => ?_)
  have J32 : ∀ (u0 : Mem), jn_X6_noRow_32 x1 u0 = some (r, u') → G X D ad g t u0 [(0, .ref (ad 39)), (1, .int x1)] 32 [] := by
    intro u0 h
    unfold jn_X6_noRow_32 at h
    refine g_aload_n F (dAt dk_X6_noRow 18 rfl) 0 rfl ?_
    refine gg_Model_holding F (gm mw_864 rfl) (dAt dk_X6_noRow 19 rfl) ?_
    refine g_iload_n F (dAt dk_X6_noRow 20 rfl) 1 rfl ?_
    refine g_ck h (fun hi8 h => ?_)
    refine g_ialoadm F am_holding (dAt dk_X6_noRow 21 rfl) hi8 ?_
    refine g_if_ge (tgt := 46) F (dAt dk_X6_noRow 22 rfl) (by decide) h (fun c9 h => ?_) (fun c9 h => ?_)
    · refine g_iconst (v := 0) F (dAt dk_X6_noRow 25 rfl) (by decide) ?_
      cases h
      exact E (dAt dk_X6_noRow 26 rfl) rfl
    · refine g_bipush (v := (-3)) F (dAt dk_X6_noRow 23 rfl) (by decide) ?_
      refine g_goto (tgt := 47) F (dAt dk_X6_noRow 24 rfl) (by decide) ?_
      cases h
      exact E (dAt dk_X6_noRow 26 rfl) rfl
  refine g_lv (lv' := [(0, .ref (ad 39)), (1, .int x1)]) rfl ?_
  unfold f_X6_noRow at h
  refine g_iload_n F (dAt dk_X6_noRow 0 rfl) 1 rfl ?_
  refine g_iconst (v := 0) F (dAt dk_X6_noRow 1 rfl) (by decide) ?_
  refine g_bipush (v := 7) F (dAt dk_X6_noRow 2 rfl) (by decide) ?_
  refine g_invS_ip F ms_X6_within (gm mw_935 rfl) (dAt dk_X6_noRow 3 rfl) [.int x1, .int 0, .int 7] rfl rfl (by decide) (Nat.le_of_ble_eq_true rfl) h (fun _ hf => c_X6_within hJ hf) (fun r1 h => ?_)
  refine g_if_ne (tgt := 12) F (dAt dk_X6_noRow 4 rfl) (by decide) h (fun c2 h => ?_) (fun c2 h => ?_)
  · refine g_aload_n F (dAt dk_X6_noRow 7 rfl) 0 rfl ?_
    refine gg_Model_holding F (gm mw_864 rfl) (dAt dk_X6_noRow 8 rfl) ?_
    refine g_iload_n F (dAt dk_X6_noRow 9 rfl) 1 rfl ?_
    refine g_ck h (fun hi3 h => ?_)
    refine g_ialoadm F am_holding (dAt dk_X6_noRow 10 rfl) hi3 ?_
    refine g_if_lt (tgt := 32) F (dAt dk_X6_noRow 11 rfl) (by decide) h (fun c4 h => ?_) (fun c4 h => ?_)
    · refine g_sub (lv' := [(0, .ref (ad 39)), (1, .int x1)]) [0, 1] rfl ?_
      exact J32  u h
    · refine g_aload_n F (dAt dk_X6_noRow 12 rfl) 0 rfl ?_
      refine g_iload_n F (dAt dk_X6_noRow 13 rfl) 1 rfl ?_
      refine g_invV_im F mi_X6_isRow (gm mw_950 rfl) (dAt dk_X6_noRow 14 rfl) (rcx_of F rc_Model) [.int x1] rfl rfl (by decide) (Nat.le_of_ble_eq_true rfl) h (fun _ _ hf => c_X6_isRow hJ hf) (fun r5 t6 h => ?_)
      refine g_if_ne (tgt := 32) F (dAt dk_X6_noRow 15 rfl) (by decide) h (fun c7 h => ?_) (fun c7 h => ?_)
      · refine g_sub (lv' := [(0, .ref (ad 39)), (1, .int x1)]) [0, 1] rfl ?_
        exact J32  t6 h
      · refine g_bipush (v := (-2)) F (dAt dk_X6_noRow 16 rfl) (by decide) ?_
        cases h
        exact E (dAt dk_X6_noRow 17 rfl) rfl
  · refine g_iconst (v := (-1)) F (dAt dk_X6_noRow 5 rfl) (by decide) ?_
    cases h
    exact E (dAt dk_X6_noRow 6 rfl) rfl
theorem mi_X6_set : MI yX6_set cX6_set 7 (some .int) "MillOfDistancesModel" 3 := ⟨(gm mw_945 rfl), (gm mw_943 rfl), (gm mw_944 rfl), (gm mw_75 rfl), by decide +kernel, by decide⟩
theorem c_X6_set {l : Launch} {D : va_G} {ad : Nat → Nat} {g : Gv} {t u : Mem} {x1 : Int32} {x2 : Int32} {x3 : Int64} {u' : Mem} {r : Int32} (hJ : Jad ad) (h : f_X6_set x1 x2 x3 u = some (r, u')) : ConI l yX6_set cX6_set 7 (some .int) 2 [.ref (ad 39), .int x1, .int x2, .long x3] D ad g t u t u' r := by
  refine con_i hJ (by decide) (Nat.le_of_ble_eq_true rfl) rfl (fun X F E => ?_)
  refine g_lv (lv' := [(0, .ref (ad 39)), (1, .int x1), (2, .int x2), (3, .long x3)]) rfl ?_
  unfold f_X6_set at h
  refine g_aload_n F (dAt dk_X6_set 0 rfl) 0 rfl ?_
  refine g_iload_n F (dAt dk_X6_set 1 rfl) 1 rfl ?_
  refine g_invV_im F mi_X6_noRow (gm mw_946 rfl) (dAt dk_X6_set 2 rfl) (rcx_of F rc_Model) [.int x1] rfl rfl (by decide) (Nat.le_of_ble_eq_true rfl) h (fun _ _ hf => c_X6_noRow hJ hf) (fun r1 t2 h => ?_)
  refine g_istore (lv' := [(5, .int r1), (0, .ref (ad 39)), (1, .int x1), (2, .int x2), (3, .long x3)]) F (dAt dk_X6_set 3 rfl) (by decide) rfl ?_
  refine g_iload F (dAt dk_X6_set 4 rfl) 0 rfl ?_
  refine g_if_ge (tgt := 19) F (dAt dk_X6_set 5 rfl) (by decide) h (fun c3 h => ?_) (fun c3 h => ?_)
  · refine g_iload_n F (dAt dk_X6_set 10 rfl) 3 rfl ?_
    refine g_iconst (v := 0) F (dAt dk_X6_set 11 rfl) (by decide) ?_
    refine g_aload_n F (dAt dk_X6_set 12 rfl) 1 rfl ?_
    refine gg_Model_rowLength F (gm mw_865 rfl) (dAt dk_X6_set 13 rfl) ?_
    refine g_iload_n F (dAt dk_X6_set 14 rfl) 2 rfl ?_
    refine g_ck h (fun hi4 h => ?_)
    refine g_ialoadm F am_rowLength (dAt dk_X6_set 15 rfl) hi4 ?_
    refine g_iconst (v := 1) F (dAt dk_X6_set 16 rfl) (by decide) ?_
    refine g_isub F (dAt dk_X6_set 17 rfl) ?_
    refine g_invS_ip F ms_X6_within (gm mw_935 rfl) (dAt dk_X6_set 18 rfl) [.int x2, .int 0, .int ((t2.1 41 x1.toNatClampNeg) - 1)] rfl rfl (by decide) (Nat.le_of_ble_eq_true rfl) h (fun _ hf => c_X6_within hJ hf) (fun r5 h => ?_)
    refine g_if_ne (tgt := 42) F (dAt dk_X6_set 19 rfl) (by decide) h (fun c6 h => ?_) (fun c6 h => ?_)
    · refine g_aload_n F (dAt dk_X6_set 24 rfl) 1 rfl ?_
      refine gg_Model_holding F (gm mw_864 rfl) (dAt dk_X6_set 25 rfl) ?_
      refine g_iload_n F (dAt dk_X6_set 26 rfl) 2 rfl ?_
      refine g_ck h (fun hi7 h => ?_)
      refine g_ialoadm F am_holding (dAt dk_X6_set 27 rfl) hi7 ?_
      refine g_bipush (v := 100) F (dAt dk_X6_set 28 rfl) (by decide) ?_
      refine g_isub F (dAt dk_X6_set 29 rfl) ?_
      refine g_lti h (fun y8 h => ?_)
      refine g_istore (lv' := [(6, .int y8), (5, .int r1), (0, .ref (ad 39)), (1, .int x1), (2, .int x2), (3, .long x3)]) F (dAt dk_X6_set 30 rfl) (by decide) rfl ?_
      refine g_aload_n F (dAt dk_X6_set 31 rfl) 2 rfl ?_
      refine gg_Model_rowOf F (gm mw_866 rfl) (dAt dk_X6_set 32 rfl) ?_
      refine g_sipush (v := 160) F (dAt dk_X6_set 33 rfl) (by decide) ?_
      refine g_iload_n F (dAt dk_X6_set 34 rfl) 3 rfl ?_
      refine g_imul F (dAt dk_X6_set 35 rfl) ?_
      refine g_iload_n F (dAt dk_X6_set 36 rfl) 4 rfl ?_
      refine g_iadd F (dAt dk_X6_set 37 rfl) ?_
      refine g_iload F (dAt dk_X6_set 38 rfl) 0 rfl ?_
      refine g_if_ne (tgt := 76) F (dAt dk_X6_set 39 rfl) (by decide) h (fun c9 h => ?_) (fun c9 h => ?_)
      · refine g_iload F (dAt dk_X6_set 45 rfl) 0 rfl ?_
        refine g_iconst (v := 1) F (dAt dk_X6_set 46 rfl) (by decide) ?_
        refine g_icmp_ne (tgt := 89) F (dAt dk_X6_set 47 rfl) (by decide) h (fun c10 h => ?_) (fun c10 h => ?_)
        · refine g_iload F (dAt dk_X6_set 53 rfl) 0 rfl ?_
          refine g_iconst (v := 2) F (dAt dk_X6_set 54 rfl) (by decide) ?_
          refine g_icmp_ne (tgt := 101) F (dAt dk_X6_set 55 rfl) (by decide) h (fun c11 h => ?_) (fun c11 h => ?_)
          · refine g_lload_n F (dAt dk_X6_set 60 rfl) 5 rfl ?_
            refine g_ck h (fun hi12 h => ?_)
            refine g_lastorem F am_rowOf (dAt dk_X6_set 61 rfl) hi12 ?_
            refine g_ltu h (fun t13 h => ?_)
            refine g_iconst (v := 1) F (dAt dk_X6_set 62 rfl) (by decide) ?_
            cases h
            exact E (dAt dk_X6_set 63 rfl) rfl
          · refine g_lload_n F (dAt dk_X6_set 56 rfl) 5 rfl ?_
            refine g_l2i F (dAt dk_X6_set 57 rfl) ?_
            refine g_i2l F (dAt dk_X6_set 58 rfl) ?_
            refine g_goto (tgt := 102) F (dAt dk_X6_set 59 rfl) (by decide) ?_
            refine g_ck h (fun hi14 h => ?_)
            refine g_lastorem F am_rowOf (dAt dk_X6_set 61 rfl) hi14 ?_
            refine g_ltu h (fun t15 h => ?_)
            refine g_iconst (v := 1) F (dAt dk_X6_set 62 rfl) (by decide) ?_
            cases h
            exact E (dAt dk_X6_set 63 rfl) rfl
        · refine g_lload_n F (dAt dk_X6_set 48 rfl) 5 rfl ?_
          refine g_l2i F (dAt dk_X6_set 49 rfl) ?_
          refine g_i2s F (dAt dk_X6_set 50 rfl) ?_
          refine g_i2l F (dAt dk_X6_set 51 rfl) ?_
          refine g_goto (tgt := 102) F (dAt dk_X6_set 52 rfl) (by decide) ?_
          refine g_ck h (fun hi16 h => ?_)
          refine g_lastorem F am_rowOf (dAt dk_X6_set 61 rfl) hi16 ?_
          refine g_ltu h (fun t17 h => ?_)
          refine g_iconst (v := 1) F (dAt dk_X6_set 62 rfl) (by decide) ?_
          cases h
          exact E (dAt dk_X6_set 63 rfl) rfl
      · refine g_lload_n F (dAt dk_X6_set 40 rfl) 5 rfl ?_
        refine g_l2i F (dAt dk_X6_set 41 rfl) ?_
        refine g_i2b F (dAt dk_X6_set 42 rfl) ?_
        refine g_i2l F (dAt dk_X6_set 43 rfl) ?_
        refine g_goto (tgt := 102) F (dAt dk_X6_set 44 rfl) (by decide) ?_
        refine g_ck h (fun hi18 h => ?_)
        refine g_lastorem F am_rowOf (dAt dk_X6_set 61 rfl) hi18 ?_
        refine g_ltu h (fun t19 h => ?_)
        refine g_iconst (v := 1) F (dAt dk_X6_set 62 rfl) (by decide) ?_
        cases h
        exact E (dAt dk_X6_set 63 rfl) rfl
    · refine g_aload_n F (dAt dk_X6_set 20 rfl) 1 rfl ?_
      refine g_bipush (v := (-5)) F (dAt dk_X6_set 21 rfl) (by decide) ?_
      refine g_invV_im F mi_X6_no (gm mw_938 rfl) (dAt dk_X6_set 22 rfl) (rcx_of F rc_Model) [.int (-5)] rfl rfl (by decide) (Nat.le_of_ble_eq_true rfl) h (fun _ _ hf => c_X6_no hJ hf) (fun r20 t21 h => ?_)
      cases h
      exact E (dAt dk_X6_set 23 rfl) rfl
  · refine g_aload_n F (dAt dk_X6_set 6 rfl) 1 rfl ?_
    refine g_iload F (dAt dk_X6_set 7 rfl) 0 rfl ?_
    refine g_invV_im F mi_X6_no (gm mw_938 rfl) (dAt dk_X6_set 8 rfl) (rcx_of F rc_Model) [.int r1] rfl rfl (by decide) (Nat.le_of_ble_eq_true rfl) h (fun _ _ hf => c_X6_no hJ hf) (fun r22 t23 h => ?_)
    cases h
    exact E (dAt dk_X6_set 9 rfl) rfl
theorem mi_X6_copy : MI yX6_copy cX6_copy 7 (some .int) "MillOfDistancesModel" 5 := ⟨(gm mw_957 rfl), (gm mw_955 rfl), (gm mw_956 rfl), (gm mw_75 rfl), by decide +kernel, by decide⟩
set_option maxRecDepth 20000 in
theorem c_X6_copy {l : Launch} {D : va_G} {ad : Nat → Nat} {g : Gv} {t u : Mem} {n : Nat} {x1 : Int32} {x2 : Int32} {x3 : Int32} {x4 : Int32} {x5 : Int32} {u' : Mem} {r : Int32} (hJ : Jad ad) (h : f_X6_copy n x1 x2 x3 x4 x5 u = some (r, u')) : ConI l yX6_copy cX6_copy 7 (some .int) 1 [.ref (ad 39), .int x1, .int x2, .int x3, .int x4, .int x5] D ad g t u t u' r := by
  refine con_i hJ (by decide) (Nat.le_of_ble_eq_true rfl) rfl (fun X F E => ?_)
  have J20 : ∀ (u0 : Mem), jn_X6_copy_20 n x1 x2 x3 x4 x5 u0 = some (r, u') → G X D ad g t u0 [(0, .ref (ad 39))] 20 [] := by
    intro u0 h
    unfold jn_X6_copy_20 at h
    refine g_aload_n F (dAt dk_X6_copy 10 rfl) 0 rfl ?_
    refine g_iconst (v := (-1)) F (dAt dk_X6_copy 11 rfl) (by decide) ?_
    refine g_invV_im F mi_X6_no (gm mw_938 rfl) (dAt dk_X6_copy 12 rfl) (rcx_of F rc_Model) [.int (-1)] rfl rfl (by decide) (Nat.le_of_ble_eq_true rfl) h (fun _ _ hf => c_X6_no hJ hf) (fun r10 t11 h => ?_)
    cases h
    exact E (dAt dk_X6_copy 13 rfl) rfl
  have J116 : ∀ (u0 : Mem), jn_X6_copy_116 n x1 x2 x3 x4 x5 u0 = some (r, u') → G X D ad g t u0 [(0, .ref (ad 39))] 116 [] := by
    intro u0 h
    unfold jn_X6_copy_116 at h
    refine g_aload_n F (dAt dk_X6_copy 63 rfl) 0 rfl ?_
    refine g_bipush (v := (-3)) F (dAt dk_X6_copy 64 rfl) (by decide) ?_
    refine g_invV_im F mi_X6_no (gm mw_938 rfl) (dAt dk_X6_copy 65 rfl) (rcx_of F rc_Model) [.int (-3)] rfl rfl (by decide) (Nat.le_of_ble_eq_true rfl) h (fun _ _ hf => c_X6_no hJ hf) (fun r43 t44 h => ?_)
    cases h
    exact E (dAt dk_X6_copy 66 rfl) rfl
  have J179 : ∀ (u0 : Mem), jn_X6_copy_179 n x1 x2 x3 x4 x5 u0 = some (r, u') → G X D ad g t u0 [(0, .ref (ad 39))] 179 [] := by
    intro u0 h
    unfold jn_X6_copy_179 at h
    refine g_aload_n F (dAt dk_X6_copy 101 rfl) 0 rfl ?_
    refine g_bipush (v := (-5)) F (dAt dk_X6_copy 102 rfl) (by decide) ?_
    refine g_invV_im F mi_X6_no (gm mw_938 rfl) (dAt dk_X6_copy 103 rfl) (rcx_of F rc_Model) [.int (-5)] rfl rfl (by decide) (Nat.le_of_ble_eq_true rfl) h (fun _ _ hf => c_X6_no hJ hf) (fun r45 t46 h => ?_)
    cases h
    exact E (dAt dk_X6_copy 104 rfl) rfl
  have H251 : ∀ (k : Nat) (s : Int32 × Mem), iter (bd_X6_copy_251 n x1 x2 x3 x4 x5) k s = some (r, u') → G X D ad g t s.2 [(0, .ref (ad 39)), (1, .int x1), (2, .int x2), (3, .int x3), (4, .int x4), (5, .int x5), (6, .int s.1)] 251 [] := by
    refine iter_walk (P := fun (s : Int32 × Mem) => G X D ad g t s.2 [(0, .ref (ad 39)), (1, .int x1), (2, .int x2), (3, .int x3), (4, .int x4), (5, .int x5), (6, .int s.1)] 251 []) (fun self251 ih251 s h => ?_)
    obtain ⟨v6, u0⟩ := s
    change G X D ad g t u0 [(0, .ref (ad 39)), (1, .int x1), (2, .int x2), (3, .int x3), (4, .int x4), (5, .int x5), (6, .int v6)] 251 []
    unfold bd_X6_copy_251 at h; try dsimp only at h
    refine g_iload F (dAt dk_X6_copy 142 rfl) 6 rfl ?_
    refine g_iload F (dAt dk_X6_copy 143 rfl) 5 rfl ?_
    refine g_icmp_ge (tgt := 295) F (dAt dk_X6_copy 144 rfl) (by decide) h (fun c51 h => ?_) (fun c51 h => ?_)
    · refine g_iconst (v := 1) F (dAt dk_X6_copy 167 rfl) (by decide) ?_
      cases h
      exact E (dAt dk_X6_copy 168 rfl) rfl
    · refine g_aload_n F (dAt dk_X6_copy 145 rfl) 0 rfl ?_
      refine gg_Model_rowOf F (gm mw_866 rfl) (dAt dk_X6_copy 146 rfl) ?_
      refine g_sipush (v := 160) F (dAt dk_X6_copy 147 rfl) (by decide) ?_
      refine g_iload_n F (dAt dk_X6_copy 148 rfl) 2 rfl ?_
      refine g_imul F (dAt dk_X6_copy 149 rfl) ?_
      refine g_iload F (dAt dk_X6_copy 150 rfl) 4 rfl ?_
      refine g_iadd F (dAt dk_X6_copy 151 rfl) ?_
      refine g_iload F (dAt dk_X6_copy 152 rfl) 6 rfl ?_
      refine g_iadd F (dAt dk_X6_copy 153 rfl) ?_
      refine g_aload_n F (dAt dk_X6_copy 154 rfl) 0 rfl ?_
      refine gg_Model_rowOf F (gm mw_866 rfl) (dAt dk_X6_copy 155 rfl) ?_
      refine g_sipush (v := 160) F (dAt dk_X6_copy 156 rfl) (by decide) ?_
      refine g_iload_n F (dAt dk_X6_copy 157 rfl) 1 rfl ?_
      refine g_imul F (dAt dk_X6_copy 158 rfl) ?_
      refine g_iload_n F (dAt dk_X6_copy 159 rfl) 3 rfl ?_
      refine g_iadd F (dAt dk_X6_copy 160 rfl) ?_
      refine g_iload F (dAt dk_X6_copy 161 rfl) 6 rfl ?_
      refine g_iadd F (dAt dk_X6_copy 162 rfl) ?_
      refine g_ck h (fun hi52 h => ?_)
      refine g_laloadm F am_rowOf (dAt dk_X6_copy 163 rfl) hi52 ?_
      refine g_ck h (fun hi53 h => ?_)
      refine g_lastorem F am_rowOf (dAt dk_X6_copy 164 rfl) hi53 ?_
      refine g_ltu h (fun t54 h => ?_)
      refine g_iinc (lv' := [(6, .int (v6 + 1)), (0, .ref (ad 39)), (1, .int x1), (2, .int x2), (3, .int x3), (4, .int x4), (5, .int x5)]) F (dAt dk_X6_copy 165 rfl) 6 rfl (w := 1) (by decide) (by decide) rfl ?_
      refine g_goto (tgt := 251) F (dAt dk_X6_copy 166 rfl) (by decide) ?_
      refine g_sub (lv' := [(0, .ref (ad 39)), (1, .int x1), (2, .int x2), (3, .int x3), (4, .int x4), (5, .int x5), (6, .int (v6 + 1))]) [1, 2, 3, 4, 5, 6, 0] rfl ?_
      exact ih251 ((v6 + 1), t54) h
  have J248 : ∀ (u0 : Mem), jn_X6_copy_248 n x1 x2 x3 x4 x5 u0 = some (r, u') → G X D ad g t u0 [(0, .ref (ad 39)), (1, .int x1), (2, .int x2), (3, .int x3), (4, .int x4), (5, .int x5)] 248 [] := by
    intro u0 h
    unfold jn_X6_copy_248 at h
    refine g_iconst (v := 0) F (dAt dk_X6_copy 140 rfl) (by decide) ?_
    refine g_istore (lv' := [(6, .int 0), (0, .ref (ad 39)), (1, .int x1), (2, .int x2), (3, .int x3), (4, .int x4), (5, .int x5)]) F (dAt dk_X6_copy 141 rfl) (by decide) rfl ?_
    refine g_sub (lv' := [(0, .ref (ad 39)), (1, .int x1), (2, .int x2), (3, .int x3), (4, .int x4), (5, .int x5), (6, .int 0)]) [1, 2, 3, 4, 5, 6, 0] rfl ?_
    exact H251  n (0, u0) h
  have H203 : ∀ (k : Nat) (s : Int32 × Mem), iter (bd_X6_copy_203 n x1 x2 x3 x4 x5) k s = some (r, u') → G X D ad g t s.2 [(0, .ref (ad 39)), (1, .int x1), (2, .int x2), (3, .int x3), (4, .int x4), (6, .int s.1)] 203 [] := by
    refine iter_walk (P := fun (s : Int32 × Mem) => G X D ad g t s.2 [(0, .ref (ad 39)), (1, .int x1), (2, .int x2), (3, .int x3), (4, .int x4), (6, .int s.1)] 203 []) (fun self203 ih203 s h => ?_)
    obtain ⟨v6, u0⟩ := s
    change G X D ad g t u0 [(0, .ref (ad 39)), (1, .int x1), (2, .int x2), (3, .int x3), (4, .int x4), (6, .int v6)] 203 []
    unfold bd_X6_copy_203 at h; try dsimp only at h
    refine g_iload F (dAt dk_X6_copy 115 rfl) 5 rfl ?_
    refine g_if_lt (tgt := 245) F (dAt dk_X6_copy 116 rfl) (by decide) h (fun c47 h => ?_) (fun c47 h => ?_)
    · refine g_goto (tgt := 295) F (dAt dk_X6_copy 139 rfl) (by decide) ?_
      refine g_iconst (v := 1) F (dAt dk_X6_copy 167 rfl) (by decide) ?_
      cases h
      exact E (dAt dk_X6_copy 168 rfl) rfl
    · refine g_aload_n F (dAt dk_X6_copy 117 rfl) 0 rfl ?_
      refine gg_Model_rowOf F (gm mw_866 rfl) (dAt dk_X6_copy 118 rfl) ?_
      refine g_sipush (v := 160) F (dAt dk_X6_copy 119 rfl) (by decide) ?_
      refine g_iload_n F (dAt dk_X6_copy 120 rfl) 2 rfl ?_
      refine g_imul F (dAt dk_X6_copy 121 rfl) ?_
      refine g_iload F (dAt dk_X6_copy 122 rfl) 4 rfl ?_
      refine g_iadd F (dAt dk_X6_copy 123 rfl) ?_
      refine g_iload F (dAt dk_X6_copy 124 rfl) 5 rfl ?_
      refine g_iadd F (dAt dk_X6_copy 125 rfl) ?_
      refine g_aload_n F (dAt dk_X6_copy 126 rfl) 0 rfl ?_
      refine gg_Model_rowOf F (gm mw_866 rfl) (dAt dk_X6_copy 127 rfl) ?_
      refine g_sipush (v := 160) F (dAt dk_X6_copy 128 rfl) (by decide) ?_
      refine g_iload_n F (dAt dk_X6_copy 129 rfl) 1 rfl ?_
      refine g_imul F (dAt dk_X6_copy 130 rfl) ?_
      refine g_iload_n F (dAt dk_X6_copy 131 rfl) 3 rfl ?_
      refine g_iadd F (dAt dk_X6_copy 132 rfl) ?_
      refine g_iload F (dAt dk_X6_copy 133 rfl) 5 rfl ?_
      refine g_iadd F (dAt dk_X6_copy 134 rfl) ?_
      refine g_ck h (fun hi48 h => ?_)
      refine g_laloadm F am_rowOf (dAt dk_X6_copy 135 rfl) hi48 ?_
      refine g_ck h (fun hi49 h => ?_)
      refine g_lastorem F am_rowOf (dAt dk_X6_copy 136 rfl) hi49 ?_
      refine g_ltu h (fun t50 h => ?_)
      refine g_iinc (lv' := [(6, .int (v6 + (-1))), (0, .ref (ad 39)), (1, .int x1), (2, .int x2), (3, .int x3), (4, .int x4)]) F (dAt dk_X6_copy 137 rfl) 5 rfl (w := (-1)) (by decide) (by decide) rfl ?_
      refine g_goto (tgt := 203) F (dAt dk_X6_copy 138 rfl) (by decide) ?_
      refine g_sub (lv' := [(0, .ref (ad 39)), (1, .int x1), (2, .int x2), (3, .int x3), (4, .int x4), (6, .int (v6 + (-1)))]) [1, 2, 3, 4, 5, 0] rfl ?_
      exact ih203 ((v6 + (-1)), t50) h
  have J98 : ∀ (u0 : Mem), jn_X6_copy_98 n x1 x2 x3 x4 x5 u0 = some (r, u') → G X D ad g t u0 [(0, .ref (ad 39)), (1, .int x1), (2, .int x2), (3, .int x3), (4, .int x4), (5, .int x5)] 98 [] := by
    intro u0 h
    unfold jn_X6_copy_98 at h
    refine g_aload_n F (dAt dk_X6_copy 53 rfl) 0 rfl ?_
    refine gg_Model_holding F (gm mw_864 rfl) (dAt dk_X6_copy 54 rfl) ?_
    refine g_iload_n F (dAt dk_X6_copy 55 rfl) 1 rfl ?_
    refine g_ck h (fun hi28 h => ?_)
    refine g_ialoadm F am_holding (dAt dk_X6_copy 56 rfl) hi28 ?_
    refine g_if_lt (tgt := 116) F (dAt dk_X6_copy 57 rfl) (by decide) h (fun c29 h => ?_) (fun c29 h => ?_)
    · refine g_sub (lv' := [(0, .ref (ad 39))]) [0] rfl ?_
      exact J116  u0 h
    · refine g_aload_n F (dAt dk_X6_copy 58 rfl) 0 rfl ?_
      refine gg_Model_holding F (gm mw_864 rfl) (dAt dk_X6_copy 59 rfl) ?_
      refine g_iload_n F (dAt dk_X6_copy 60 rfl) 2 rfl ?_
      refine g_ck h (fun hi30 h => ?_)
      refine g_ialoadm F am_holding (dAt dk_X6_copy 61 rfl) hi30 ?_
      refine g_if_ge (tgt := 123) F (dAt dk_X6_copy 62 rfl) (by decide) h (fun c31 h => ?_) (fun c31 h => ?_)
      · refine g_iload F (dAt dk_X6_copy 67 rfl) 5 rfl ?_
        refine g_if_ge (tgt := 135) F (dAt dk_X6_copy 68 rfl) (by decide) h (fun c32 h => ?_) (fun c32 h => ?_)
        · refine g_iload_n F (dAt dk_X6_copy 73 rfl) 3 rfl ?_
          refine g_if_lt (tgt := 179) F (dAt dk_X6_copy 74 rfl) (by decide) h (fun c33 h => ?_) (fun c33 h => ?_)
          · refine g_sub (lv' := [(0, .ref (ad 39))]) [0] rfl ?_
            exact J179  u0 h
          · refine g_iload F (dAt dk_X6_copy 75 rfl) 4 rfl ?_
            refine g_if_lt (tgt := 179) F (dAt dk_X6_copy 76 rfl) (by decide) h (fun c34 h => ?_) (fun c34 h => ?_)
            · refine g_sub (lv' := [(0, .ref (ad 39))]) [0] rfl ?_
              exact J179  u0 h
            · refine g_iload_n F (dAt dk_X6_copy 77 rfl) 3 rfl ?_
              refine g_i2l F (dAt dk_X6_copy 78 rfl) ?_
              refine g_iload F (dAt dk_X6_copy 79 rfl) 5 rfl ?_
              refine g_i2l F (dAt dk_X6_copy 80 rfl) ?_
              refine g_ladd F (dAt dk_X6_copy 81 rfl) ?_
              refine g_aload_n F (dAt dk_X6_copy 82 rfl) 0 rfl ?_
              refine gg_Model_rowLength F (gm mw_865 rfl) (dAt dk_X6_copy 83 rfl) ?_
              refine g_iload_n F (dAt dk_X6_copy 84 rfl) 1 rfl ?_
              refine g_ck h (fun hi35 h => ?_)
              refine g_ialoadm F am_rowLength (dAt dk_X6_copy 85 rfl) hi35 ?_
              refine g_i2l F (dAt dk_X6_copy 86 rfl) ?_
              refine g_lcmp F (dAt dk_X6_copy 87 rfl) ?_
              refine g_if_gt (tgt := 179) F (dAt dk_X6_copy 88 rfl) (by decide) h (fun c36 h => ?_) (fun c36 h => ?_)
              · refine g_sub (lv' := [(0, .ref (ad 39))]) [0] rfl ?_
                exact J179  u0 h
              · refine g_iload F (dAt dk_X6_copy 89 rfl) 4 rfl ?_
                refine g_i2l F (dAt dk_X6_copy 90 rfl) ?_
                refine g_iload F (dAt dk_X6_copy 91 rfl) 5 rfl ?_
                refine g_i2l F (dAt dk_X6_copy 92 rfl) ?_
                refine g_ladd F (dAt dk_X6_copy 93 rfl) ?_
                refine g_aload_n F (dAt dk_X6_copy 94 rfl) 0 rfl ?_
                refine gg_Model_rowLength F (gm mw_865 rfl) (dAt dk_X6_copy 95 rfl) ?_
                refine g_iload_n F (dAt dk_X6_copy 96 rfl) 2 rfl ?_
                refine g_ck h (fun hi37 h => ?_)
                refine g_ialoadm F am_rowLength (dAt dk_X6_copy 97 rfl) hi37 ?_
                refine g_i2l F (dAt dk_X6_copy 98 rfl) ?_
                refine g_lcmp F (dAt dk_X6_copy 99 rfl) ?_
                refine g_if_le (tgt := 186) F (dAt dk_X6_copy 100 rfl) (by decide) h (fun c38 h => ?_) (fun c38 h => ?_)
                · refine g_iload_n F (dAt dk_X6_copy 105 rfl) 1 rfl ?_
                  refine g_iload_n F (dAt dk_X6_copy 106 rfl) 2 rfl ?_
                  refine g_icmp_ne (tgt := 248) F (dAt dk_X6_copy 107 rfl) (by decide) h (fun c39 h => ?_) (fun c39 h => ?_)
                  · refine g_sub (lv' := [(0, .ref (ad 39)), (1, .int x1), (2, .int x2), (3, .int x3), (4, .int x4), (5, .int x5)]) [0, 1, 2, 3, 4, 5] rfl ?_
                    exact J248  u0 h
                  · refine g_iload_n F (dAt dk_X6_copy 108 rfl) 3 rfl ?_
                    refine g_iload F (dAt dk_X6_copy 109 rfl) 4 rfl ?_
                    refine g_icmp_ge (tgt := 248) F (dAt dk_X6_copy 110 rfl) (by decide) h (fun c40 h => ?_) (fun c40 h => ?_)
                    · refine g_sub (lv' := [(0, .ref (ad 39)), (1, .int x1), (2, .int x2), (3, .int x3), (4, .int x4), (5, .int x5)]) [0, 1, 2, 3, 4, 5] rfl ?_
                      exact J248  u0 h
                    · refine g_iload F (dAt dk_X6_copy 111 rfl) 5 rfl ?_
                      refine g_iconst (v := 1) F (dAt dk_X6_copy 112 rfl) (by decide) ?_
                      refine g_isub F (dAt dk_X6_copy 113 rfl) ?_
                      refine g_istore (lv' := [(6, .int (x5 - 1)), (0, .ref (ad 39)), (1, .int x1), (2, .int x2), (3, .int x3), (4, .int x4), (5, .int x5)]) F (dAt dk_X6_copy 114 rfl) (by decide) rfl ?_
                      refine g_sub (lv' := [(0, .ref (ad 39)), (1, .int x1), (2, .int x2), (3, .int x3), (4, .int x4), (6, .int (x5 - 1))]) [1, 2, 3, 4, 5, 0] rfl ?_
                      exact H203  n ((x5 - 1), u0) h
                · refine g_sub (lv' := [(0, .ref (ad 39))]) [0] rfl ?_
                  exact J179  u0 h
        · refine g_aload_n F (dAt dk_X6_copy 69 rfl) 0 rfl ?_
          refine g_bipush (v := (-4)) F (dAt dk_X6_copy 70 rfl) (by decide) ?_
          refine g_invV_im F mi_X6_no (gm mw_938 rfl) (dAt dk_X6_copy 71 rfl) (rcx_of F rc_Model) [.int (-4)] rfl rfl (by decide) (Nat.le_of_ble_eq_true rfl) h (fun _ _ hf => c_X6_no hJ hf) (fun r41 t42 h => ?_)
          cases h
          exact E (dAt dk_X6_copy 72 rfl) rfl
      · refine g_sub (lv' := [(0, .ref (ad 39))]) [0] rfl ?_
        exact J116  u0 h
  have J91 : ∀ (u0 : Mem), jn_X6_copy_91 n x1 x2 x3 x4 x5 u0 = some (r, u') → G X D ad g t u0 [(0, .ref (ad 39))] 91 [] := by
    intro u0 h
    unfold jn_X6_copy_91 at h
    refine g_aload_n F (dAt dk_X6_copy 49 rfl) 0 rfl ?_
    refine g_bipush (v := (-2)) F (dAt dk_X6_copy 50 rfl) (by decide) ?_
    refine g_invV_im F mi_X6_no (gm mw_938 rfl) (dAt dk_X6_copy 51 rfl) (rcx_of F rc_Model) [.int (-2)] rfl rfl (by decide) (Nat.le_of_ble_eq_true rfl) h (fun _ _ hf => c_X6_no hJ hf) (fun r17 t18 h => ?_)
    cases h
    exact E (dAt dk_X6_copy 52 rfl) rfl
  have J60 : ∀ (u0 : Mem), jn_X6_copy_60 n x1 x2 x3 x4 x5 u0 = some (r, u') → G X D ad g t u0 [(0, .ref (ad 39)), (1, .int x1), (2, .int x2), (3, .int x3), (4, .int x4), (5, .int x5)] 60 [] := by
    intro u0 h
    unfold jn_X6_copy_60 at h
    refine g_aload_n F (dAt dk_X6_copy 32 rfl) 0 rfl ?_
    refine g_iload_n F (dAt dk_X6_copy 33 rfl) 1 rfl ?_
    refine g_invV_im F mi_X6_isRow (gm mw_950 rfl) (dAt dk_X6_copy 34 rfl) (rcx_of F rc_Model) [.int x1] rfl rfl (by decide) (Nat.le_of_ble_eq_true rfl) h (fun _ _ hf => c_X6_isRow hJ hf) (fun r19 t20 h => ?_)
    refine g_if_eq (tgt := 98) F (dAt dk_X6_copy 35 rfl) (by decide) h (fun c21 h => ?_) (fun c21 h => ?_)
    · refine g_sub (lv' := [(0, .ref (ad 39)), (1, .int x1), (2, .int x2), (3, .int x3), (4, .int x4), (5, .int x5)]) [0, 1, 2, 3, 4, 5] rfl ?_
      exact J98  t20 h
    · refine g_aload_n F (dAt dk_X6_copy 36 rfl) 0 rfl ?_
      refine g_iload_n F (dAt dk_X6_copy 37 rfl) 2 rfl ?_
      refine g_invV_im F mi_X6_isRow (gm mw_950 rfl) (dAt dk_X6_copy 38 rfl) (rcx_of F rc_Model) [.int x2] rfl rfl (by decide) (Nat.le_of_ble_eq_true rfl) h (fun _ _ hf => c_X6_isRow hJ hf) (fun r22 t23 h => ?_)
      refine g_if_eq (tgt := 98) F (dAt dk_X6_copy 39 rfl) (by decide) h (fun c24 h => ?_) (fun c24 h => ?_)
      · refine g_sub (lv' := [(0, .ref (ad 39)), (1, .int x1), (2, .int x2), (3, .int x3), (4, .int x4), (5, .int x5)]) [0, 1, 2, 3, 4, 5] rfl ?_
        exact J98  t23 h
      · refine g_aload_n F (dAt dk_X6_copy 40 rfl) 0 rfl ?_
        refine gg_Model_holding F (gm mw_864 rfl) (dAt dk_X6_copy 41 rfl) ?_
        refine g_iload_n F (dAt dk_X6_copy 42 rfl) 1 rfl ?_
        refine g_ck h (fun hi25 h => ?_)
        refine g_ialoadm F am_holding (dAt dk_X6_copy 43 rfl) hi25 ?_
        refine g_aload_n F (dAt dk_X6_copy 44 rfl) 0 rfl ?_
        refine gg_Model_holding F (gm mw_864 rfl) (dAt dk_X6_copy 45 rfl) ?_
        refine g_iload_n F (dAt dk_X6_copy 46 rfl) 2 rfl ?_
        refine g_ck h (fun hi26 h => ?_)
        refine g_ialoadm F am_holding (dAt dk_X6_copy 47 rfl) hi26 ?_
        refine g_icmp_eq (tgt := 98) F (dAt dk_X6_copy 48 rfl) (by decide) h (fun c27 h => ?_) (fun c27 h => ?_)
        · refine g_sub (lv' := [(0, .ref (ad 39)), (1, .int x1), (2, .int x2), (3, .int x3), (4, .int x4), (5, .int x5)]) [0, 1, 2, 3, 4, 5] rfl ?_
          exact J98  t23 h
        · refine g_sub (lv' := [(0, .ref (ad 39))]) [0] rfl ?_
          exact J91  t23 h
  have J43 : ∀ (u0 : Mem), jn_X6_copy_43 n x1 x2 x3 x4 x5 u0 = some (r, u') → G X D ad g t u0 [(0, .ref (ad 39)), (1, .int x1), (2, .int x2), (3, .int x3), (4, .int x4), (5, .int x5)] 43 [] := by
    intro u0 h
    unfold jn_X6_copy_43 at h
    refine g_aload_n F (dAt dk_X6_copy 23 rfl) 0 rfl ?_
    refine gg_Model_holding F (gm mw_864 rfl) (dAt dk_X6_copy 24 rfl) ?_
    refine g_iload_n F (dAt dk_X6_copy 25 rfl) 2 rfl ?_
    refine g_ck h (fun hi12 h => ?_)
    refine g_ialoadm F am_holding (dAt dk_X6_copy 26 rfl) hi12 ?_
    refine g_if_lt (tgt := 60) F (dAt dk_X6_copy 27 rfl) (by decide) h (fun c13 h => ?_) (fun c13 h => ?_)
    · refine g_sub (lv' := [(0, .ref (ad 39)), (1, .int x1), (2, .int x2), (3, .int x3), (4, .int x4), (5, .int x5)]) [0, 1, 2, 3, 4, 5] rfl ?_
      exact J60  u0 h
    · refine g_aload_n F (dAt dk_X6_copy 28 rfl) 0 rfl ?_
      refine g_iload_n F (dAt dk_X6_copy 29 rfl) 2 rfl ?_
      refine g_invV_im F mi_X6_isRow (gm mw_950 rfl) (dAt dk_X6_copy 30 rfl) (rcx_of F rc_Model) [.int x2] rfl rfl (by decide) (Nat.le_of_ble_eq_true rfl) h (fun _ _ hf => c_X6_isRow hJ hf) (fun r14 t15 h => ?_)
      refine g_if_eq (tgt := 91) F (dAt dk_X6_copy 31 rfl) (by decide) h (fun c16 h => ?_) (fun c16 h => ?_)
      · refine g_sub (lv' := [(0, .ref (ad 39))]) [0] rfl ?_
        exact J91  t15 h
      · refine g_sub (lv' := [(0, .ref (ad 39)), (1, .int x1), (2, .int x2), (3, .int x3), (4, .int x4), (5, .int x5)]) [0, 1, 2, 3, 4, 5] rfl ?_
        exact J60  t15 h
  refine g_lv (lv' := [(0, .ref (ad 39)), (1, .int x1), (2, .int x2), (3, .int x3), (4, .int x4), (5, .int x5)]) rfl ?_
  unfold f_X6_copy at h
  refine g_iload_n F (dAt dk_X6_copy 0 rfl) 1 rfl ?_
  refine g_iconst (v := 0) F (dAt dk_X6_copy 1 rfl) (by decide) ?_
  refine g_bipush (v := 7) F (dAt dk_X6_copy 2 rfl) (by decide) ?_
  refine g_invS_ip F ms_X6_within (gm mw_935 rfl) (dAt dk_X6_copy 3 rfl) [.int x1, .int 0, .int 7] rfl rfl (by decide) (Nat.le_of_ble_eq_true rfl) h (fun _ hf => c_X6_within hJ hf) (fun r1 h => ?_)
  refine g_if_eq (tgt := 20) F (dAt dk_X6_copy 4 rfl) (by decide) h (fun c2 h => ?_) (fun c2 h => ?_)
  · refine g_sub (lv' := [(0, .ref (ad 39))]) [0] rfl ?_
    exact J20  u h
  · refine g_iload_n F (dAt dk_X6_copy 5 rfl) 2 rfl ?_
    refine g_iconst (v := 0) F (dAt dk_X6_copy 6 rfl) (by decide) ?_
    refine g_bipush (v := 7) F (dAt dk_X6_copy 7 rfl) (by decide) ?_
    refine g_invS_ip F ms_X6_within (gm mw_935 rfl) (dAt dk_X6_copy 8 rfl) [.int x2, .int 0, .int 7] rfl rfl (by decide) (Nat.le_of_ble_eq_true rfl) h (fun _ hf => c_X6_within hJ hf) (fun r3 h => ?_)
    refine g_if_ne (tgt := 26) F (dAt dk_X6_copy 9 rfl) (by decide) h (fun c4 h => ?_) (fun c4 h => ?_)
    · refine g_aload_n F (dAt dk_X6_copy 14 rfl) 0 rfl ?_
      refine gg_Model_holding F (gm mw_864 rfl) (dAt dk_X6_copy 15 rfl) ?_
      refine g_iload_n F (dAt dk_X6_copy 16 rfl) 1 rfl ?_
      refine g_ck h (fun hi5 h => ?_)
      refine g_ialoadm F am_holding (dAt dk_X6_copy 17 rfl) hi5 ?_
      refine g_if_lt (tgt := 43) F (dAt dk_X6_copy 18 rfl) (by decide) h (fun c6 h => ?_) (fun c6 h => ?_)
      · refine g_sub (lv' := [(0, .ref (ad 39)), (1, .int x1), (2, .int x2), (3, .int x3), (4, .int x4), (5, .int x5)]) [0, 1, 2, 3, 4, 5] rfl ?_
        exact J43  u h
      · refine g_aload_n F (dAt dk_X6_copy 19 rfl) 0 rfl ?_
        refine g_iload_n F (dAt dk_X6_copy 20 rfl) 1 rfl ?_
        refine g_invV_im F mi_X6_isRow (gm mw_950 rfl) (dAt dk_X6_copy 21 rfl) (rcx_of F rc_Model) [.int x1] rfl rfl (by decide) (Nat.le_of_ble_eq_true rfl) h (fun _ _ hf => c_X6_isRow hJ hf) (fun r7 t8 h => ?_)
        refine g_if_eq (tgt := 91) F (dAt dk_X6_copy 22 rfl) (by decide) h (fun c9 h => ?_) (fun c9 h => ?_)
        · refine g_sub (lv' := [(0, .ref (ad 39))]) [0] rfl ?_
          exact J91  t8 h
        · refine g_sub (lv' := [(0, .ref (ad 39)), (1, .int x1), (2, .int x2), (3, .int x3), (4, .int x4), (5, .int x5)]) [0, 1, 2, 3, 4, 5] rfl ?_
          exact J43  t8 h
    · refine g_sub (lv' := [(0, .ref (ad 39))]) [0] rfl ?_
      exact J20  u h
theorem mi_X6_element : MI yX6_element cX6_element 3 (some .long) "MillOfDistancesModel" 2 := ⟨(gm mw_961 rfl), (gm mw_959 rfl), (gm mw_960 rfl), (gm mw_75 rfl), by decide +kernel, by decide⟩
theorem c_X6_element {l : Launch} {D : va_G} {ad : Nat → Nat} {g : Gv} {t u : Mem} {x1 : Int32} {x2 : Int32} {u' : Mem} {r : Int64} (hJ : Jad ad) (h : f_X6_element x1 x2 u = some (r, u')) : ConL l yX6_element cX6_element 3 (some .long) 1 [.ref (ad 39), .int x1, .int x2] D ad g t u t u' r := by
  refine con_l hJ (by decide) (Nat.le_of_ble_eq_true rfl) rfl (fun X F E => ?_)
  refine g_lv (lv' := [(0, .ref (ad 39)), (1, .int x1), (2, .int x2)]) rfl ?_
  unfold f_X6_element at h
  refine g_iload_n F (dAt dk_X6_element 0 rfl) 1 rfl ?_
  refine g_iconst (v := 0) F (dAt dk_X6_element 1 rfl) (by decide) ?_
  refine g_bipush (v := 7) F (dAt dk_X6_element 2 rfl) (by decide) ?_
  refine g_invS_ip F ms_X6_within (gm mw_935 rfl) (dAt dk_X6_element 3 rfl) [.int x1, .int 0, .int 7] rfl rfl (by decide) (Nat.le_of_ble_eq_true rfl) h (fun _ hf => c_X6_within hJ hf) (fun r1 h => ?_)
  refine g_if_eq (tgt := 49) F (dAt dk_X6_element 4 rfl) (by decide) h (fun c2 h => ?_) (fun c2 h => ?_)
  · refine g_lconst (v := 0) F (dAt dk_X6_element 28 rfl) (by decide) ?_
    cases h
    exact E (dAt dk_X6_element 29 rfl)
  · refine g_aload_n F (dAt dk_X6_element 5 rfl) 0 rfl ?_
    refine g_iload_n F (dAt dk_X6_element 6 rfl) 1 rfl ?_
    refine g_invV_im F mi_X6_isRow (gm mw_950 rfl) (dAt dk_X6_element 7 rfl) (rcx_of F rc_Model) [.int x1] rfl rfl (by decide) (Nat.le_of_ble_eq_true rfl) h (fun _ _ hf => c_X6_isRow hJ hf) (fun r3 t4 h => ?_)
    refine g_if_eq (tgt := 49) F (dAt dk_X6_element 8 rfl) (by decide) h (fun c5 h => ?_) (fun c5 h => ?_)
    · refine g_lconst (v := 0) F (dAt dk_X6_element 28 rfl) (by decide) ?_
      cases h
      exact E (dAt dk_X6_element 29 rfl)
    · refine g_iload_n F (dAt dk_X6_element 9 rfl) 2 rfl ?_
      refine g_iconst (v := 0) F (dAt dk_X6_element 10 rfl) (by decide) ?_
      refine g_aload_n F (dAt dk_X6_element 11 rfl) 0 rfl ?_
      refine gg_Model_rowLength F (gm mw_865 rfl) (dAt dk_X6_element 12 rfl) ?_
      refine g_iload_n F (dAt dk_X6_element 13 rfl) 1 rfl ?_
      refine g_ck h (fun hi6 h => ?_)
      refine g_ialoadm F am_rowLength (dAt dk_X6_element 14 rfl) hi6 ?_
      refine g_iconst (v := 1) F (dAt dk_X6_element 15 rfl) (by decide) ?_
      refine g_isub F (dAt dk_X6_element 16 rfl) ?_
      refine g_invS_ip F ms_X6_within (gm mw_935 rfl) (dAt dk_X6_element 17 rfl) [.int x2, .int 0, .int ((t4.1 41 x1.toNatClampNeg) - 1)] rfl rfl (by decide) (Nat.le_of_ble_eq_true rfl) h (fun _ hf => c_X6_within hJ hf) (fun r7 h => ?_)
      refine g_if_eq (tgt := 49) F (dAt dk_X6_element 18 rfl) (by decide) h (fun c8 h => ?_) (fun c8 h => ?_)
      · refine g_lconst (v := 0) F (dAt dk_X6_element 28 rfl) (by decide) ?_
        cases h
        exact E (dAt dk_X6_element 29 rfl)
      · refine g_aload_n F (dAt dk_X6_element 19 rfl) 0 rfl ?_
        refine gg_Model_rowOf F (gm mw_866 rfl) (dAt dk_X6_element 20 rfl) ?_
        refine g_sipush (v := 160) F (dAt dk_X6_element 21 rfl) (by decide) ?_
        refine g_iload_n F (dAt dk_X6_element 22 rfl) 1 rfl ?_
        refine g_imul F (dAt dk_X6_element 23 rfl) ?_
        refine g_iload_n F (dAt dk_X6_element 24 rfl) 2 rfl ?_
        refine g_iadd F (dAt dk_X6_element 25 rfl) ?_
        refine g_ck h (fun hi9 h => ?_)
        refine g_laloadm F am_rowOf (dAt dk_X6_element 26 rfl) hi9 ?_
        refine g_goto (tgt := 50) F (dAt dk_X6_element 27 rfl) (by decide) ?_
        cases h
        exact E (dAt dk_X6_element 29 rfl)
theorem mi_X6_show : MI yX6_show cX6_show 3 (some .int) "MillOfDistancesModel" 2 := ⟨(gm mw_965 rfl), (gm mw_963 rfl), (gm mw_964 rfl), (gm mw_75 rfl), by decide +kernel, by decide⟩
theorem c_X6_show {l : Launch} {D : va_G} {ad : Nat → Nat} {g : Gv} {t u : Mem} {x1 : Int32} {x2 : Int32} {u' : Mem} {r : Int32} (hJ : Jad ad) (h : f_X6_show x1 x2 u = some (r, u')) : ConI l yX6_show cX6_show 3 (some .int) 2 [.ref (ad 39), .int x1, .int x2] D ad g t u t u' r := by
  refine con_i hJ (by decide) (Nat.le_of_ble_eq_true rfl) rfl (fun X F E => ?_)
  have J23 : ∀ (u0 : Mem), jn_X6_show_23 x1 x2 u0 = some (r, u') → G X D ad g t u0 [(0, .ref (ad 39))] 23 [] := by
    intro u0 h
    unfold jn_X6_show_23 at h
    refine g_aload_n F (dAt dk_X6_show 12 rfl) 0 rfl ?_
    refine g_iconst (v := (-1)) F (dAt dk_X6_show 13 rfl) (by decide) ?_
    refine g_invV_im F mi_X6_no (gm mw_938 rfl) (dAt dk_X6_show 14 rfl) (rcx_of F rc_Model) [.int (-1)] rfl rfl (by decide) (Nat.le_of_ble_eq_true rfl) h (fun _ _ hf => c_X6_no hJ hf) (fun r7 t8 h => ?_)
    cases h
    exact E (dAt dk_X6_show 15 rfl) rfl
  have J29 : ∀ (u0 : Mem), jn_X6_show_29 x1 x2 u0 = some (r, u') → G X D ad g t u0 [(0, .ref (ad 39)), (1, .int x1), (2, .int x2)] 29 [] := by
    intro u0 h
    unfold jn_X6_show_29 at h
    refine g_aload_n F (dAt dk_X6_show 16 rfl) 0 rfl ?_
    refine gg_Model_holding F (gm mw_864 rfl) (dAt dk_X6_show 17 rfl) ?_
    refine g_iload_n F (dAt dk_X6_show 18 rfl) 1 rfl ?_
    refine g_iload_n F (dAt dk_X6_show 19 rfl) 2 rfl ?_
    refine g_ck h (fun hi9 h => ?_)
    refine g_iastorem F am_holding (dAt dk_X6_show 20 rfl) hi9 ?_
    refine g_ltu h (fun t10 h => ?_)
    refine g_iload_n F (dAt dk_X6_show 21 rfl) 2 rfl ?_
    refine g_iconst (v := (-1)) F (dAt dk_X6_show 22 rfl) (by decide) ?_
    refine g_icmp_ne (tgt := 45) F (dAt dk_X6_show 23 rfl) (by decide) h (fun c11 h => ?_) (fun c11 h => ?_)
    · refine g_iconst (v := 1) F (dAt dk_X6_show 26 rfl) (by decide) ?_
      cases h
      exact E (dAt dk_X6_show 27 rfl) rfl
    · refine g_iconst (v := 0) F (dAt dk_X6_show 24 rfl) (by decide) ?_
      refine g_goto (tgt := 46) F (dAt dk_X6_show 25 rfl) (by decide) ?_
      cases h
      exact E (dAt dk_X6_show 27 rfl) rfl
  refine g_lv (lv' := [(0, .ref (ad 39)), (1, .int x1), (2, .int x2)]) rfl ?_
  unfold f_X6_show at h
  refine g_iload_n F (dAt dk_X6_show 0 rfl) 1 rfl ?_
  refine g_iconst (v := 0) F (dAt dk_X6_show 1 rfl) (by decide) ?_
  refine g_bipush (v := 7) F (dAt dk_X6_show 2 rfl) (by decide) ?_
  refine g_invS_ip F ms_X6_within (gm mw_935 rfl) (dAt dk_X6_show 3 rfl) [.int x1, .int 0, .int 7] rfl rfl (by decide) (Nat.le_of_ble_eq_true rfl) h (fun _ hf => c_X6_within hJ hf) (fun r1 h => ?_)
  refine g_if_eq (tgt := 23) F (dAt dk_X6_show 4 rfl) (by decide) h (fun c2 h => ?_) (fun c2 h => ?_)
  · refine g_sub (lv' := [(0, .ref (ad 39))]) [0] rfl ?_
    exact J23  u h
  · refine g_iload_n F (dAt dk_X6_show 5 rfl) 2 rfl ?_
    refine g_iconst (v := (-1)) F (dAt dk_X6_show 6 rfl) (by decide) ?_
    refine g_icmp_eq (tgt := 29) F (dAt dk_X6_show 7 rfl) (by decide) h (fun c3 h => ?_) (fun c3 h => ?_)
    · refine g_sub (lv' := [(0, .ref (ad 39)), (1, .int x1), (2, .int x2)]) [0, 1, 2] rfl ?_
      exact J29  u h
    · refine g_aload_n F (dAt dk_X6_show 8 rfl) 0 rfl ?_
      refine g_iload_n F (dAt dk_X6_show 9 rfl) 2 rfl ?_
      refine g_invV_im F mi_X6_isPlace (gm mw_966 rfl) (dAt dk_X6_show 10 rfl) (rcx_of F rc_Model) [.int x2] rfl rfl (by decide) (Nat.le_of_ble_eq_true rfl) h (fun _ _ hf => c_X6_isPlace hJ hf) (fun r4 t5 h => ?_)
      refine g_if_ne (tgt := 29) F (dAt dk_X6_show 11 rfl) (by decide) h (fun c6 h => ?_) (fun c6 h => ?_)
      · refine g_sub (lv' := [(0, .ref (ad 39)), (1, .int x1), (2, .int x2)]) [0, 1, 2] rfl ?_
        exact J29  t5 h
      · refine g_sub (lv' := [(0, .ref (ad 39))]) [0] rfl ?_
        exact J23  t5 h
theorem mi_X6_holds : MI yX6_holds cX6_holds 2 (some .int) "MillOfDistancesModel" 1 := ⟨(gm mw_973 rfl), (gm mw_971 rfl), (gm mw_972 rfl), (gm mw_75 rfl), by decide +kernel, by decide⟩
theorem c_X6_holds {l : Launch} {D : va_G} {ad : Nat → Nat} {g : Gv} {t u : Mem} {x1 : Int32} {u' : Mem} {r : Int32} (hJ : Jad ad) (h : f_X6_holds x1 u = some (r, u')) : ConI l yX6_holds cX6_holds 2 (some .int) 1 [.ref (ad 39), .int x1] D ad g t u t u' r := by
  refine con_i hJ (by decide) (Nat.le_of_ble_eq_true rfl) rfl (fun X F E => ?_)
  refine g_lv (lv' := [(0, .ref (ad 39)), (1, .int x1)]) rfl ?_
  unfold f_X6_holds at h
  refine g_iload_n F (dAt dk_X6_holds 0 rfl) 1 rfl ?_
  refine g_iconst (v := 0) F (dAt dk_X6_holds 1 rfl) (by decide) ?_
  refine g_bipush (v := 7) F (dAt dk_X6_holds 2 rfl) (by decide) ?_
  refine g_invS_ip F ms_X6_within (gm mw_935 rfl) (dAt dk_X6_holds 3 rfl) [.int x1, .int 0, .int 7] rfl rfl (by decide) (Nat.le_of_ble_eq_true rfl) h (fun _ hf => c_X6_within hJ hf) (fun r1 h => ?_)
  refine g_if_eq (tgt := 19) F (dAt dk_X6_holds 4 rfl) (by decide) h (fun c2 h => ?_) (fun c2 h => ?_)
  · refine g_iconst (v := (-1)) F (dAt dk_X6_holds 10 rfl) (by decide) ?_
    cases h
    exact E (dAt dk_X6_holds 11 rfl) rfl
  · refine g_aload_n F (dAt dk_X6_holds 5 rfl) 0 rfl ?_
    refine gg_Model_holding F (gm mw_864 rfl) (dAt dk_X6_holds 6 rfl) ?_
    refine g_iload_n F (dAt dk_X6_holds 7 rfl) 1 rfl ?_
    refine g_ck h (fun hi3 h => ?_)
    refine g_ialoadm F am_holding (dAt dk_X6_holds 8 rfl) hi3 ?_
    refine g_goto (tgt := 20) F (dAt dk_X6_holds 9 rfl) (by decide) ?_
    cases h
    exact E (dAt dk_X6_holds 11 rfl) rfl
theorem ms_X6_above : MS yX6_above cX6_above 1 (some .int) 1 := ⟨(gm mw_983 rfl), (gm mw_982 rfl), (gm mw_75 rfl), by decide +kernel, by decide⟩
theorem c_X6_above {l : Launch} {D : va_G} {ad : Nat → Nat} {g : Gv} {t u : Mem} {x0 : Int32} {r : Int32} (hJ : Jad ad) (h : f_X6_above x0 = some r) : ConI l yX6_above cX6_above 1 (some .int) 0 [.int x0] D ad g t u t u r := by
  refine con_i hJ (by decide) (Nat.le_of_ble_eq_true rfl) rfl (fun X F E => ?_)
  refine g_lv (lv' := [(0, .int x0)]) rfl ?_
  unfold f_X6_above at h
  refine g_iload_n F (dAt dk_X6_above 0 rfl) 0 rfl ?_
  refine g_iconst (v := 3) F (dAt dk_X6_above 1 rfl) (by decide) ?_
  refine g_icmp_ne (tgt := 9) F (dAt dk_X6_above 2 rfl) (by decide) h (fun c1 h => ?_) (fun c1 h => ?_)
  · refine g_iload_n F (dAt dk_X6_above 5 rfl) 0 rfl ?_
    refine g_iconst (v := 5) F (dAt dk_X6_above 6 rfl) (by decide) ?_
    refine g_icmp_ne (tgt := 18) F (dAt dk_X6_above 7 rfl) (by decide) h (fun c2 h => ?_) (fun c2 h => ?_)
    · refine g_iload_n F (dAt dk_X6_above 10 rfl) 0 rfl ?_
      refine g_bipush (v := 6) F (dAt dk_X6_above 11 rfl) (by decide) ?_
      refine g_icmp_ne (tgt := 28) F (dAt dk_X6_above 12 rfl) (by decide) h (fun c3 h => ?_) (fun c3 h => ?_)
      · refine g_iconst (v := 0) F (dAt dk_X6_above 15 rfl) (by decide) ?_
        cases h
        exact E (dAt dk_X6_above 16 rfl) rfl
      · refine g_iconst (v := 4) F (dAt dk_X6_above 13 rfl) (by decide) ?_
        refine g_goto (tgt := 29) F (dAt dk_X6_above 14 rfl) (by decide) ?_
        cases h
        exact E (dAt dk_X6_above 16 rfl) rfl
    · refine g_iconst (v := 2) F (dAt dk_X6_above 8 rfl) (by decide) ?_
      refine g_goto (tgt := 29) F (dAt dk_X6_above 9 rfl) (by decide) ?_
      cases h
      exact E (dAt dk_X6_above 16 rfl) rfl
  · refine g_iconst (v := 1) F (dAt dk_X6_above 3 rfl) (by decide) ?_
    refine g_goto (tgt := 29) F (dAt dk_X6_above 4 rfl) (by decide) ?_
    cases h
    exact E (dAt dk_X6_above 16 rfl) rfl
theorem ms_X6_isUnder : MS yX6_isUnder cX6_isUnder 3 (some .boolean) 2 := ⟨(gm mw_980 rfl), (gm mw_979 rfl), (gm mw_75 rfl), by decide +kernel, by decide⟩
theorem c_X6_isUnder {l : Launch} {D : va_G} {ad : Nat → Nat} {g : Gv} {t u : Mem} {n : Nat} {x0 : Int32} {x1 : Int32} {r : Int32} (hJ : Jad ad) (h : f_X6_isUnder n x0 x1 = some r) : ConI l yX6_isUnder cX6_isUnder 3 (some .boolean) 1 [.int x0, .int x1] D ad g t u t u r := by
  refine con_i hJ (by decide) (Nat.le_of_ble_eq_true rfl) rfl (fun X F E => ?_)
  have J19 : ∀ (v2 : Int32), jn_X6_isUnder_19 n x0 x1 v2 = some r → G X D ad g t u [(1, .int x1), (2, .int v2)] 19 [] := by
    intro v2 h
    unfold jn_X6_isUnder_19 at h
    refine g_iload_n F (dAt dk_X6_isUnder 11 rfl) 1 rfl ?_
    refine g_iload_n F (dAt dk_X6_isUnder 12 rfl) 0 rfl ?_
    refine g_icmp_ne (tgt := 28) F (dAt dk_X6_isUnder 13 rfl) (by decide) h (fun c4 h => ?_) (fun c4 h => ?_)
    · refine g_iconst (v := 0) F (dAt dk_X6_isUnder 16 rfl) (by decide) ?_
      cases h
      exact E (dAt dk_X6_isUnder 17 rfl) rfl
    · refine g_iconst (v := 1) F (dAt dk_X6_isUnder 14 rfl) (by decide) ?_
      refine g_goto (tgt := 29) F (dAt dk_X6_isUnder 15 rfl) (by decide) ?_
      cases h
      exact E (dAt dk_X6_isUnder 17 rfl) rfl
  have H2 : ∀ (k : Nat) (s : Int32), iter (bd_X6_isUnder_2 n x0 x1) k s = some r → G X D ad g t u [(1, .int x1), (2, .int s)] 2 [] := by
    refine iter_walk (P := fun (s : Int32) => G X D ad g t u [(1, .int x1), (2, .int s)] 2 []) (fun self2 ih2 s h => ?_)
    obtain ⟨v2, rfl⟩ : ∃ z, z = s := ⟨_, rfl⟩
    change G X D ad g t u [(1, .int x1), (2, .int v2)] 2 []
    unfold bd_X6_isUnder_2 at h; try dsimp only at h
    refine g_iload_n F (dAt dk_X6_isUnder 2 rfl) 1 rfl ?_
    refine g_iload_n F (dAt dk_X6_isUnder 3 rfl) 0 rfl ?_
    refine g_icmp_eq (tgt := 19) F (dAt dk_X6_isUnder 4 rfl) (by decide) h (fun c1 h => ?_) (fun c1 h => ?_)
    · refine g_sub (lv' := [(1, .int x1), (2, .int v2)]) [0, 1] rfl ?_
      exact J19  v2 h
    · refine g_iload_n F (dAt dk_X6_isUnder 5 rfl) 1 rfl ?_
      refine g_if_le (tgt := 19) F (dAt dk_X6_isUnder 6 rfl) (by decide) h (fun c2 h => ?_) (fun c2 h => ?_)
      · refine g_sub (lv' := [(1, .int x1), (2, .int v2)]) [0, 1] rfl ?_
        exact J19  v2 h
      · refine g_iload_n F (dAt dk_X6_isUnder 7 rfl) 1 rfl ?_
        refine g_invS_ip F ms_X6_above (gm mw_981 rfl) (dAt dk_X6_isUnder 8 rfl) [.int v2] rfl rfl (by decide) (Nat.le_of_ble_eq_true rfl) h (fun _ hf => c_X6_above hJ hf) (fun r3 h => ?_)
        refine g_istore_n (lv' := [(2, .int r3), (1, .int x1)]) F (dAt dk_X6_isUnder 9 rfl) (by decide) rfl ?_
        refine g_goto (tgt := 2) F (dAt dk_X6_isUnder 10 rfl) (by decide) ?_
        refine g_sub (lv' := [(1, .int x1), (2, .int r3)]) [1, 0] rfl ?_
        exact ih2 (r3) h
  refine g_lv (lv' := [(0, .int x0), (1, .int x1)]) rfl ?_
  unfold f_X6_isUnder at h
  refine g_iload_n F (dAt dk_X6_isUnder 0 rfl) 0 rfl ?_
  refine g_istore_n (lv' := [(2, .int x0), (0, .int x0), (1, .int x1)]) F (dAt dk_X6_isUnder 1 rfl) (by decide) rfl ?_
  refine g_sub (lv' := [(1, .int x1), (2, .int x0)]) [2, 0] rfl ?_
  exact H2  n (x0) h
theorem mi_X6_roads : MI yX6_roads cX6_roads 4 (some .int) "MillOfDistancesModel" 1 := ⟨(gm mw_987 rfl), (gm mw_986 rfl), (gm mw_29 rfl), (gm mw_75 rfl), by decide +kernel, by decide⟩
theorem c_X6_roads {l : Launch} {D : va_G} {ad : Nat → Nat} {g : Gv} {t u : Mem} {n : Nat} {x1 : Int32} {u' : Mem} {r : Int32} (hJ : Jad ad) (h : f_X6_roads n x1 u = some (r, u')) : ConI l yX6_roads cX6_roads 4 (some .int) 0 [.ref (ad 39), .int x1] D ad g t u t u' r := by
  refine con_i hJ (by decide) (Nat.le_of_ble_eq_true rfl) rfl (fun X F E => ?_)
  have H4 : ∀ (k : Nat) (s : Int32 × Int32 × Mem), iter (bd_X6_roads_4 n x1) k s = some (r, u') → G X D ad g t s.2.2 [(0, .ref (ad 39)), (1, .int x1), (2, .int s.1), (3, .int s.2.1)] 4 [] := by
    refine iter_walk (P := fun (s : Int32 × Int32 × Mem) => G X D ad g t s.2.2 [(0, .ref (ad 39)), (1, .int x1), (2, .int s.1), (3, .int s.2.1)] 4 []) (fun self4 ih4 s h => ?_)
    obtain ⟨v2, v3, u0⟩ := s
    change G X D ad g t u0 [(0, .ref (ad 39)), (1, .int x1), (2, .int v2), (3, .int v3)] 4 []
    unfold bd_X6_roads_4 at h; try dsimp only at h
    refine g_iload_n F (dAt dk_X6_roads 4 rfl) 3 rfl ?_
    refine g_aload_n F (dAt dk_X6_roads 5 rfl) 0 rfl ?_
    refine gg_Model_places F (gm mw_867 rfl) (dAt dk_X6_roads 6 rfl) ?_
    refine g_icmp_ge (tgt := 38) F (dAt dk_X6_roads 7 rfl) (by decide) h (fun c1 h => ?_) (fun c1 h => ?_)
    · refine g_iload_n F (dAt dk_X6_roads 25 rfl) 2 rfl ?_
      cases h
      exact E (dAt dk_X6_roads 26 rfl) rfl
    · refine g_aload_n F (dAt dk_X6_roads 8 rfl) 0 rfl ?_
      refine gg_Model_miles F (gm mw_870 rfl) (dAt dk_X6_roads 9 rfl) ?_
      refine g_bipush (v := 8) F (dAt dk_X6_roads 10 rfl) (by decide) ?_
      refine g_iload_n F (dAt dk_X6_roads 11 rfl) 1 rfl ?_
      refine g_imul F (dAt dk_X6_roads 12 rfl) ?_
      refine g_iload_n F (dAt dk_X6_roads 13 rfl) 3 rfl ?_
      refine g_iadd F (dAt dk_X6_roads 14 rfl) ?_
      refine g_ck h (fun hi2 h => ?_)
      refine g_ialoadm F am_miles (dAt dk_X6_roads 15 rfl) hi2 ?_
      refine g_if_le (tgt := 32) F (dAt dk_X6_roads 16 rfl) (by decide) h (fun c3 h => ?_) (fun c3 h => ?_)
      · refine g_iinc (lv' := [(3, .int (v3 + 1)), (0, .ref (ad 39)), (1, .int x1), (2, .int v2)]) F (dAt dk_X6_roads 23 rfl) 3 rfl (w := 1) (by decide) (by decide) rfl ?_
        refine g_goto (tgt := 4) F (dAt dk_X6_roads 24 rfl) (by decide) ?_
        refine g_sub (lv' := [(0, .ref (ad 39)), (1, .int x1), (2, .int v2), (3, .int (v3 + 1))]) [1, 2, 3, 0] rfl ?_
        exact ih4 (v2, (v3 + 1), u0) h
      · refine g_iload_n F (dAt dk_X6_roads 17 rfl) 2 rfl ?_
        refine g_iconst (v := 1) F (dAt dk_X6_roads 18 rfl) (by decide) ?_
        refine g_iload_n F (dAt dk_X6_roads 19 rfl) 3 rfl ?_
        refine g_ishl F (dAt dk_X6_roads 20 rfl) ?_
        refine g_ior F (dAt dk_X6_roads 21 rfl) ?_
        refine g_lti h (fun y4 h => ?_)
        refine g_istore_n (lv' := [(2, .int y4), (0, .ref (ad 39)), (1, .int x1), (3, .int v3)]) F (dAt dk_X6_roads 22 rfl) (by decide) rfl ?_
        refine g_iinc (lv' := [(3, .int (v3 + 1)), (2, .int y4), (0, .ref (ad 39)), (1, .int x1)]) F (dAt dk_X6_roads 23 rfl) 3 rfl (w := 1) (by decide) (by decide) rfl ?_
        refine g_goto (tgt := 4) F (dAt dk_X6_roads 24 rfl) (by decide) ?_
        refine g_sub (lv' := [(0, .ref (ad 39)), (1, .int x1), (2, .int y4), (3, .int (v3 + 1))]) [2, 3, 1, 0] rfl ?_
        exact ih4 (y4, (v3 + 1), u0) h
  refine g_lv (lv' := [(0, .ref (ad 39)), (1, .int x1)]) rfl ?_
  unfold f_X6_roads at h
  refine g_iconst (v := 0) F (dAt dk_X6_roads 0 rfl) (by decide) ?_
  refine g_istore_n (lv' := [(2, .int 0), (0, .ref (ad 39)), (1, .int x1)]) F (dAt dk_X6_roads 1 rfl) (by decide) rfl ?_
  refine g_iconst (v := 0) F (dAt dk_X6_roads 2 rfl) (by decide) ?_
  refine g_istore_n (lv' := [(3, .int 0), (2, .int 0), (0, .ref (ad 39)), (1, .int x1)]) F (dAt dk_X6_roads 3 rfl) (by decide) rfl ?_
  refine g_sub (lv' := [(0, .ref (ad 39)), (1, .int x1), (2, .int 0), (3, .int 0)]) [2, 3, 1, 0] rfl ?_
  exact H4  n (0, 0, u) h
theorem mi_X6_asks : MI yX6_asks cX6_asks 3 (some .int) "MillOfDistancesModel" 2 := ⟨(gm mw_992 rfl), (gm mw_991 rfl), (gm mw_30 rfl), (gm mw_75 rfl), by decide +kernel, by decide⟩
theorem c_X6_asks {l : Launch} {D : va_G} {ad : Nat → Nat} {g : Gv} {t u : Mem} {x1 : Int32} {x2 : Int32} {u' : Mem} {r : Int32} (hJ : Jad ad) (h : f_X6_asks x1 x2 u = some (r, u')) : ConI l yX6_asks cX6_asks 3 (some .int) 1 [.ref (ad 39), .int x1, .int x2] D ad g t u t u' r := by
  refine con_i hJ (by decide) (Nat.le_of_ble_eq_true rfl) rfl (fun X F E => ?_)
  refine g_lv (lv' := [(0, .ref (ad 39)), (1, .int x1), (2, .int x2)]) rfl ?_
  unfold f_X6_asks at h
  refine g_aload_n F (dAt dk_X6_asks 0 rfl) 0 rfl ?_
  refine gg_Model_kind F (gm mw_868 rfl) (dAt dk_X6_asks 1 rfl) ?_
  refine g_iload_n F (dAt dk_X6_asks 2 rfl) 1 rfl ?_
  refine g_ck h (fun hi1 h => ?_)
  refine g_ialoadm F am_kind (dAt dk_X6_asks 3 rfl) hi1 ?_
  refine g_lti h (fun y2 h => ?_)
  refine g_case 1 h (fun c3 h => ?_) (fun c3 h => ?_)
  · refine g_tabIn (v := 1) (tgt := 44) (off := 38) F (dAt dk_X6_asks 4 rfl) c3 (by decide) (by decide) rfl (by decide) ?_
    refine g_iconst (v := 2) F (dAt dk_X6_asks 5 rfl) (by decide) ?_
    refine g_iload_n F (dAt dk_X6_asks 6 rfl) 2 rfl ?_
    refine g_imul F (dAt dk_X6_asks 7 rfl) ?_
    cases h
    exact E (dAt dk_X6_asks 8 rfl) rfl
  · refine g_case 2 h (fun c4 h => ?_) (fun c4 h => ?_)
    · refine g_tabIn (v := 2) (tgt := 48) (off := 42) F (dAt dk_X6_asks 4 rfl) c4 (by decide) (by decide) rfl (by decide) ?_
      refine g_iload_n F (dAt dk_X6_asks 9 rfl) 2 rfl ?_
      refine g_aload_n F (dAt dk_X6_asks 10 rfl) 0 rfl ?_
      refine gg_Model_own F (gm mw_869 rfl) (dAt dk_X6_asks 11 rfl) ?_
      refine g_iload_n F (dAt dk_X6_asks 12 rfl) 1 rfl ?_
      refine g_ck h (fun hi5 h => ?_)
      refine g_ialoadm F am_own (dAt dk_X6_asks 13 rfl) hi5 ?_
      refine g_iadd F (dAt dk_X6_asks 14 rfl) ?_
      cases h
      exact E (dAt dk_X6_asks 15 rfl) rfl
    · refine g_case 3 h (fun c6 h => ?_) (fun c6 h => ?_)
      · refine g_tabIn (v := 3) (tgt := 57) (off := 51) F (dAt dk_X6_asks 4 rfl) c6 (by decide) (by decide) rfl (by decide) ?_
        refine g_iconst (v := 3) F (dAt dk_X6_asks 16 rfl) (by decide) ?_
        refine g_iload_n F (dAt dk_X6_asks 17 rfl) 2 rfl ?_
        refine g_imul F (dAt dk_X6_asks 18 rfl) ?_
        cases h
        exact E (dAt dk_X6_asks 19 rfl) rfl
      · refine g_case 4 h (fun c7 h => ?_) (fun c7 h => ?_)
        · refine g_tabIn (v := 4) (tgt := 61) (off := 55) F (dAt dk_X6_asks 4 rfl) c7 (by decide) (by decide) rfl (by decide) ?_
          refine g_iload_n F (dAt dk_X6_asks 20 rfl) 2 rfl ?_
          refine g_iload_n F (dAt dk_X6_asks 21 rfl) 2 rfl ?_
          refine g_bipush (v := 10) F (dAt dk_X6_asks 22 rfl) (by decide) ?_
          refine g_idiv F (dAt dk_X6_asks 23 rfl) (by decide) ?_
          refine g_isub F (dAt dk_X6_asks 24 rfl) ?_
          cases h
          exact E (dAt dk_X6_asks 25 rfl) rfl
        · refine g_case 5 h (fun c8 h => ?_) (fun c8 h => ?_)
          · refine g_tabIn (v := 5) (tgt := 68) (off := 62) F (dAt dk_X6_asks 4 rfl) c8 (by decide) (by decide) rfl (by decide) ?_
            refine g_iconst (v := 2) F (dAt dk_X6_asks 26 rfl) (by decide) ?_
            refine g_iload_n F (dAt dk_X6_asks 27 rfl) 2 rfl ?_
            refine g_imul F (dAt dk_X6_asks 28 rfl) ?_
            refine g_aload_n F (dAt dk_X6_asks 29 rfl) 0 rfl ?_
            refine gg_Model_own F (gm mw_869 rfl) (dAt dk_X6_asks 30 rfl) ?_
            refine g_iload_n F (dAt dk_X6_asks 31 rfl) 1 rfl ?_
            refine g_ck h (fun hi9 h => ?_)
            refine g_ialoadm F am_own (dAt dk_X6_asks 32 rfl) hi9 ?_
            refine g_iadd F (dAt dk_X6_asks 33 rfl) ?_
            cases h
            exact E (dAt dk_X6_asks 34 rfl) rfl
          · refine g_case 6 h (fun c10 h => ?_) (fun c10 h => ?_)
            · refine g_tabIn (v := 6) (tgt := 79) (off := 73) F (dAt dk_X6_asks 4 rfl) c10 (by decide) (by decide) rfl (by decide) ?_
              refine g_iconst (v := 0) F (dAt dk_X6_asks 35 rfl) (by decide) ?_
              refine g_iload_n F (dAt dk_X6_asks 36 rfl) 2 rfl ?_
              refine g_iload_n F (dAt dk_X6_asks 37 rfl) 2 rfl ?_
              refine g_bipush (v := 10) F (dAt dk_X6_asks 38 rfl) (by decide) ?_
              refine g_idiv F (dAt dk_X6_asks 39 rfl) (by decide) ?_
              refine g_isub F (dAt dk_X6_asks 40 rfl) ?_
              refine g_iconst (v := 1) F (dAt dk_X6_asks 41 rfl) (by decide) ?_
              refine g_isub F (dAt dk_X6_asks 42 rfl) ?_
              refine g_mmax F (gm mw_993 rfl) (dAt dk_X6_asks 43 rfl) (by decide) (Nat.le_of_ble_eq_true rfl) h (fun r11 h => ?_)
              cases h
              exact E (dAt dk_X6_asks 44 rfl) rfl
            · have := lv_neT c3 (a := 1) (by decide)
              have := lv_neT c4 (a := 2) (by decide)
              have := lv_neT c6 (a := 3) (by decide)
              have := lv_neT c7 (a := 4) (by decide)
              have := lv_neT c8 (a := 5) (by decide)
              have := lv_neT c10 (a := 6) (by decide)
              refine g_tabOut (tgt := 92) F (dAt dk_X6_asks 4 rfl) (by omega) (by decide) ?_
              refine g_iload_n F (dAt dk_X6_asks 45 rfl) 2 rfl ?_
              cases h
              exact E (dAt dk_X6_asks 46 rfl) rfl
theorem mi_X6_says : MI yX6_says cX6_says 4 (some .int) "MillOfDistancesModel" 2 := ⟨(gm mw_977 rfl), (gm mw_975 rfl), (gm mw_976 rfl), (gm mw_75 rfl), by decide +kernel, by decide⟩
theorem c_X6_says {l : Launch} {D : va_G} {ad : Nat → Nat} {g : Gv} {t u : Mem} {n : Nat} {x1 : Int32} {x2 : Int32} {u' : Mem} {r : Int32} (hJ : Jad ad) (h : f_X6_says n x1 x2 u = some (r, u')) : ConI l yX6_says cX6_says 4 (some .int) 2 [.ref (ad 39), .int x1, .int x2] D ad g t u t u' r := by
  refine con_i hJ (by decide) (Nat.le_of_ble_eq_true rfl) rfl (fun X F E => ?_)
  have J20 : ∀ (u0 : Mem), jn_X6_says_20 n x1 x2 u0 = some (r, u') → G X D ad g t u0 [(0, .ref (ad 39))] 20 [] := by
    intro u0 h
    unfold jn_X6_says_20 at h
    refine g_aload_n F (dAt dk_X6_says 10 rfl) 0 rfl ?_
    refine g_iconst (v := (-1)) F (dAt dk_X6_says 11 rfl) (by decide) ?_
    refine g_invV_im F mi_X6_no (gm mw_938 rfl) (dAt dk_X6_says 12 rfl) (rcx_of F rc_Model) [.int (-1)] rfl rfl (by decide) (Nat.le_of_ble_eq_true rfl) h (fun _ _ hf => c_X6_no hJ hf) (fun r13 t14 h => ?_)
    cases h
    exact E (dAt dk_X6_says 13 rfl) rfl
  have J65 : ∀ (v3 : Int32) (u0 : Mem), jn_X6_says_65 n x1 x2 v3 u0 = some (r, u') → G X D ad g t u0 [(0, .ref (ad 39)), (2, .int x2), (3, .int v3)] 65 [] := by
    intro v3 u0 h
    unfold jn_X6_says_65 at h
    refine g_iload_n F (dAt dk_X6_says 36 rfl) 2 rfl ?_
    refine g_if_ge (tgt := 76) F (dAt dk_X6_says 37 rfl) (by decide) h (fun c15 h => ?_) (fun c15 h => ?_)
    · refine g_iload_n F (dAt dk_X6_says 42 rfl) 1 rfl ?_
      refine g_case 0 h (fun c16 h => ?_) (fun c16 h => ?_)
      · refine g_tabIn (v := 0) (tgt := 116) (off := 39) F (dAt dk_X6_says 43 rfl) c16 (by decide) (by decide) rfl (by decide) ?_
        refine g_aload_n F (dAt dk_X6_says 44 rfl) 0 rfl ?_
        refine g_iload_n F (dAt dk_X6_says 45 rfl) 2 rfl ?_
        refine g_invV_im F mi_X6_roads (gm mw_984 rfl) (dAt dk_X6_says 46 rfl) (rcx_of F rc_Model) [.int v3] rfl rfl (by decide) (Nat.le_of_ble_eq_true rfl) h (fun _ _ hf => c_X6_roads hJ hf) (fun r17 t18 h => ?_)
        refine g_invS_ip F ms_J6_bitCount_0f7a4 (gm mw_988 rfl) (dAt dk_X6_says 47 rfl) [.int r17] rfl rfl (by decide) (Nat.le_of_ble_eq_true rfl) h (fun _ hf => c_J6_bitCount_0f7a4 hJ hf) (fun r19 h => ?_)
        cases h
        exact E (dAt dk_X6_says 48 rfl) rfl
      · refine g_case 1 h (fun c20 h => ?_) (fun c20 h => ?_)
        · refine g_tabIn (v := 1) (tgt := 125) (off := 48) F (dAt dk_X6_says 43 rfl) c20 (by decide) (by decide) rfl (by decide) ?_
          refine g_aload_n F (dAt dk_X6_says 49 rfl) 0 rfl ?_
          refine g_iload_n F (dAt dk_X6_says 50 rfl) 2 rfl ?_
          refine g_bipush (v := 10) F (dAt dk_X6_says 51 rfl) (by decide) ?_
          refine g_invV_im F mi_X6_asks (gm mw_989 rfl) (dAt dk_X6_says 52 rfl) (rcx_of F rc_Model) [.int v3, .int 10] rfl rfl (by decide) (Nat.le_of_ble_eq_true rfl) h (fun _ _ hf => c_X6_asks hJ hf) (fun r21 t22 h => ?_)
          cases h
          exact E (dAt dk_X6_says 53 rfl) rfl
        · refine g_case 2 h (fun c23 h => ?_) (fun c23 h => ?_)
          · refine g_tabIn (v := 2) (tgt := 133) (off := 56) F (dAt dk_X6_says 43 rfl) c23 (by decide) (by decide) rfl (by decide) ?_
            refine g_aload_n F (dAt dk_X6_says 54 rfl) 0 rfl ?_
            refine g_iload_n F (dAt dk_X6_says 55 rfl) 2 rfl ?_
            refine g_iconst (v := 1) F (dAt dk_X6_says 56 rfl) (by decide) ?_
            refine g_invV_im F mi_X6_asks (gm mw_989 rfl) (dAt dk_X6_says 57 rfl) (rcx_of F rc_Model) [.int v3, .int 1] rfl rfl (by decide) (Nat.le_of_ble_eq_true rfl) h (fun _ _ hf => c_X6_asks hJ hf) (fun r24 t25 h => ?_)
            cases h
            exact E (dAt dk_X6_says 58 rfl) rfl
          · refine g_case 3 h (fun c26 h => ?_) (fun c26 h => ?_)
            · refine g_tabIn (v := 3) (tgt := 125) (off := 48) F (dAt dk_X6_says 43 rfl) c26 (by decide) (by decide) rfl (by decide) ?_
              refine g_aload_n F (dAt dk_X6_says 49 rfl) 0 rfl ?_
              refine g_iload_n F (dAt dk_X6_says 50 rfl) 2 rfl ?_
              refine g_bipush (v := 10) F (dAt dk_X6_says 51 rfl) (by decide) ?_
              refine g_invV_im F mi_X6_asks (gm mw_989 rfl) (dAt dk_X6_says 52 rfl) (rcx_of F rc_Model) [.int v3, .int 10] rfl rfl (by decide) (Nat.le_of_ble_eq_true rfl) h (fun _ _ hf => c_X6_asks hJ hf) (fun r27 t28 h => ?_)
              cases h
              exact E (dAt dk_X6_says 53 rfl) rfl
            · refine g_case 4 h (fun c29 h => ?_) (fun c29 h => ?_)
              · refine g_tabIn (v := 4) (tgt := 140) (off := 63) F (dAt dk_X6_says 43 rfl) c29 (by decide) (by decide) rfl (by decide) ?_
                refine g_aload_n F (dAt dk_X6_says 59 rfl) 0 rfl ?_
                refine g_iload_n F (dAt dk_X6_says 60 rfl) 2 rfl ?_
                refine g_bipush (v := 99) F (dAt dk_X6_says 61 rfl) (by decide) ?_
                refine g_invV_im F mi_X6_asks (gm mw_989 rfl) (dAt dk_X6_says 62 rfl) (rcx_of F rc_Model) [.int v3, .int 99] rfl rfl (by decide) (Nat.le_of_ble_eq_true rfl) h (fun _ _ hf => c_X6_asks hJ hf) (fun r30 t31 h => ?_)
                cases h
                exact E (dAt dk_X6_says 63 rfl) rfl
              · refine g_case 5 h (fun c32 h => ?_) (fun c32 h => ?_)
                · refine g_tabIn (v := 5) (tgt := 133) (off := 56) F (dAt dk_X6_says 43 rfl) c32 (by decide) (by decide) rfl (by decide) ?_
                  refine g_aload_n F (dAt dk_X6_says 54 rfl) 0 rfl ?_
                  refine g_iload_n F (dAt dk_X6_says 55 rfl) 2 rfl ?_
                  refine g_iconst (v := 1) F (dAt dk_X6_says 56 rfl) (by decide) ?_
                  refine g_invV_im F mi_X6_asks (gm mw_989 rfl) (dAt dk_X6_says 57 rfl) (rcx_of F rc_Model) [.int v3, .int 1] rfl rfl (by decide) (Nat.le_of_ble_eq_true rfl) h (fun _ _ hf => c_X6_asks hJ hf) (fun r33 t34 h => ?_)
                  cases h
                  exact E (dAt dk_X6_says 58 rfl) rfl
                · have := lv_neT c16 (a := 0) (by decide)
                  have := lv_neT c20 (a := 1) (by decide)
                  have := lv_neT c23 (a := 2) (by decide)
                  have := lv_neT c26 (a := 3) (by decide)
                  have := lv_neT c29 (a := 4) (by decide)
                  have := lv_neT c32 (a := 5) (by decide)
                  refine g_tabOut (tgt := 140) F (dAt dk_X6_says 43 rfl) (by omega) (by decide) ?_
                  refine g_aload_n F (dAt dk_X6_says 59 rfl) 0 rfl ?_
                  refine g_iload_n F (dAt dk_X6_says 60 rfl) 2 rfl ?_
                  refine g_bipush (v := 99) F (dAt dk_X6_says 61 rfl) (by decide) ?_
                  refine g_invV_im F mi_X6_asks (gm mw_989 rfl) (dAt dk_X6_says 62 rfl) (rcx_of F rc_Model) [.int v3, .int 99] rfl rfl (by decide) (Nat.le_of_ble_eq_true rfl) h (fun _ _ hf => c_X6_asks hJ hf) (fun r35 t36 h => ?_)
                  cases h
                  exact E (dAt dk_X6_says 63 rfl) rfl
    · refine g_aload_n F (dAt dk_X6_says 38 rfl) 0 rfl ?_
      refine g_bipush (v := (-3)) F (dAt dk_X6_says 39 rfl) (by decide) ?_
      refine g_invV_im F mi_X6_no (gm mw_938 rfl) (dAt dk_X6_says 40 rfl) (rcx_of F rc_Model) [.int (-3)] rfl rfl (by decide) (Nat.le_of_ble_eq_true rfl) h (fun _ _ hf => c_X6_no hJ hf) (fun r37 t38 h => ?_)
      cases h
      exact E (dAt dk_X6_says 41 rfl) rfl
  have J58 : ∀ (u0 : Mem), jn_X6_says_58 n x1 x2 u0 = some (r, u') → G X D ad g t u0 [(0, .ref (ad 39))] 58 [] := by
    intro u0 h
    unfold jn_X6_says_58 at h
    refine g_aload_n F (dAt dk_X6_says 32 rfl) 0 rfl ?_
    refine g_bipush (v := (-2)) F (dAt dk_X6_says 33 rfl) (by decide) ?_
    refine g_invV_im F mi_X6_no (gm mw_938 rfl) (dAt dk_X6_says 34 rfl) (rcx_of F rc_Model) [.int (-2)] rfl rfl (by decide) (Nat.le_of_ble_eq_true rfl) h (fun _ _ hf => c_X6_no hJ hf) (fun r39 t40 h => ?_)
    cases h
    exact E (dAt dk_X6_says 35 rfl) rfl
  refine g_lv (lv' := [(0, .ref (ad 39)), (1, .int x1), (2, .int x2)]) rfl ?_
  unfold f_X6_says at h
  refine g_iload_n F (dAt dk_X6_says 0 rfl) 1 rfl ?_
  refine g_iconst (v := 0) F (dAt dk_X6_says 1 rfl) (by decide) ?_
  refine g_bipush (v := 7) F (dAt dk_X6_says 2 rfl) (by decide) ?_
  refine g_invS_ip F ms_X6_within (gm mw_935 rfl) (dAt dk_X6_says 3 rfl) [.int x1, .int 0, .int 7] rfl rfl (by decide) (Nat.le_of_ble_eq_true rfl) h (fun _ hf => c_X6_within hJ hf) (fun r1 h => ?_)
  refine g_if_eq (tgt := 20) F (dAt dk_X6_says 4 rfl) (by decide) h (fun c2 h => ?_) (fun c2 h => ?_)
  · refine g_sub (lv' := [(0, .ref (ad 39))]) [0] rfl ?_
    exact J20  u h
  · refine g_iload_n F (dAt dk_X6_says 5 rfl) 2 rfl ?_
    refine g_iconst (v := 0) F (dAt dk_X6_says 6 rfl) (by decide) ?_
    refine g_bipush (v := 6) F (dAt dk_X6_says 7 rfl) (by decide) ?_
    refine g_invS_ip F ms_X6_within (gm mw_935 rfl) (dAt dk_X6_says 8 rfl) [.int x2, .int 0, .int 6] rfl rfl (by decide) (Nat.le_of_ble_eq_true rfl) h (fun _ hf => c_X6_within hJ hf) (fun r3 h => ?_)
    refine g_if_ne (tgt := 26) F (dAt dk_X6_says 9 rfl) (by decide) h (fun c4 h => ?_) (fun c4 h => ?_)
    · refine g_aload_n F (dAt dk_X6_says 14 rfl) 0 rfl ?_
      refine gg_Model_holding F (gm mw_864 rfl) (dAt dk_X6_says 15 rfl) ?_
      refine g_iload_n F (dAt dk_X6_says 16 rfl) 1 rfl ?_
      refine g_ck h (fun hi5 h => ?_)
      refine g_ialoadm F am_holding (dAt dk_X6_says 17 rfl) hi5 ?_
      refine g_istore_n (lv' := [(3, .int (u.1 40 x1.toNatClampNeg)), (0, .ref (ad 39)), (1, .int x1), (2, .int x2)]) F (dAt dk_X6_says 18 rfl) (by decide) rfl ?_
      refine g_iload_n F (dAt dk_X6_says 19 rfl) 0 rfl ?_
      refine g_if_lt (tgt := 65) F (dAt dk_X6_says 20 rfl) (by decide) h (fun c6 h => ?_) (fun c6 h => ?_)
      · refine g_sub (lv' := [(0, .ref (ad 39)), (2, .int x2), (3, .int (u.1 40 x1.toNatClampNeg))]) [1, 3, 0] rfl ?_
        exact J65  (u.1 40 x1.toNatClampNeg) u h
      · refine g_aload_n F (dAt dk_X6_says 21 rfl) 1 rfl ?_
        refine g_iload_n F (dAt dk_X6_says 22 rfl) 2 rfl ?_
        refine g_invV_im F mi_X6_isRow (gm mw_950 rfl) (dAt dk_X6_says 23 rfl) (rcx_of F rc_Model) [.int x1] rfl rfl (by decide) (Nat.le_of_ble_eq_true rfl) h (fun _ _ hf => c_X6_isRow hJ hf) (fun r7 t8 h => ?_)
        refine g_if_ne (tgt := 58) F (dAt dk_X6_says 24 rfl) (by decide) h (fun c9 h => ?_) (fun c9 h => ?_)
        · refine g_sub (lv' := [(0, .ref (ad 39))]) [1] rfl ?_
          exact J58  t8 h
        · refine g_aload_n F (dAt dk_X6_says 25 rfl) 1 rfl ?_
          refine gg_Model_kind F (gm mw_868 rfl) (dAt dk_X6_says 26 rfl) ?_
          refine g_iload_n F (dAt dk_X6_says 27 rfl) 0 rfl ?_
          refine g_ck h (fun hi10 h => ?_)
          refine g_ialoadm F am_kind (dAt dk_X6_says 28 rfl) hi10 ?_
          refine g_iload_n F (dAt dk_X6_says 29 rfl) 3 rfl ?_
          refine g_invS_ip F ms_X6_isUnder (gm mw_978 rfl) (dAt dk_X6_says 30 rfl) [.int (t8.1 43 (u.1 40 x1.toNatClampNeg).toNatClampNeg), .int x2] rfl rfl (by decide) (Nat.le_of_ble_eq_true rfl) h (fun _ hf => c_X6_isUnder hJ hf) (fun r11 h => ?_)
          refine g_if_ne (tgt := 65) F (dAt dk_X6_says 31 rfl) (by decide) h (fun c12 h => ?_) (fun c12 h => ?_)
          · refine g_sub (lv' := [(0, .ref (ad 39)), (2, .int x2), (3, .int (u.1 40 x1.toNatClampNeg))]) [1, 3, 0] rfl ?_
            exact J65  (u.1 40 x1.toNatClampNeg) t8 h
          · refine g_sub (lv' := [(0, .ref (ad 39))]) [1] rfl ?_
            exact J58  t8 h
    · refine g_sub (lv' := [(0, .ref (ad 39))]) [0] rfl ?_
      exact J20  u h
theorem mi_X6_newPlace : MI yX6_newPlace cX6_newPlace 4 (some .int) "MillOfDistancesModel" 2 := ⟨(gm mw_1001 rfl), (gm mw_1000 rfl), (gm mw_31 rfl), (gm mw_75 rfl), by decide +kernel, by decide⟩
theorem c_X6_newPlace {l : Launch} {D : va_G} {ad : Nat → Nat} {g : Gv} {t u : Mem} {n : Nat} {x1 : Int32} {x2 : Int32} {u' : Mem} {r : Int32} (hJ : Jad ad) (h : f_X6_newPlace n x1 x2 u = some (r, u')) : ConI l yX6_newPlace cX6_newPlace 4 (some .int) 0 [.ref (ad 39), .int x1, .int x2] D ad g t u t u' r := by
  refine con_i hJ (by decide) (Nat.le_of_ble_eq_true rfl) rfl (fun X F E => ?_)
  have H22 : ∀ (k : Nat) (s : Int32 × Mem), iter (bd_X6_newPlace_22 n x1 x2) k s = some (r, u') → G X D ad g t s.2 [(0, .ref (ad 39)), (3, .int s.1)] 22 [] := by
    refine iter_walk (P := fun (s : Int32 × Mem) => G X D ad g t s.2 [(0, .ref (ad 39)), (3, .int s.1)] 22 []) (fun self22 ih22 s h => ?_)
    obtain ⟨v3, u0⟩ := s
    change G X D ad g t u0 [(0, .ref (ad 39)), (3, .int v3)] 22 []
    unfold bd_X6_newPlace_22 at h; try dsimp only at h
    refine g_iload_n F (dAt dk_X6_newPlace 14 rfl) 1 rfl ?_
    refine g_bipush (v := 8) F (dAt dk_X6_newPlace 15 rfl) (by decide) ?_
    refine g_icmp_ge (tgt := 64) F (dAt dk_X6_newPlace 16 rfl) (by decide) h (fun c5 h => ?_) (fun c5 h => ?_)
    · refine g_aload_n F (dAt dk_X6_newPlace 39 rfl) 0 rfl ?_
      refine g_dup F (dAt dk_X6_newPlace 40 rfl) rfl ?_
      refine gg_Model_places F (gm mw_867 rfl) (dAt dk_X6_newPlace 41 rfl) ?_
      refine g_dup_x1 F (dAt dk_X6_newPlace 42 rfl) rfl rfl ?_
      refine g_iconst (v := 1) F (dAt dk_X6_newPlace 43 rfl) (by decide) ?_
      refine g_iadd F (dAt dk_X6_newPlace 44 rfl) ?_
      refine gp_Model_places F (gm mw_867 rfl) (dAt dk_X6_newPlace 45 rfl) ?_
      refine g_ltu h (fun t6 h => ?_)
      cases h
      exact E (dAt dk_X6_newPlace 46 rfl) rfl
    · refine g_aload_n F (dAt dk_X6_newPlace 17 rfl) 0 rfl ?_
      refine gg_Model_miles F (gm mw_870 rfl) (dAt dk_X6_newPlace 18 rfl) ?_
      refine g_bipush (v := 8) F (dAt dk_X6_newPlace 19 rfl) (by decide) ?_
      refine g_aload_n F (dAt dk_X6_newPlace 20 rfl) 0 rfl ?_
      refine gg_Model_places F (gm mw_867 rfl) (dAt dk_X6_newPlace 21 rfl) ?_
      refine g_imul F (dAt dk_X6_newPlace 22 rfl) ?_
      refine g_iload_n F (dAt dk_X6_newPlace 23 rfl) 1 rfl ?_
      refine g_iadd F (dAt dk_X6_newPlace 24 rfl) ?_
      refine g_iconst (v := 0) F (dAt dk_X6_newPlace 25 rfl) (by decide) ?_
      refine g_ck h (fun hi7 h => ?_)
      refine g_iastorem F am_miles (dAt dk_X6_newPlace 26 rfl) hi7 ?_
      refine g_ltu h (fun t8 h => ?_)
      refine g_aload_n F (dAt dk_X6_newPlace 27 rfl) 0 rfl ?_
      refine gg_Model_miles F (gm mw_870 rfl) (dAt dk_X6_newPlace 28 rfl) ?_
      refine g_bipush (v := 8) F (dAt dk_X6_newPlace 29 rfl) (by decide) ?_
      refine g_iload_n F (dAt dk_X6_newPlace 30 rfl) 1 rfl ?_
      refine g_imul F (dAt dk_X6_newPlace 31 rfl) ?_
      refine g_aload_n F (dAt dk_X6_newPlace 32 rfl) 0 rfl ?_
      refine gg_Model_places F (gm mw_867 rfl) (dAt dk_X6_newPlace 33 rfl) ?_
      refine g_iadd F (dAt dk_X6_newPlace 34 rfl) ?_
      refine g_iconst (v := 0) F (dAt dk_X6_newPlace 35 rfl) (by decide) ?_
      refine g_ck h (fun hi9 h => ?_)
      refine g_iastorem F am_miles (dAt dk_X6_newPlace 36 rfl) hi9 ?_
      refine g_ltu h (fun t10 h => ?_)
      refine g_iinc (lv' := [(3, .int (v3 + 1)), (0, .ref (ad 39))]) F (dAt dk_X6_newPlace 37 rfl) 1 rfl (w := 1) (by decide) (by decide) rfl ?_
      refine g_goto (tgt := 22) F (dAt dk_X6_newPlace 38 rfl) (by decide) ?_
      refine g_sub (lv' := [(0, .ref (ad 39)), (3, .int (v3 + 1))]) [1, 0] rfl ?_
      exact ih22 ((v3 + 1), t10) h
  refine g_lv (lv' := [(0, .ref (ad 39)), (1, .int x1), (2, .int x2)]) rfl ?_
  unfold f_X6_newPlace at h
  refine g_aload_n F (dAt dk_X6_newPlace 0 rfl) 0 rfl ?_
  refine gg_Model_kind F (gm mw_868 rfl) (dAt dk_X6_newPlace 1 rfl) ?_
  refine g_aload_n F (dAt dk_X6_newPlace 2 rfl) 0 rfl ?_
  refine gg_Model_places F (gm mw_867 rfl) (dAt dk_X6_newPlace 3 rfl) ?_
  refine g_iload_n F (dAt dk_X6_newPlace 4 rfl) 1 rfl ?_
  refine g_ck h (fun hi1 h => ?_)
  refine g_iastorem F am_kind (dAt dk_X6_newPlace 5 rfl) hi1 ?_
  refine g_ltu h (fun t2 h => ?_)
  refine g_aload_n F (dAt dk_X6_newPlace 6 rfl) 0 rfl ?_
  refine gg_Model_own F (gm mw_869 rfl) (dAt dk_X6_newPlace 7 rfl) ?_
  refine g_aload_n F (dAt dk_X6_newPlace 8 rfl) 0 rfl ?_
  refine gg_Model_places F (gm mw_867 rfl) (dAt dk_X6_newPlace 9 rfl) ?_
  refine g_iload_n F (dAt dk_X6_newPlace 10 rfl) 2 rfl ?_
  refine g_ck h (fun hi3 h => ?_)
  refine g_iastorem F am_own (dAt dk_X6_newPlace 11 rfl) hi3 ?_
  refine g_ltu h (fun t4 h => ?_)
  refine g_iconst (v := 0) F (dAt dk_X6_newPlace 12 rfl) (by decide) ?_
  refine g_istore_n (lv' := [(3, .int 0), (0, .ref (ad 39)), (1, .int x1), (2, .int x2)]) F (dAt dk_X6_newPlace 13 rfl) (by decide) rfl ?_
  refine g_sub (lv' := [(0, .ref (ad 39)), (3, .int 0)]) [1, 0] rfl ?_
  exact H22  n (0, t4) h
theorem mi_X6_place : MI yX6_place cX6_place 3 (some .int) "MillOfDistancesModel" 2 := ⟨(gm mw_997 rfl), (gm mw_995 rfl), (gm mw_996 rfl), (gm mw_75 rfl), by decide +kernel, by decide⟩
theorem c_X6_place {l : Launch} {D : va_G} {ad : Nat → Nat} {g : Gv} {t u : Mem} {n : Nat} {x1 : Int32} {x2 : Int32} {u' : Mem} {r : Int32} (hJ : Jad ad) (h : f_X6_place n x1 x2 u = some (r, u')) : ConI l yX6_place cX6_place 3 (some .int) 1 [.ref (ad 39), .int x1, .int x2] D ad g t u t u' r := by
  refine con_i hJ (by decide) (Nat.le_of_ble_eq_true rfl) rfl (fun X F E => ?_)
  refine g_lv (lv' := [(0, .ref (ad 39)), (1, .int x1), (2, .int x2)]) rfl ?_
  unfold f_X6_place at h
  refine g_iload_n F (dAt dk_X6_place 0 rfl) 1 rfl ?_
  refine g_iconst (v := 0) F (dAt dk_X6_place 1 rfl) (by decide) ?_
  refine g_bipush (v := 6) F (dAt dk_X6_place 2 rfl) (by decide) ?_
  refine g_invS_ip F ms_X6_within (gm mw_935 rfl) (dAt dk_X6_place 3 rfl) [.int x1, .int 0, .int 6] rfl rfl (by decide) (Nat.le_of_ble_eq_true rfl) h (fun _ hf => c_X6_within hJ hf) (fun r1 h => ?_)
  refine g_if_ne (tgt := 16) F (dAt dk_X6_place 4 rfl) (by decide) h (fun c2 h => ?_) (fun c2 h => ?_)
  · refine g_iload_n F (dAt dk_X6_place 9 rfl) 2 rfl ?_
    refine g_iconst (v := 0) F (dAt dk_X6_place 10 rfl) (by decide) ?_
    refine g_bipush (v := 9) F (dAt dk_X6_place 11 rfl) (by decide) ?_
    refine g_invS_ip F ms_X6_within (gm mw_935 rfl) (dAt dk_X6_place 12 rfl) [.int x2, .int 0, .int 9] rfl rfl (by decide) (Nat.le_of_ble_eq_true rfl) h (fun _ hf => c_X6_within hJ hf) (fun r3 h => ?_)
    refine g_if_ne (tgt := 33) F (dAt dk_X6_place 13 rfl) (by decide) h (fun c4 h => ?_) (fun c4 h => ?_)
    · refine g_aload_n F (dAt dk_X6_place 18 rfl) 0 rfl ?_
      refine gg_Model_places F (gm mw_867 rfl) (dAt dk_X6_place 19 rfl) ?_
      refine g_bipush (v := 8) F (dAt dk_X6_place 20 rfl) (by decide) ?_
      refine g_icmp_ne (tgt := 51) F (dAt dk_X6_place 21 rfl) (by decide) h (fun c5 h => ?_) (fun c5 h => ?_)
      · refine g_aload_n F (dAt dk_X6_place 26 rfl) 0 rfl ?_
        refine g_iload_n F (dAt dk_X6_place 27 rfl) 1 rfl ?_
        refine g_iload_n F (dAt dk_X6_place 28 rfl) 2 rfl ?_
        refine g_invV_im F mi_X6_newPlace (gm mw_998 rfl) (dAt dk_X6_place 29 rfl) (rcx_of F rc_Model) [.int x1, .int x2] rfl rfl (by decide) (Nat.le_of_ble_eq_true rfl) h (fun _ _ hf => c_X6_newPlace hJ hf) (fun r6 t7 h => ?_)
        cases h
        exact E (dAt dk_X6_place 30 rfl) rfl
      · refine g_aload_n F (dAt dk_X6_place 22 rfl) 0 rfl ?_
        refine g_bipush (v := (-7)) F (dAt dk_X6_place 23 rfl) (by decide) ?_
        refine g_invV_im F mi_X6_no (gm mw_938 rfl) (dAt dk_X6_place 24 rfl) (rcx_of F rc_Model) [.int (-7)] rfl rfl (by decide) (Nat.le_of_ble_eq_true rfl) h (fun _ _ hf => c_X6_no hJ hf) (fun r8 t9 h => ?_)
        refine g_goto (tgt := 57) F (dAt dk_X6_place 25 rfl) (by decide) ?_
        cases h
        exact E (dAt dk_X6_place 30 rfl) rfl
    · refine g_aload_n F (dAt dk_X6_place 14 rfl) 0 rfl ?_
      refine g_bipush (v := (-6)) F (dAt dk_X6_place 15 rfl) (by decide) ?_
      refine g_invV_im F mi_X6_no (gm mw_938 rfl) (dAt dk_X6_place 16 rfl) (rcx_of F rc_Model) [.int (-6)] rfl rfl (by decide) (Nat.le_of_ble_eq_true rfl) h (fun _ _ hf => c_X6_no hJ hf) (fun r10 t11 h => ?_)
      cases h
      exact E (dAt dk_X6_place 17 rfl) rfl
  · refine g_aload_n F (dAt dk_X6_place 5 rfl) 0 rfl ?_
    refine g_iconst (v := (-1)) F (dAt dk_X6_place 6 rfl) (by decide) ?_
    refine g_invV_im F mi_X6_no (gm mw_938 rfl) (dAt dk_X6_place 7 rfl) (rcx_of F rc_Model) [.int (-1)] rfl rfl (by decide) (Nat.le_of_ble_eq_true rfl) h (fun _ _ hf => c_X6_no hJ hf) (fun r12 t13 h => ?_)
    cases h
    exact E (dAt dk_X6_place 8 rfl) rfl
theorem mi_X6_placeOf : MI yX6_placeOf cX6_placeOf 5 (some .int) "MillOfDistancesModel" 2 := ⟨(gm mw_1005 rfl), (gm mw_1003 rfl), (gm mw_1004 rfl), (gm mw_75 rfl), by decide +kernel, by decide⟩
theorem c_X6_placeOf {l : Launch} {D : va_G} {ad : Nat → Nat} {g : Gv} {t u : Mem} {n : Nat} {x1 : Int32} {x2 : Int32} {u' : Mem} {r : Int32} (hJ : Jad ad) (h : f_X6_placeOf n x1 x2 u = some (r, u')) : ConI l yX6_placeOf cX6_placeOf 5 (some .int) 2 [.ref (ad 39), .int x1, .int x2] D ad g t u t u' r := by
  refine con_i hJ (by decide) (Nat.le_of_ble_eq_true rfl) rfl (fun X F E => ?_)
  have J17 : ∀ (u0 : Mem), jn_X6_placeOf_17 n x1 x2 u0 = some (r, u') → G X D ad g t u0 [(0, .ref (ad 39))] 17 [] := by
    intro u0 h
    unfold jn_X6_placeOf_17 at h
    refine g_aload_n F (dAt dk_X6_placeOf 9 rfl) 0 rfl ?_
    refine g_bipush (v := (-5)) F (dAt dk_X6_placeOf 10 rfl) (by decide) ?_
    refine g_invV_im F mi_X6_no (gm mw_938 rfl) (dAt dk_X6_placeOf 11 rfl) (rcx_of F rc_Model) [.int (-5)] rfl rfl (by decide) (Nat.le_of_ble_eq_true rfl) h (fun _ _ hf => c_X6_no hJ hf) (fun r13 t14 h => ?_)
    cases h
    exact E (dAt dk_X6_placeOf 12 rfl) rfl
  have H75 : ∀ (k : Nat) (s : Int32 × Int32 × Mem), iter (bd_X6_placeOf_75 n x1 x2) k s = some (r, u') → G X D ad g t s.2.2 [(0, .ref (ad 39)), (1, .int x1), (3, .int s.1), (4, .int s.2.1)] 75 [] := by
    refine iter_walk (P := fun (s : Int32 × Int32 × Mem) => G X D ad g t s.2.2 [(0, .ref (ad 39)), (1, .int x1), (3, .int s.1), (4, .int s.2.1)] 75 []) (fun self75 ih75 s h => ?_)
    obtain ⟨v3, v4, u0⟩ := s
    change G X D ad g t u0 [(0, .ref (ad 39)), (1, .int x1), (3, .int v3), (4, .int v4)] 75 []
    unfold bd_X6_placeOf_75 at h; try dsimp only at h
    refine g_iload F (dAt dk_X6_placeOf 33 rfl) 3 rfl ?_
    refine g_aload_n F (dAt dk_X6_placeOf 34 rfl) 0 rfl ?_
    refine gg_Model_places F (gm mw_867 rfl) (dAt dk_X6_placeOf 35 rfl) ?_
    refine g_icmp_ge (tgt := 105) F (dAt dk_X6_placeOf 36 rfl) (by decide) h (fun c15 h => ?_) (fun c15 h => ?_)
    · refine g_iload_n F (dAt dk_X6_placeOf 50 rfl) 2 rfl ?_
      cases h
      exact E (dAt dk_X6_placeOf 51 rfl) rfl
    · refine g_iload_n F (dAt dk_X6_placeOf 37 rfl) 2 rfl ?_
      refine g_aload_n F (dAt dk_X6_placeOf 38 rfl) 0 rfl ?_
      refine gg_Model_miles F (gm mw_870 rfl) (dAt dk_X6_placeOf 39 rfl) ?_
      refine g_bipush (v := 8) F (dAt dk_X6_placeOf 40 rfl) (by decide) ?_
      refine g_iload_n F (dAt dk_X6_placeOf 41 rfl) 1 rfl ?_
      refine g_imul F (dAt dk_X6_placeOf 42 rfl) ?_
      refine g_iload F (dAt dk_X6_placeOf 43 rfl) 3 rfl ?_
      refine g_iadd F (dAt dk_X6_placeOf 44 rfl) ?_
      refine g_ck h (fun hi16 h => ?_)
      refine g_ialoadm F am_miles (dAt dk_X6_placeOf 45 rfl) hi16 ?_
      refine g_iadd F (dAt dk_X6_placeOf 46 rfl) ?_
      refine g_lti h (fun y17 h => ?_)
      refine g_istore_n (lv' := [(3, .int y17), (0, .ref (ad 39)), (1, .int x1), (4, .int v4)]) F (dAt dk_X6_placeOf 47 rfl) (by decide) rfl ?_
      refine g_iinc (lv' := [(4, .int (v4 + 1)), (3, .int y17), (0, .ref (ad 39)), (1, .int x1)]) F (dAt dk_X6_placeOf 48 rfl) 3 rfl (w := 1) (by decide) (by decide) rfl ?_
      refine g_goto (tgt := 75) F (dAt dk_X6_placeOf 49 rfl) (by decide) ?_
      refine g_sub (lv' := [(0, .ref (ad 39)), (1, .int x1), (3, .int y17), (4, .int (v4 + 1))]) [2, 3, 1, 0] rfl ?_
      exact ih75 (y17, (v4 + 1), u0) h
  refine g_lv (lv' := [(0, .ref (ad 39)), (1, .int x1), (2, .int x2)]) rfl ?_
  unfold f_X6_placeOf at h
  refine g_aload_n F (dAt dk_X6_placeOf 0 rfl) 0 rfl ?_
  refine g_iload_n F (dAt dk_X6_placeOf 1 rfl) 1 rfl ?_
  refine g_invV_im F mi_X6_isPlace (gm mw_966 rfl) (dAt dk_X6_placeOf 2 rfl) (rcx_of F rc_Model) [.int x1] rfl rfl (by decide) (Nat.le_of_ble_eq_true rfl) h (fun _ _ hf => c_X6_isPlace hJ hf) (fun r1 t2 h => ?_)
  refine g_if_eq (tgt := 17) F (dAt dk_X6_placeOf 3 rfl) (by decide) h (fun c3 h => ?_) (fun c3 h => ?_)
  · refine g_sub (lv' := [(0, .ref (ad 39))]) [0] rfl ?_
    exact J17  t2 h
  · refine g_iload_n F (dAt dk_X6_placeOf 4 rfl) 2 rfl ?_
    refine g_iconst (v := 0) F (dAt dk_X6_placeOf 5 rfl) (by decide) ?_
    refine g_iconst (v := 3) F (dAt dk_X6_placeOf 6 rfl) (by decide) ?_
    refine g_invS_ip F ms_X6_within (gm mw_935 rfl) (dAt dk_X6_placeOf 7 rfl) [.int x2, .int 0, .int 3] rfl rfl (by decide) (Nat.le_of_ble_eq_true rfl) h (fun _ hf => c_X6_within hJ hf) (fun r4 h => ?_)
    refine g_if_ne (tgt := 24) F (dAt dk_X6_placeOf 8 rfl) (by decide) h (fun c5 h => ?_) (fun c5 h => ?_)
    · refine g_iconst (v := 0) F (dAt dk_X6_placeOf 13 rfl) (by decide) ?_
      refine g_istore_n (lv' := [(3, .int 0), (0, .ref (ad 39)), (1, .int x1), (2, .int x2)]) F (dAt dk_X6_placeOf 14 rfl) (by decide) rfl ?_
      refine g_iload_n F (dAt dk_X6_placeOf 15 rfl) 3 rfl ?_
      refine g_case 0 h (fun c6 h => ?_) (fun c6 h => ?_)
      · refine g_tabIn (v := 0) (tgt := 52) (off := 25) F (dAt dk_X6_placeOf 16 rfl) c6 (by decide) (by decide) rfl (by decide) ?_
        refine g_aload_n F (dAt dk_X6_placeOf 17 rfl) 1 rfl ?_
        refine gg_Model_kind F (gm mw_868 rfl) (dAt dk_X6_placeOf 18 rfl) ?_
        refine g_iload_n F (dAt dk_X6_placeOf 19 rfl) 2 rfl ?_
        refine g_ck h (fun hi7 h => ?_)
        refine g_ialoadm F am_kind (dAt dk_X6_placeOf 20 rfl) hi7 ?_
        cases h
        exact E (dAt dk_X6_placeOf 21 rfl) rfl
      · refine g_case 1 h (fun c8 h => ?_) (fun c8 h => ?_)
        · refine g_tabIn (v := 1) (tgt := 59) (off := 32) F (dAt dk_X6_placeOf 16 rfl) c8 (by decide) (by decide) rfl (by decide) ?_
          refine g_aload_n F (dAt dk_X6_placeOf 22 rfl) 1 rfl ?_
          refine gg_Model_own F (gm mw_869 rfl) (dAt dk_X6_placeOf 23 rfl) ?_
          refine g_iload_n F (dAt dk_X6_placeOf 24 rfl) 2 rfl ?_
          refine g_ck h (fun hi9 h => ?_)
          refine g_ialoadm F am_own (dAt dk_X6_placeOf 25 rfl) hi9 ?_
          cases h
          exact E (dAt dk_X6_placeOf 26 rfl) rfl
        · refine g_case 2 h (fun c10 h => ?_) (fun c10 h => ?_)
          · refine g_tabIn (v := 2) (tgt := 66) (off := 39) F (dAt dk_X6_placeOf 16 rfl) c10 (by decide) (by decide) rfl (by decide) ?_
            refine g_aload_n F (dAt dk_X6_placeOf 27 rfl) 1 rfl ?_
            refine g_iload_n F (dAt dk_X6_placeOf 28 rfl) 2 rfl ?_
            refine g_invV_im F mi_X6_roads (gm mw_984 rfl) (dAt dk_X6_placeOf 29 rfl) (rcx_of F rc_Model) [.int x1] rfl rfl (by decide) (Nat.le_of_ble_eq_true rfl) h (fun _ _ hf => c_X6_roads hJ hf) (fun r11 t12 h => ?_)
            cases h
            exact E (dAt dk_X6_placeOf 30 rfl) rfl
          · have := lv_neT c6 (a := 0) (by decide)
            have := lv_neT c8 (a := 1) (by decide)
            have := lv_neT c10 (a := 2) (by decide)
            refine g_tabOut (tgt := 72) F (dAt dk_X6_placeOf 16 rfl) (by omega) (by decide) ?_
            refine g_iconst (v := 0) F (dAt dk_X6_placeOf 31 rfl) (by decide) ?_
            refine g_istore (lv' := [(4, .int 0), (3, .int 0), (0, .ref (ad 39)), (1, .int x1), (2, .int x2)]) F (dAt dk_X6_placeOf 32 rfl) (by decide) rfl ?_
            refine g_sub (lv' := [(0, .ref (ad 39)), (1, .int x1), (3, .int 0), (4, .int 0)]) [2, 3, 1, 0] rfl ?_
            exact H75  n (0, 0, t2) h
    · refine g_sub (lv' := [(0, .ref (ad 39))]) [0] rfl ?_
      exact J17  t2 h
theorem mi_X6_lay : MI yX6_lay cX6_lay 5 (some .int) "MillOfDistancesModel" 3 := ⟨(gm mw_1013 rfl), (gm mw_1012 rfl), (gm mw_32 rfl), (gm mw_75 rfl), by decide +kernel, by decide⟩
theorem c_X6_lay {l : Launch} {D : va_G} {ad : Nat → Nat} {g : Gv} {t u : Mem} {x1 : Int32} {x2 : Int32} {x3 : Int32} {u' : Mem} {r : Int32} (hJ : Jad ad) (h : f_X6_lay x1 x2 x3 u = some (r, u')) : ConI l yX6_lay cX6_lay 5 (some .int) 0 [.ref (ad 39), .int x1, .int x2, .int x3] D ad g t u t u' r := by
  refine con_i hJ (by decide) (Nat.le_of_ble_eq_true rfl) rfl (fun X F E => ?_)
  refine g_lv (lv' := [(0, .ref (ad 39)), (1, .int x1), (2, .int x2), (3, .int x3)]) rfl ?_
  unfold f_X6_lay at h
  refine g_aload_n F (dAt dk_X6_lay 0 rfl) 0 rfl ?_
  refine gg_Model_miles F (gm mw_870 rfl) (dAt dk_X6_lay 1 rfl) ?_
  refine g_bipush (v := 8) F (dAt dk_X6_lay 2 rfl) (by decide) ?_
  refine g_iload_n F (dAt dk_X6_lay 3 rfl) 1 rfl ?_
  refine g_imul F (dAt dk_X6_lay 4 rfl) ?_
  refine g_iload_n F (dAt dk_X6_lay 5 rfl) 2 rfl ?_
  refine g_iadd F (dAt dk_X6_lay 6 rfl) ?_
  refine g_ck h (fun hi1 h => ?_)
  refine g_ialoadm F am_miles (dAt dk_X6_lay 7 rfl) hi1 ?_
  refine g_lti h (fun y2 h => ?_)
  refine g_istore (lv' := [(4, .int y2), (0, .ref (ad 39)), (1, .int x1), (2, .int x2), (3, .int x3)]) F (dAt dk_X6_lay 8 rfl) (by decide) rfl ?_
  refine g_aload_n F (dAt dk_X6_lay 9 rfl) 1 rfl ?_
  refine gg_Model_miles F (gm mw_870 rfl) (dAt dk_X6_lay 10 rfl) ?_
  refine g_bipush (v := 8) F (dAt dk_X6_lay 11 rfl) (by decide) ?_
  refine g_iload_n F (dAt dk_X6_lay 12 rfl) 2 rfl ?_
  refine g_imul F (dAt dk_X6_lay 13 rfl) ?_
  refine g_iload_n F (dAt dk_X6_lay 14 rfl) 3 rfl ?_
  refine g_iadd F (dAt dk_X6_lay 15 rfl) ?_
  refine g_iload_n F (dAt dk_X6_lay 16 rfl) 4 rfl ?_
  refine g_ck h (fun hi3 h => ?_)
  refine g_iastorem F am_miles (dAt dk_X6_lay 17 rfl) hi3 ?_
  refine g_ltu h (fun t4 h => ?_)
  refine g_aload_n F (dAt dk_X6_lay 18 rfl) 1 rfl ?_
  refine gg_Model_miles F (gm mw_870 rfl) (dAt dk_X6_lay 19 rfl) ?_
  refine g_bipush (v := 8) F (dAt dk_X6_lay 20 rfl) (by decide) ?_
  refine g_iload_n F (dAt dk_X6_lay 21 rfl) 3 rfl ?_
  refine g_imul F (dAt dk_X6_lay 22 rfl) ?_
  refine g_iload_n F (dAt dk_X6_lay 23 rfl) 2 rfl ?_
  refine g_iadd F (dAt dk_X6_lay 24 rfl) ?_
  refine g_iload_n F (dAt dk_X6_lay 25 rfl) 4 rfl ?_
  refine g_ck h (fun hi5 h => ?_)
  refine g_iastorem F am_miles (dAt dk_X6_lay 26 rfl) hi5 ?_
  refine g_ltu h (fun t6 h => ?_)
  refine g_iload F (dAt dk_X6_lay 27 rfl) 0 rfl ?_
  cases h
  exact E (dAt dk_X6_lay 28 rfl) rfl
theorem mi_X6_road : MI yX6_road cX6_road 4 (some .int) "MillOfDistancesModel" 3 := ⟨(gm mw_1009 rfl), (gm mw_1007 rfl), (gm mw_1008 rfl), (gm mw_75 rfl), by decide +kernel, by decide⟩
theorem c_X6_road {l : Launch} {D : va_G} {ad : Nat → Nat} {g : Gv} {t u : Mem} {x1 : Int32} {x2 : Int32} {x3 : Int32} {u' : Mem} {r : Int32} (hJ : Jad ad) (h : f_X6_road x1 x2 x3 u = some (r, u')) : ConI l yX6_road cX6_road 4 (some .int) 2 [.ref (ad 39), .int x1, .int x2, .int x3] D ad g t u t u' r := by
  refine con_i hJ (by decide) (Nat.le_of_ble_eq_true rfl) rfl (fun X F E => ?_)
  have J16 : ∀ (u0 : Mem), jn_X6_road_16 x1 x2 x3 u0 = some (r, u') → G X D ad g t u0 [(0, .ref (ad 39))] 16 [] := by
    intro u0 h
    unfold jn_X6_road_16 at h
    refine g_aload_n F (dAt dk_X6_road 8 rfl) 0 rfl ?_
    refine g_iconst (v := (-1)) F (dAt dk_X6_road 9 rfl) (by decide) ?_
    refine g_invV_im F mi_X6_no (gm mw_938 rfl) (dAt dk_X6_road 10 rfl) (rcx_of F rc_Model) [.int (-1)] rfl rfl (by decide) (Nat.le_of_ble_eq_true rfl) h (fun _ _ hf => c_X6_no hJ hf) (fun r12 t13 h => ?_)
    cases h
    exact E (dAt dk_X6_road 11 rfl) rfl
  have J38 : ∀ (u0 : Mem), jn_X6_road_38 x1 x2 x3 u0 = some (r, u') → G X D ad g t u0 [(0, .ref (ad 39))] 38 [] := by
    intro u0 h
    unfold jn_X6_road_38 at h
    refine g_aload_n F (dAt dk_X6_road 20 rfl) 0 rfl ?_
    refine g_bipush (v := (-6)) F (dAt dk_X6_road 21 rfl) (by decide) ?_
    refine g_invV_im F mi_X6_no (gm mw_938 rfl) (dAt dk_X6_road 22 rfl) (rcx_of F rc_Model) [.int (-6)] rfl rfl (by decide) (Nat.le_of_ble_eq_true rfl) h (fun _ _ hf => c_X6_no hJ hf) (fun r14 t15 h => ?_)
    refine g_goto (tgt := 54) F (dAt dk_X6_road 23 rfl) (by decide) ?_
    cases h
    exact E (dAt dk_X6_road 29 rfl) rfl
  refine g_lv (lv' := [(0, .ref (ad 39)), (1, .int x1), (2, .int x2), (3, .int x3)]) rfl ?_
  unfold f_X6_road at h
  refine g_aload_n F (dAt dk_X6_road 0 rfl) 0 rfl ?_
  refine g_iload_n F (dAt dk_X6_road 1 rfl) 1 rfl ?_
  refine g_invV_im F mi_X6_isPlace (gm mw_966 rfl) (dAt dk_X6_road 2 rfl) (rcx_of F rc_Model) [.int x1] rfl rfl (by decide) (Nat.le_of_ble_eq_true rfl) h (fun _ _ hf => c_X6_isPlace hJ hf) (fun r1 t2 h => ?_)
  refine g_if_eq (tgt := 16) F (dAt dk_X6_road 3 rfl) (by decide) h (fun c3 h => ?_) (fun c3 h => ?_)
  · refine g_sub (lv' := [(0, .ref (ad 39))]) [0] rfl ?_
    exact J16  t2 h
  · refine g_aload_n F (dAt dk_X6_road 4 rfl) 0 rfl ?_
    refine g_iload_n F (dAt dk_X6_road 5 rfl) 2 rfl ?_
    refine g_invV_im F mi_X6_isPlace (gm mw_966 rfl) (dAt dk_X6_road 6 rfl) (rcx_of F rc_Model) [.int x2] rfl rfl (by decide) (Nat.le_of_ble_eq_true rfl) h (fun _ _ hf => c_X6_isPlace hJ hf) (fun r4 t5 h => ?_)
    refine g_if_ne (tgt := 22) F (dAt dk_X6_road 7 rfl) (by decide) h (fun c6 h => ?_) (fun c6 h => ?_)
    · refine g_iload_n F (dAt dk_X6_road 12 rfl) 1 rfl ?_
      refine g_iload_n F (dAt dk_X6_road 13 rfl) 2 rfl ?_
      refine g_icmp_eq (tgt := 38) F (dAt dk_X6_road 14 rfl) (by decide) h (fun c7 h => ?_) (fun c7 h => ?_)
      · refine g_sub (lv' := [(0, .ref (ad 39))]) [0] rfl ?_
        exact J38  t5 h
      · refine g_iload_n F (dAt dk_X6_road 15 rfl) 3 rfl ?_
        refine g_iconst (v := 0) F (dAt dk_X6_road 16 rfl) (by decide) ?_
        refine g_sipush (v := 999) F (dAt dk_X6_road 17 rfl) (by decide) ?_
        refine g_invS_ip F ms_X6_within (gm mw_935 rfl) (dAt dk_X6_road 18 rfl) [.int x3, .int 0, .int 999] rfl rfl (by decide) (Nat.le_of_ble_eq_true rfl) h (fun _ hf => c_X6_within hJ hf) (fun r8 h => ?_)
        refine g_if_ne (tgt := 47) F (dAt dk_X6_road 19 rfl) (by decide) h (fun c9 h => ?_) (fun c9 h => ?_)
        · refine g_aload_n F (dAt dk_X6_road 24 rfl) 0 rfl ?_
          refine g_iload_n F (dAt dk_X6_road 25 rfl) 1 rfl ?_
          refine g_iload_n F (dAt dk_X6_road 26 rfl) 2 rfl ?_
          refine g_iload_n F (dAt dk_X6_road 27 rfl) 3 rfl ?_
          refine g_invV_im F mi_X6_lay (gm mw_1010 rfl) (dAt dk_X6_road 28 rfl) (rcx_of F rc_Model) [.int x1, .int x2, .int x3] rfl rfl (by decide) (Nat.le_of_ble_eq_true rfl) h (fun _ _ hf => c_X6_lay hJ hf) (fun r10 t11 h => ?_)
          cases h
          exact E (dAt dk_X6_road 29 rfl) rfl
        · refine g_sub (lv' := [(0, .ref (ad 39))]) [0] rfl ?_
          exact J38  t5 h
    · refine g_sub (lv' := [(0, .ref (ad 39))]) [0] rfl ?_
      exact J16  t5 h
theorem mi_X6_miles : MI yX6_miles cX6_miles 3 (some .int) "MillOfDistancesModel" 2 := ⟨(gm mw_1017 rfl), (gm mw_1015 rfl), (gm mw_1016 rfl), (gm mw_75 rfl), by decide +kernel, by decide⟩
theorem c_X6_miles {l : Launch} {D : va_G} {ad : Nat → Nat} {g : Gv} {t u : Mem} {x1 : Int32} {x2 : Int32} {u' : Mem} {r : Int32} (hJ : Jad ad) (h : f_X6_miles x1 x2 u = some (r, u')) : ConI l yX6_miles cX6_miles 3 (some .int) 2 [.ref (ad 39), .int x1, .int x2] D ad g t u t u' r := by
  refine con_i hJ (by decide) (Nat.le_of_ble_eq_true rfl) rfl (fun X F E => ?_)
  have J16 : ∀ (u0 : Mem), jn_X6_miles_16 x1 x2 u0 = some (r, u') → G X D ad g t u0 [(0, .ref (ad 39))] 16 [] := by
    intro u0 h
    unfold jn_X6_miles_16 at h
    refine g_aload_n F (dAt dk_X6_miles 8 rfl) 0 rfl ?_
    refine g_iconst (v := (-1)) F (dAt dk_X6_miles 9 rfl) (by decide) ?_
    refine g_invV_im F mi_X6_no10 (gm mw_1018 rfl) (dAt dk_X6_miles 10 rfl) (rcx_of F rc_Model) [.int (-1)] rfl rfl (by decide) (Nat.le_of_ble_eq_true rfl) h (fun _ _ hf => c_X6_no10 hJ hf) (fun r11 t12 h => ?_)
    cases h
    exact E (dAt dk_X6_miles 11 rfl) rfl
  refine g_lv (lv' := [(0, .ref (ad 39)), (1, .int x1), (2, .int x2)]) rfl ?_
  unfold f_X6_miles at h
  refine g_aload_n F (dAt dk_X6_miles 0 rfl) 0 rfl ?_
  refine g_iload_n F (dAt dk_X6_miles 1 rfl) 1 rfl ?_
  refine g_invV_im F mi_X6_isPlace (gm mw_966 rfl) (dAt dk_X6_miles 2 rfl) (rcx_of F rc_Model) [.int x1] rfl rfl (by decide) (Nat.le_of_ble_eq_true rfl) h (fun _ _ hf => c_X6_isPlace hJ hf) (fun r1 t2 h => ?_)
  refine g_if_eq (tgt := 16) F (dAt dk_X6_miles 3 rfl) (by decide) h (fun c3 h => ?_) (fun c3 h => ?_)
  · refine g_sub (lv' := [(0, .ref (ad 39))]) [0] rfl ?_
    exact J16  t2 h
  · refine g_aload_n F (dAt dk_X6_miles 4 rfl) 0 rfl ?_
    refine g_iload_n F (dAt dk_X6_miles 5 rfl) 2 rfl ?_
    refine g_invV_im F mi_X6_isPlace (gm mw_966 rfl) (dAt dk_X6_miles 6 rfl) (rcx_of F rc_Model) [.int x2] rfl rfl (by decide) (Nat.le_of_ble_eq_true rfl) h (fun _ _ hf => c_X6_isPlace hJ hf) (fun r4 t5 h => ?_)
    refine g_if_ne (tgt := 22) F (dAt dk_X6_miles 7 rfl) (by decide) h (fun c6 h => ?_) (fun c6 h => ?_)
    · refine g_iload_n F (dAt dk_X6_miles 12 rfl) 1 rfl ?_
      refine g_iload_n F (dAt dk_X6_miles 13 rfl) 2 rfl ?_
      refine g_icmp_ne (tgt := 36) F (dAt dk_X6_miles 14 rfl) (by decide) h (fun c7 h => ?_) (fun c7 h => ?_)
      · refine g_aload_n F (dAt dk_X6_miles 19 rfl) 0 rfl ?_
        refine gg_Model_miles F (gm mw_870 rfl) (dAt dk_X6_miles 20 rfl) ?_
        refine g_bipush (v := 8) F (dAt dk_X6_miles 21 rfl) (by decide) ?_
        refine g_iload_n F (dAt dk_X6_miles 22 rfl) 1 rfl ?_
        refine g_imul F (dAt dk_X6_miles 23 rfl) ?_
        refine g_iload_n F (dAt dk_X6_miles 24 rfl) 2 rfl ?_
        refine g_iadd F (dAt dk_X6_miles 25 rfl) ?_
        refine g_ck h (fun hi8 h => ?_)
        refine g_ialoadm F am_miles (dAt dk_X6_miles 26 rfl) hi8 ?_
        cases h
        exact E (dAt dk_X6_miles 27 rfl) rfl
      · refine g_aload_n F (dAt dk_X6_miles 15 rfl) 0 rfl ?_
        refine g_bipush (v := (-6)) F (dAt dk_X6_miles 16 rfl) (by decide) ?_
        refine g_invV_im F mi_X6_no10 (gm mw_1018 rfl) (dAt dk_X6_miles 17 rfl) (rcx_of F rc_Model) [.int (-6)] rfl rfl (by decide) (Nat.le_of_ble_eq_true rfl) h (fun _ _ hf => c_X6_no10 hJ hf) (fun r9 t10 h => ?_)
        refine g_goto (tgt := 47) F (dAt dk_X6_miles 18 rfl) (by decide) ?_
        cases h
        exact E (dAt dk_X6_miles 27 rfl) rfl
    · refine g_sub (lv' := [(0, .ref (ad 39))]) [0] rfl ?_
      exact J16  t5 h
theorem mi_X6_ask : MI yX6_ask cX6_ask 4 (some .int) "MillOfDistancesModel" 2 := ⟨(gm mw_1025 rfl), (gm mw_1023 rfl), (gm mw_1024 rfl), (gm mw_75 rfl), by decide +kernel, by decide⟩
theorem c_X6_ask {l : Launch} {D : va_G} {ad : Nat → Nat} {g : Gv} {t u : Mem} {x1 : Int32} {x2 : Int32} {u' : Mem} {r : Int32} (hJ : Jad ad) (h : f_X6_ask x1 x2 u = some (r, u')) : ConI l yX6_ask cX6_ask 4 (some .int) 1 [.ref (ad 39), .int x1, .int x2] D ad g t u t u' r := by
  refine con_i hJ (by decide) (Nat.le_of_ble_eq_true rfl) rfl (fun X F E => ?_)
  have J28 : ∀ (u0 : Mem), jn_X6_ask_28 x1 x2 u0 = some (r, u') → G X D ad g t u0 [(0, .ref (ad 39))] 28 [] := by
    intro u0 h
    unfold jn_X6_ask_28 at h
    refine g_aload_n F (dAt dk_X6_ask 14 rfl) 0 rfl ?_
    refine g_bipush (v := (-6)) F (dAt dk_X6_ask 15 rfl) (by decide) ?_
    refine g_invV_im F mi_X6_no (gm mw_938 rfl) (dAt dk_X6_ask 16 rfl) (rcx_of F rc_Model) [.int (-6)] rfl rfl (by decide) (Nat.le_of_ble_eq_true rfl) h (fun _ _ hf => c_X6_no hJ hf) (fun r4 t5 h => ?_)
    cases h
    exact E (dAt dk_X6_ask 17 rfl) rfl
  have J50 : ∀ (w0 : Int32) (u0 : Mem), jn_X6_ask_50 x1 x2 w0 u0 = some (r, u') → G X D ad g t u0 [(0, .ref (ad 39)), (1, .int x1), (2, .int x2)] 50 [.int w0] := by
    intro w0 u0 h
    unfold jn_X6_ask_50 at h
    refine g_istore_n (lv' := [(3, .int w0), (0, .ref (ad 39)), (1, .int x1), (2, .int x2)]) F (dAt dk_X6_ask 25 rfl) (by decide) rfl ?_
    refine g_iload_n F (dAt dk_X6_ask 26 rfl) 2 rfl ?_
    refine g_if_ne (tgt := 63) F (dAt dk_X6_ask 27 rfl) (by decide) h (fun c9 h => ?_) (fun c9 h => ?_)
    · refine g_aload_n F (dAt dk_X6_ask 32 rfl) 1 rfl ?_
      refine g_iload_n F (dAt dk_X6_ask 33 rfl) 3 rfl ?_
      refine gp_Model_wind F (gm mw_872 rfl) (dAt dk_X6_ask 34 rfl) ?_
      refine g_ltu h (fun t10 h => ?_)
      refine g_iload_n F (dAt dk_X6_ask 35 rfl) 0 rfl ?_
      cases h
      exact E (dAt dk_X6_ask 36 rfl) rfl
    · refine g_aload_n F (dAt dk_X6_ask 28 rfl) 1 rfl ?_
      refine g_iload_n F (dAt dk_X6_ask 29 rfl) 3 rfl ?_
      refine gp_Model_flour F (gm mw_871 rfl) (dAt dk_X6_ask 30 rfl) ?_
      refine g_ltu h (fun t11 h => ?_)
      refine g_goto (tgt := 68) F (dAt dk_X6_ask 31 rfl) (by decide) ?_
      refine g_iload_n F (dAt dk_X6_ask 35 rfl) 0 rfl ?_
      cases h
      exact E (dAt dk_X6_ask 36 rfl) rfl
  have J22 : ∀ (w0 : Int32) (w1 : Int32) (w2 : Int32) (u0 : Mem), jn_X6_ask_22 x1 x2 w0 w1 w2 u0 = some (r, u') → G X D ad g t u0 [(0, .ref (ad 39)), (1, .int x1), (2, .int x2)] 22 [.int w0, .int w1, .int w2] := by
    intro w0 w1 w2 u0 h
    unfold jn_X6_ask_22 at h
    refine g_invS_ip F ms_X6_within (gm mw_935 rfl) (dAt dk_X6_ask 12 rfl) [.int w2, .int w1, .int w0] rfl rfl (by decide) (Nat.le_of_ble_eq_true rfl) h (fun _ hf => c_X6_within hJ hf) (fun r6 h => ?_)
    refine g_if_ne (tgt := 35) F (dAt dk_X6_ask 13 rfl) (by decide) h (fun c7 h => ?_) (fun c7 h => ?_)
    · refine g_iload_n F (dAt dk_X6_ask 18 rfl) 1 rfl ?_
      refine g_if_ne (tgt := 46) F (dAt dk_X6_ask 19 rfl) (by decide) h (fun c8 h => ?_) (fun c8 h => ?_)
      · refine g_aload_n F (dAt dk_X6_ask 23 rfl) 0 rfl ?_
        refine gg_Model_wind F (gm mw_872 rfl) (dAt dk_X6_ask 24 rfl) ?_
        refine g_sub (lv' := [(0, .ref (ad 39)), (1, .int x1), (2, .int x2)]) [0, 1, 2] rfl ?_
        exact J50  (u0.1 39 8) u0 h
      · refine g_aload_n F (dAt dk_X6_ask 20 rfl) 0 rfl ?_
        refine gg_Model_flour F (gm mw_871 rfl) (dAt dk_X6_ask 21 rfl) ?_
        refine g_goto (tgt := 50) F (dAt dk_X6_ask 22 rfl) (by decide) ?_
        refine g_sub (lv' := [(0, .ref (ad 39)), (1, .int x1), (2, .int x2)]) [0, 1, 2] rfl ?_
        exact J50  (u0.1 39 7) u0 h
    · refine g_sub (lv' := [(0, .ref (ad 39))]) [0] rfl ?_
      exact J28  u0 h
  refine g_lv (lv' := [(0, .ref (ad 39)), (1, .int x1), (2, .int x2)]) rfl ?_
  unfold f_X6_ask at h
  refine g_iload_n F (dAt dk_X6_ask 0 rfl) 1 rfl ?_
  refine g_iconst (v := 0) F (dAt dk_X6_ask 1 rfl) (by decide) ?_
  refine g_iconst (v := 1) F (dAt dk_X6_ask 2 rfl) (by decide) ?_
  refine g_invS_ip F ms_X6_within (gm mw_935 rfl) (dAt dk_X6_ask 3 rfl) [.int x1, .int 0, .int 1] rfl rfl (by decide) (Nat.le_of_ble_eq_true rfl) h (fun _ hf => c_X6_within hJ hf) (fun r1 h => ?_)
  refine g_if_eq (tgt := 28) F (dAt dk_X6_ask 4 rfl) (by decide) h (fun c2 h => ?_) (fun c2 h => ?_)
  · refine g_sub (lv' := [(0, .ref (ad 39))]) [0] rfl ?_
    exact J28  u h
  · refine g_iload_n F (dAt dk_X6_ask 5 rfl) 2 rfl ?_
    refine g_iconst (v := 0) F (dAt dk_X6_ask 6 rfl) (by decide) ?_
    refine g_iload_n F (dAt dk_X6_ask 7 rfl) 1 rfl ?_
    refine g_if_ne (tgt := 20) F (dAt dk_X6_ask 8 rfl) (by decide) h (fun c3 h => ?_) (fun c3 h => ?_)
    · refine g_bipush (v := 9) F (dAt dk_X6_ask 11 rfl) (by decide) ?_
      refine g_sub (lv' := [(0, .ref (ad 39)), (1, .int x1), (2, .int x2)]) [0, 1, 2] rfl ?_
      exact J22  9 0 x2 u h
    · refine g_ldc (v := 99999) F (dAt dk_X6_ask 9 rfl) (gm mw_1026 rfl) ?_
      refine g_goto (tgt := 22) F (dAt dk_X6_ask 10 rfl) (by decide) ?_
      refine g_sub (lv' := [(0, .ref (ad 39)), (1, .int x1), (2, .int x2)]) [0, 1, 2] rfl ?_
      exact J22  99999 0 x2 u h
theorem mi_X6_sign : MI yX6_sign cX6_sign 1 (some .int) "MillOfDistancesModel" 0 := ⟨(gm mw_1042 rfl), (gm mw_1041 rfl), (gm mw_36 rfl), (gm mw_75 rfl), by decide +kernel, by decide⟩
theorem c_X6_sign {l : Launch} {D : va_G} {ad : Nat → Nat} {g : Gv} {t u : Mem}  {u' : Mem} {r : Int32} (hJ : Jad ad) (h : f_X6_sign u = some (r, u')) : ConI l yX6_sign cX6_sign 1 (some .int) 0 [.ref (ad 39)] D ad g t u t u' r := by
  refine con_i hJ (by decide) (Nat.le_of_ble_eq_true rfl) rfl (fun X F E => ?_)
  refine g_lv (lv' := [(0, .ref (ad 39))]) rfl ?_
  unfold f_X6_sign at h
  refine g_aload_n F (dAt dk_X6_sign 0 rfl) 0 rfl ?_
  refine gg_Model_at F (gm mw_882 rfl) (dAt dk_X6_sign 1 rfl) ?_
  refine g_aload_n F (dAt dk_X6_sign 2 rfl) 0 rfl ?_
  refine gg_Model_rowLength F (gm mw_865 rfl) (dAt dk_X6_sign 3 rfl) ?_
  refine g_aload_n F (dAt dk_X6_sign 4 rfl) 0 rfl ?_
  refine gg_Model_reading F (gm mw_881 rfl) (dAt dk_X6_sign 5 rfl) ?_
  refine g_ck h (fun hi1 h => ?_)
  refine g_ialoadm F am_rowLength (dAt dk_X6_sign 6 rfl) hi1 ?_
  refine g_icmp_ge (tgt := 38) F (dAt dk_X6_sign 7 rfl) (by decide) h (fun c2 h => ?_) (fun c2 h => ?_)
  · refine g_iconst (v := (-1)) F (dAt dk_X6_sign 20 rfl) (by decide) ?_
    cases h
    exact E (dAt dk_X6_sign 21 rfl) rfl
  · refine g_aload_n F (dAt dk_X6_sign 8 rfl) 0 rfl ?_
    refine gg_Model_rowOf F (gm mw_866 rfl) (dAt dk_X6_sign 9 rfl) ?_
    refine g_sipush (v := 160) F (dAt dk_X6_sign 10 rfl) (by decide) ?_
    refine g_aload_n F (dAt dk_X6_sign 11 rfl) 0 rfl ?_
    refine gg_Model_reading F (gm mw_881 rfl) (dAt dk_X6_sign 12 rfl) ?_
    refine g_imul F (dAt dk_X6_sign 13 rfl) ?_
    refine g_aload_n F (dAt dk_X6_sign 14 rfl) 0 rfl ?_
    refine gg_Model_at F (gm mw_882 rfl) (dAt dk_X6_sign 15 rfl) ?_
    refine g_iadd F (dAt dk_X6_sign 16 rfl) ?_
    refine g_ck h (fun hi3 h => ?_)
    refine g_laloadm F am_rowOf (dAt dk_X6_sign 17 rfl) hi3 ?_
    refine g_l2i F (dAt dk_X6_sign 18 rfl) ?_
    refine g_goto (tgt := 39) F (dAt dk_X6_sign 19 rfl) (by decide) ?_
    cases h
    exact E (dAt dk_X6_sign 21 rfl) rfl
theorem mi_X6_is : MI yX6_is cX6_is 2 (some .boolean) "MillOfDistancesModel" 1 := ⟨(gm mw_1057 rfl), (gm mw_1056 rfl), (gm mw_39 rfl), (gm mw_75 rfl), by decide +kernel, by decide⟩
theorem c_X6_is {l : Launch} {D : va_G} {ad : Nat → Nat} {g : Gv} {t u : Mem} {x1 : Int32} {u' : Mem} {r : Int32} (hJ : Jad ad) (h : f_X6_is x1 u = some (r, u')) : ConI l yX6_is cX6_is 2 (some .boolean) 1 [.ref (ad 39), .int x1] D ad g t u t u' r := by
  refine con_i hJ (by decide) (Nat.le_of_ble_eq_true rfl) rfl (fun X F E => ?_)
  refine g_lv (lv' := [(0, .ref (ad 39)), (1, .int x1)]) rfl ?_
  unfold f_X6_is at h
  refine g_aload_n F (dAt dk_X6_is 0 rfl) 0 rfl ?_
  refine g_invV_im F mi_X6_sign (gm mw_1039 rfl) (dAt dk_X6_is 1 rfl) (rcx_of F rc_Model) [] rfl rfl (by decide) (Nat.le_of_ble_eq_true rfl) h (fun _ _ hf => c_X6_sign hJ hf) (fun r1 t2 h => ?_)
  refine g_iload_n F (dAt dk_X6_is 2 rfl) 1 rfl ?_
  refine g_icmp_eq (tgt := 10) F (dAt dk_X6_is 3 rfl) (by decide) h (fun c3 h => ?_) (fun c3 h => ?_)
  · refine g_aload_n F (dAt dk_X6_is 6 rfl) 0 rfl ?_
    refine g_dup F (dAt dk_X6_is 7 rfl) rfl ?_
    refine gg_Model_at F (gm mw_882 rfl) (dAt dk_X6_is 8 rfl) ?_
    refine g_iconst (v := 1) F (dAt dk_X6_is 9 rfl) (by decide) ?_
    refine g_iadd F (dAt dk_X6_is 10 rfl) ?_
    refine gp_Model_at F (gm mw_882 rfl) (dAt dk_X6_is 11 rfl) ?_
    refine g_ltu h (fun t4 h => ?_)
    refine g_iconst (v := 1) F (dAt dk_X6_is 12 rfl) (by decide) ?_
    cases h
    exact E (dAt dk_X6_is 13 rfl) rfl
  · refine g_iconst (v := 0) F (dAt dk_X6_is 4 rfl) (by decide) ?_
    cases h
    exact E (dAt dk_X6_is 5 rfl) rfl
theorem mi_X6_word : MI yX6_word cX6_word 3 (some .boolean) "MillOfDistancesModel" 1 := ⟨(gm mw_1051 rfl), (gm mw_1050 rfl), (gm mw_38 rfl), (gm mw_75 rfl), by decide +kernel, by decide⟩
theorem c_X6_word {l : Launch} {D : va_G} {ad : Nat → Nat} {g : Gv} {t u : Mem} {n : Nat} {x1 : Fin 9} {u' : Mem} {r : Int32} (hJ : Jad ad) (h : f_X6_word n x1 u = some (r, u')) : ConI l yX6_word cX6_word 3 (some .boolean) 4 [.ref (ad 39), .ref (g.2.2.1 (x1).val)] D ad g t u t u' r := by
  refine con_i hJ (by decide) (Nat.le_of_ble_eq_true rfl) rfl (fun X F E => ?_)
  have H2 : ∀ (k : Nat) (s : Int32 × Mem), iter (bd_X6_word_2 n x1) k s = some (r, u') → G X D ad g t s.2 [(0, .ref (ad 39)), (1, .ref (g.2.2.1 (x1).val)), (2, .int s.1)] 2 [] := by
    refine iter_walk (P := fun (s : Int32 × Mem) => G X D ad g t s.2 [(0, .ref (ad 39)), (1, .ref (g.2.2.1 (x1).val)), (2, .int s.1)] 2 []) (fun self2 ih2 s h => ?_)
    obtain ⟨v2, u0⟩ := s
    change G X D ad g t u0 [(0, .ref (ad 39)), (1, .ref (g.2.2.1 (x1).val)), (2, .int v2)] 2 []
    unfold bd_X6_word_2 at h; try dsimp only at h
    refine g_iload_n F (dAt dk_X6_word 2 rfl) 2 rfl ?_
    refine g_aload_n F (dAt dk_X6_word 3 rfl) 1 rfl ?_
    refine g_invV_ip F mi_J0_length_8abf5 (gm mw_1052 rfl) (dAt dk_X6_word 4 rfl) (rcx_str F x1) [] rfl rfl (by decide) (Nat.le_of_ble_eq_true rfl) h (fun _ hf => c_J0_length_8abf5 hJ hf) (fun r1 h => ?_)
    refine g_icmp_ge (tgt := 30) F (dAt dk_X6_word 5 rfl) (by decide) h (fun c2 h => ?_) (fun c2 h => ?_)
    · refine g_iconst (v := 1) F (dAt dk_X6_word 16 rfl) (by decide) ?_
      cases h
      exact E (dAt dk_X6_word 17 rfl) rfl
    · refine g_aload_n F (dAt dk_X6_word 6 rfl) 0 rfl ?_
      refine g_aload_n F (dAt dk_X6_word 7 rfl) 1 rfl ?_
      refine g_iload_n F (dAt dk_X6_word 8 rfl) 2 rfl ?_
      refine g_invV_ip F mi_J0_charAt_5068e (gm mw_1053 rfl) (dAt dk_X6_word 9 rfl) (rcx_str F x1) [.int v2] rfl rfl (by decide) (Nat.le_of_ble_eq_true rfl) h (fun _ hf => c_J0_charAt_5068e hJ hf) (fun r3 h => ?_)
      refine g_invV_im F mi_X6_is (gm mw_1054 rfl) (dAt dk_X6_word 10 rfl) (rcx_of F rc_Model) [.int r3] rfl rfl (by decide) (Nat.le_of_ble_eq_true rfl) h (fun _ _ hf => c_X6_is hJ hf) (fun r4 t5 h => ?_)
      refine g_if_ne (tgt := 24) F (dAt dk_X6_word 11 rfl) (by decide) h (fun c6 h => ?_) (fun c6 h => ?_)
      · refine g_iinc (lv' := [(2, .int (v2 + 1)), (0, .ref (ad 39)), (1, .ref (g.2.2.1 (x1).val))]) F (dAt dk_X6_word 14 rfl) 2 rfl (w := 1) (by decide) (by decide) rfl ?_
        refine g_goto (tgt := 2) F (dAt dk_X6_word 15 rfl) (by decide) ?_
        refine g_sub (lv' := [(0, .ref (ad 39)), (1, .ref (g.2.2.1 (x1).val)), (2, .int (v2 + 1))]) [1, 2, 0] rfl ?_
        exact ih2 ((v2 + 1), t5) h
      · refine g_iconst (v := 0) F (dAt dk_X6_word 12 rfl) (by decide) ?_
        cases h
        exact E (dAt dk_X6_word 13 rfl) rfl
  refine g_lv (lv' := [(0, .ref (ad 39)), (1, .ref (g.2.2.1 (x1).val))]) rfl ?_
  unfold f_X6_word at h
  refine g_iconst (v := 0) F (dAt dk_X6_word 0 rfl) (by decide) ?_
  refine g_istore_n (lv' := [(2, .int 0), (0, .ref (ad 39)), (1, .ref (g.2.2.1 (x1).val))]) F (dAt dk_X6_word 1 rfl) (by decide) rfl ?_
  refine g_sub (lv' := [(0, .ref (ad 39)), (1, .ref (g.2.2.1 (x1).val)), (2, .int 0)]) [1, 2, 0] rfl ?_
  exact H2  n (0, u) h
theorem mi_X6_word_ : MI yX6_word_ cX6_word_ 5 (some .boolean) "MillOfDistancesModel" 2 := ⟨(gm mw_1047 rfl), (gm mw_1046 rfl), (gm mw_37 rfl), (gm mw_75 rfl), by decide +kernel, by decide⟩
theorem c_X6_word_ {l : Launch} {D : va_G} {ad : Nat → Nat} {g : Gv} {t u : Mem} {n : Nat} {x1 : Fin 9} {x2 : Int32} {u' : Mem} {r : Int32} (hJ : Jad ad) (h : f_X6_word_ n x1 x2 u = some (r, u')) : ConI l yX6_word_ cX6_word_ 5 (some .boolean) 5 [.ref (ad 39), .ref (g.2.2.1 (x1).val), .int x2] D ad g t u t u' r := by
  refine con_i hJ (by decide) (Nat.le_of_ble_eq_true rfl) rfl (fun X F E => ?_)
  have J26 : ∀ (v4 : Int32) (u0 : Mem), jn_X6_word__26 n x1 x2 v4 u0 = some (r, u') → G X D ad g t u0 [(2, .int x2), (4, .int v4)] 26 [] := by
    intro v4 u0 h
    unfold jn_X6_word__26 at h
    refine g_iload F (dAt dk_X6_word_ 14 rfl) 1 rfl ?_
    refine g_if_eq (tgt := 39) F (dAt dk_X6_word_ 15 rfl) (by decide) h (fun c6 h => ?_) (fun c6 h => ?_)
    · refine g_iconst (v := 0) F (dAt dk_X6_word_ 20 rfl) (by decide) ?_
      cases h
      exact E (dAt dk_X6_word_ 21 rfl) rfl
    · refine g_iload_n F (dAt dk_X6_word_ 16 rfl) 0 rfl ?_
      refine g_if_eq (tgt := 39) F (dAt dk_X6_word_ 17 rfl) (by decide) h (fun c7 h => ?_) (fun c7 h => ?_)
      · refine g_iconst (v := 0) F (dAt dk_X6_word_ 20 rfl) (by decide) ?_
        cases h
        exact E (dAt dk_X6_word_ 21 rfl) rfl
      · refine g_iconst (v := 1) F (dAt dk_X6_word_ 18 rfl) (by decide) ?_
        refine g_goto (tgt := 40) F (dAt dk_X6_word_ 19 rfl) (by decide) ?_
        cases h
        exact E (dAt dk_X6_word_ 21 rfl) rfl
  refine g_lv (lv' := [(0, .ref (ad 39)), (1, .ref (g.2.2.1 (x1).val)), (2, .int x2)]) rfl ?_
  unfold f_X6_word_ at h
  refine g_aload_n F (dAt dk_X6_word_ 0 rfl) 0 rfl ?_
  refine gg_Model_at F (gm mw_882 rfl) (dAt dk_X6_word_ 1 rfl) ?_
  refine g_istore_n (lv' := [(3, .int (u.1 39 18)), (0, .ref (ad 39)), (1, .ref (g.2.2.1 (x1).val)), (2, .int x2)]) F (dAt dk_X6_word_ 2 rfl) (by decide) rfl ?_
  refine g_aload_n F (dAt dk_X6_word_ 3 rfl) 1 rfl ?_
  refine g_aload_n F (dAt dk_X6_word_ 4 rfl) 2 rfl ?_
  refine g_invV_im F mi_X6_word (gm mw_1048 rfl) (dAt dk_X6_word_ 5 rfl) (rcx_of F rc_Model) [.ref (g.2.2.1 (x1).val)] rfl rfl (by decide) (Nat.le_of_ble_eq_true rfl) h (fun _ _ hf => c_X6_word hJ hf) (fun r1 t2 h => ?_)
  refine g_istore (lv' := [(4, .int r1), (3, .int (u.1 39 18)), (0, .ref (ad 39)), (1, .ref (g.2.2.1 (x1).val)), (2, .int x2)]) F (dAt dk_X6_word_ 6 rfl) (by decide) rfl ?_
  refine g_iload F (dAt dk_X6_word_ 7 rfl) 0 rfl ?_
  refine g_if_eq (tgt := 26) F (dAt dk_X6_word_ 8 rfl) (by decide) h (fun c3 h => ?_) (fun c3 h => ?_)
  · refine g_sub (lv' := [(2, .int x2), (4, .int r1)]) [4, 0] rfl ?_
    exact J26  r1 t2 h
  · refine g_iload_n F (dAt dk_X6_word_ 9 rfl) 4 rfl ?_
    refine g_if_ne (tgt := 26) F (dAt dk_X6_word_ 10 rfl) (by decide) h (fun c4 h => ?_) (fun c4 h => ?_)
    · refine g_sub (lv' := [(2, .int x2), (4, .int r1)]) [4, 0] rfl ?_
      exact J26  r1 t2 h
    · refine g_aload_n F (dAt dk_X6_word_ 11 rfl) 2 rfl ?_
      refine g_iload_n F (dAt dk_X6_word_ 12 rfl) 1 rfl ?_
      refine gp_Model_at F (gm mw_882 rfl) (dAt dk_X6_word_ 13 rfl) ?_
      refine g_ltu h (fun t5 h => ?_)
      refine g_sub (lv' := [(2, .int x2), (4, .int r1)]) [4, 0] rfl ?_
      exact J26  r1 t5 h
theorem mi_X6_number : MI yX6_number cX6_number 7 (some .boolean) "MillOfDistancesModel" 3 := ⟨(gm mw_1061 rfl), (gm mw_1060 rfl), (gm mw_40 rfl), (gm mw_75 rfl), by decide +kernel, by decide⟩
theorem c_X6_number {l : Launch} {D : va_G} {ad : Nat → Nat} {g : Gv} {t u : Mem} {n : Nat} {x1 : Int32} {x2 : Int32} {x3 : Int32} {u' : Mem} {r : Int32} (hJ : Jad ad) (h : f_X6_number n x1 x2 x3 u = some (r, u')) : ConI l yX6_number cX6_number 7 (some .boolean) 2 [.ref (ad 39), .int x1, .int x2, .int x3] D ad g t u t u' r := by
  refine con_i hJ (by decide) (Nat.le_of_ble_eq_true rfl) rfl (fun X F E => ?_)
  have J77 : ∀ (v4 : Int32) (v5 : Int32) (u0 : Mem), jn_X6_number_77 n x1 x2 x3 v4 v5 u0 = some (r, u') → G X D ad g t u0 [(0, .ref (ad 39)), (1, .int x1), (2, .int x2), (3, .int x3), (4, .int v4), (5, .int v5)] 77 [] := by
    intro v4 v5 u0 h
    unfold jn_X6_number_77 at h
    refine g_aload_n F (dAt dk_X6_number 41 rfl) 0 rfl ?_
    refine gg_Model_at F (gm mw_882 rfl) (dAt dk_X6_number 42 rfl) ?_
    refine g_iload F (dAt dk_X6_number 43 rfl) 4 rfl ?_
    refine g_icmp_ne (tgt := 88) F (dAt dk_X6_number 44 rfl) (by decide) h (fun c14 h => ?_) (fun c14 h => ?_)
    · refine g_aload_n F (dAt dk_X6_number 47 rfl) 0 rfl ?_
      refine gg_Model_numbers F (gm mw_883 rfl) (dAt dk_X6_number 48 rfl) ?_
      refine g_iload_n F (dAt dk_X6_number 49 rfl) 1 rfl ?_
      refine g_iload F (dAt dk_X6_number 50 rfl) 5 rfl ?_
      refine g_ck h (fun hi15 h => ?_)
      refine g_iastorem F am_numbers (dAt dk_X6_number 51 rfl) hi15 ?_
      refine g_ltu h (fun t16 h => ?_)
      refine g_iload F (dAt dk_X6_number 52 rfl) 5 rfl ?_
      refine g_iload_n F (dAt dk_X6_number 53 rfl) 2 rfl ?_
      refine g_iload_n F (dAt dk_X6_number 54 rfl) 3 rfl ?_
      refine g_invS_ip F ms_X6_within (gm mw_935 rfl) (dAt dk_X6_number 55 rfl) [.int v5, .int x2, .int x3] rfl rfl (by decide) (Nat.le_of_ble_eq_true rfl) h (fun _ hf => c_X6_within hJ hf) (fun r17 h => ?_)
      refine g_istore (lv' := [(6, .int r17), (0, .ref (ad 39)), (1, .int x1), (2, .int x2), (3, .int x3), (4, .int v4), (5, .int v5)]) F (dAt dk_X6_number 56 rfl) (by decide) rfl ?_
      refine g_iload F (dAt dk_X6_number 57 rfl) 0 rfl ?_
      refine g_if_ne (tgt := 116) F (dAt dk_X6_number 58 rfl) (by decide) h (fun c18 h => ?_) (fun c18 h => ?_)
      · refine g_iload F (dAt dk_X6_number 62 rfl) 0 rfl ?_
        refine g_ck h (fun hz19 h => ?_)
        cases h
        exact E (dAt dk_X6_number 63 rfl) (nB hz19)
      · refine g_aload_n F (dAt dk_X6_number 59 rfl) 1 rfl ?_
        refine g_iload F (dAt dk_X6_number 60 rfl) 5 rfl ?_
        refine gp_Model_at F (gm mw_882 rfl) (dAt dk_X6_number 61 rfl) ?_
        refine g_ltu h (fun t20 h => ?_)
        refine g_iload F (dAt dk_X6_number 62 rfl) 0 rfl ?_
        refine g_ck h (fun hz21 h => ?_)
        cases h
        exact E (dAt dk_X6_number 63 rfl) (nB hz21)
    · refine g_iconst (v := 0) F (dAt dk_X6_number 45 rfl) (by decide) ?_
      cases h
      exact E (dAt dk_X6_number 46 rfl) rfl
  have H20 : ∀ (k : Nat) (s : Int32 × Int32 × Mem), iter (bd_X6_number_20 n x1 x2 x3) k s = some (r, u') → G X D ad g t s.2.2 [(0, .ref (ad 39)), (1, .int x1), (2, .int x2), (3, .int x3), (4, .int s.1), (5, .int s.2.1)] 20 [] := by
    refine iter_walk (P := fun (s : Int32 × Int32 × Mem) => G X D ad g t s.2.2 [(0, .ref (ad 39)), (1, .int x1), (2, .int x2), (3, .int x3), (4, .int s.1), (5, .int s.2.1)] 20 []) (fun self20 ih20 s h => ?_)
    obtain ⟨v4, v5, u0⟩ := s
    change G X D ad g t u0 [(0, .ref (ad 39)), (1, .int x1), (2, .int x2), (3, .int x3), (4, .int v4), (5, .int v5)] 20 []
    unfold bd_X6_number_20 at h; try dsimp only at h
    refine g_aload_n F (dAt dk_X6_number 11 rfl) 0 rfl ?_
    refine gg_Model_at F (gm mw_882 rfl) (dAt dk_X6_number 12 rfl) ?_
    refine g_iload F (dAt dk_X6_number 13 rfl) 4 rfl ?_
    refine g_isub F (dAt dk_X6_number 14 rfl) ?_
    refine g_iconst (v := 5) F (dAt dk_X6_number 15 rfl) (by decide) ?_
    refine g_icmp_ge (tgt := 77) F (dAt dk_X6_number 16 rfl) (by decide) h (fun c4 h => ?_) (fun c4 h => ?_)
    · refine g_sub (lv' := [(0, .ref (ad 39)), (1, .int x1), (2, .int x2), (3, .int x3), (4, .int v4), (5, .int v5)]) [0, 1, 2, 3, 4, 5] rfl ?_
      exact J77  v4 v5 u0 h
    · refine g_aload_n F (dAt dk_X6_number 17 rfl) 0 rfl ?_
      refine g_invV_im F mi_X6_sign (gm mw_1039 rfl) (dAt dk_X6_number 18 rfl) (rcx_of F rc_Model) [] rfl rfl (by decide) (Nat.le_of_ble_eq_true rfl) h (fun _ _ hf => c_X6_sign hJ hf) (fun r5 t6 h => ?_)
      refine g_bipush (v := 48) F (dAt dk_X6_number 19 rfl) (by decide) ?_
      refine g_icmp_lt (tgt := 77) F (dAt dk_X6_number 20 rfl) (by decide) h (fun c7 h => ?_) (fun c7 h => ?_)
      · refine g_sub (lv' := [(0, .ref (ad 39)), (1, .int x1), (2, .int x2), (3, .int x3), (4, .int v4), (5, .int v5)]) [0, 1, 2, 3, 4, 5] rfl ?_
        exact J77  v4 v5 t6 h
      · refine g_aload_n F (dAt dk_X6_number 21 rfl) 0 rfl ?_
        refine g_invV_im F mi_X6_sign (gm mw_1039 rfl) (dAt dk_X6_number 22 rfl) (rcx_of F rc_Model) [] rfl rfl (by decide) (Nat.le_of_ble_eq_true rfl) h (fun _ _ hf => c_X6_sign hJ hf) (fun r8 t9 h => ?_)
        refine g_bipush (v := 57) F (dAt dk_X6_number 23 rfl) (by decide) ?_
        refine g_icmp_gt (tgt := 77) F (dAt dk_X6_number 24 rfl) (by decide) h (fun c10 h => ?_) (fun c10 h => ?_)
        · refine g_sub (lv' := [(0, .ref (ad 39)), (1, .int x1), (2, .int x2), (3, .int x3), (4, .int v4), (5, .int v5)]) [0, 1, 2, 3, 4, 5] rfl ?_
          exact J77  v4 v5 t9 h
        · refine g_bipush (v := 10) F (dAt dk_X6_number 25 rfl) (by decide) ?_
          refine g_iload F (dAt dk_X6_number 26 rfl) 5 rfl ?_
          refine g_imul F (dAt dk_X6_number 27 rfl) ?_
          refine g_aload_n F (dAt dk_X6_number 28 rfl) 0 rfl ?_
          refine g_invV_im F mi_X6_sign (gm mw_1039 rfl) (dAt dk_X6_number 29 rfl) (rcx_of F rc_Model) [] rfl rfl (by decide) (Nat.le_of_ble_eq_true rfl) h (fun _ _ hf => c_X6_sign hJ hf) (fun r11 t12 h => ?_)
          refine g_iadd F (dAt dk_X6_number 30 rfl) ?_
          refine g_bipush (v := 48) F (dAt dk_X6_number 31 rfl) (by decide) ?_
          refine g_isub F (dAt dk_X6_number 32 rfl) ?_
          refine g_istore (lv' := [(5, .int (((10 * v5) + r11) - 48)), (0, .ref (ad 39)), (1, .int x1), (2, .int x2), (3, .int x3), (4, .int v4)]) F (dAt dk_X6_number 33 rfl) (by decide) rfl ?_
          refine g_aload_n F (dAt dk_X6_number 34 rfl) 1 rfl ?_
          refine g_dup F (dAt dk_X6_number 35 rfl) rfl ?_
          refine gg_Model_at F (gm mw_882 rfl) (dAt dk_X6_number 36 rfl) ?_
          refine g_iconst (v := 1) F (dAt dk_X6_number 37 rfl) (by decide) ?_
          refine g_iadd F (dAt dk_X6_number 38 rfl) ?_
          refine gp_Model_at F (gm mw_882 rfl) (dAt dk_X6_number 39 rfl) ?_
          refine g_ltu h (fun t13 h => ?_)
          refine g_goto (tgt := 20) F (dAt dk_X6_number 40 rfl) (by decide) ?_
          refine g_sub (lv' := [(0, .ref (ad 39)), (1, .int x1), (2, .int x2), (3, .int x3), (4, .int v4), (5, .int (((10 * v5) + r11) - 48))]) [1, 2, 3, 4, 5, 0] rfl ?_
          exact ih20 (v4, (((10 * v5) + r11) - 48), t13) h
  refine g_lv (lv' := [(0, .ref (ad 39)), (1, .int x1), (2, .int x2), (3, .int x3)]) rfl ?_
  unfold f_X6_number at h
  refine g_aload_n F (dAt dk_X6_number 0 rfl) 0 rfl ?_
  refine g_bipush (v := 32) F (dAt dk_X6_number 1 rfl) (by decide) ?_
  refine g_invV_im F mi_X6_is (gm mw_1054 rfl) (dAt dk_X6_number 2 rfl) (rcx_of F rc_Model) [.int 32] rfl rfl (by decide) (Nat.le_of_ble_eq_true rfl) h (fun _ _ hf => c_X6_is hJ hf) (fun r1 t2 h => ?_)
  refine g_if_ne (tgt := 11) F (dAt dk_X6_number 3 rfl) (by decide) h (fun c3 h => ?_) (fun c3 h => ?_)
  · refine g_aload_n F (dAt dk_X6_number 6 rfl) 0 rfl ?_
    refine gg_Model_at F (gm mw_882 rfl) (dAt dk_X6_number 7 rfl) ?_
    refine g_istore (lv' := [(4, .int (t2.1 39 18)), (0, .ref (ad 39)), (1, .int x1), (2, .int x2), (3, .int x3)]) F (dAt dk_X6_number 8 rfl) (by decide) rfl ?_
    refine g_iconst (v := 0) F (dAt dk_X6_number 9 rfl) (by decide) ?_
    refine g_istore (lv' := [(5, .int 0), (4, .int (t2.1 39 18)), (0, .ref (ad 39)), (1, .int x1), (2, .int x2), (3, .int x3)]) F (dAt dk_X6_number 10 rfl) (by decide) rfl ?_
    refine g_sub (lv' := [(0, .ref (ad 39)), (1, .int x1), (2, .int x2), (3, .int x3), (4, .int (t2.1 39 18)), (5, .int 0)]) [2, 3, 4, 5, 1, 0] rfl ?_
    exact H20  n ((t2.1 39 18), 0, t2) h
  · refine g_iconst (v := 0) F (dAt dk_X6_number 4 rfl) (by decide) ?_
    cases h
    exact E (dAt dk_X6_number 5 rfl) rfl
theorem mi_X6_two : MI yX6_two cX6_two 4 (some .boolean) "MillOfDistancesModel" 1 := ⟨(gm mw_1066 rfl), (gm mw_1065 rfl), (gm mw_41 rfl), (gm mw_75 rfl), by decide +kernel, by decide⟩
theorem c_X6_two {l : Launch} {D : va_G} {ad : Nat → Nat} {g : Gv} {t u : Mem} {n : Nat} {x1 : Int32} {u' : Mem} {r : Int32} (hJ : Jad ad) (h : f_X6_two n x1 u = some (r, u')) : ConI l yX6_two cX6_two 4 (some .boolean) 3 [.ref (ad 39), .int x1] D ad g t u t u' r := by
  refine con_i hJ (by decide) (Nat.le_of_ble_eq_true rfl) rfl (fun X F E => ?_)
  have J89 : ∀ (v2 : Int32) (w0 : Int32) (u0 : Mem), jn_X6_two_89 n x1 v2 w0 u0 = some (r, u') → G X D ad g t u0 [(0, .ref (ad 39)), (2, .int v2)] 89 [.int w0] := by
    intro v2 w0 u0 h
    unfold jn_X6_two_89 at h
    refine g_istore_n (lv' := [(3, .int w0), (0, .ref (ad 39)), (2, .int v2)]) F (dAt dk_X6_two 56 rfl) (by decide) rfl ?_
    refine g_iload_n F (dAt dk_X6_two 57 rfl) 0 rfl ?_
    refine g_if_ne (tgt := 99) F (dAt dk_X6_two 58 rfl) (by decide) h (fun c15 h => ?_) (fun c15 h => ?_)
    · refine g_iload_n F (dAt dk_X6_two 62 rfl) 0 rfl ?_
      refine g_ck h (fun hz16 h => ?_)
      cases h
      exact E (dAt dk_X6_two 63 rfl) (nB hz16)
    · refine g_aload_n F (dAt dk_X6_two 59 rfl) 1 rfl ?_
      refine g_iload_n F (dAt dk_X6_two 60 rfl) 2 rfl ?_
      refine gp_Model_at F (gm mw_882 rfl) (dAt dk_X6_two 61 rfl) ?_
      refine g_ltu h (fun t17 h => ?_)
      refine g_iload_n F (dAt dk_X6_two 62 rfl) 0 rfl ?_
      refine g_ck h (fun hz18 h => ?_)
      cases h
      exact E (dAt dk_X6_two 63 rfl) (nB hz18)
  have J88 : ∀ (v2 : Int32) (u0 : Mem), jn_X6_two_88 n x1 v2 u0 = some (r, u') → G X D ad g t u0 [(0, .ref (ad 39)), (2, .int v2)] 88 [] := by
    intro v2 u0 h
    unfold jn_X6_two_88 at h
    refine g_iconst (v := 0) F (dAt dk_X6_two 55 rfl) (by decide) ?_
    refine g_sub (lv' := [(0, .ref (ad 39)), (2, .int v2)]) [0, 1] rfl ?_
    exact J89  v2 0 u0 h
  have J84 : ∀ (v2 : Int32) (u0 : Mem), jn_X6_two_84 n x1 v2 u0 = some (r, u') → G X D ad g t u0 [(0, .ref (ad 39)), (2, .int v2)] 84 [] := by
    intro v2 u0 h
    unfold jn_X6_two_84 at h
    refine g_iconst (v := 1) F (dAt dk_X6_two 53 rfl) (by decide) ?_
    refine g_goto (tgt := 89) F (dAt dk_X6_two 54 rfl) (by decide) ?_
    refine g_sub (lv' := [(0, .ref (ad 39)), (2, .int v2)]) [0, 1] rfl ?_
    exact J89  v2 1 u0 h
  refine g_lv (lv' := [(0, .ref (ad 39)), (1, .int x1)]) rfl ?_
  unfold f_X6_two at h
  refine g_aload_n F (dAt dk_X6_two 0 rfl) 0 rfl ?_
  refine g_iconst (v := 0) F (dAt dk_X6_two 1 rfl) (by decide) ?_
  refine g_iconst (v := 0) F (dAt dk_X6_two 2 rfl) (by decide) ?_
  refine g_aload_n F (dAt dk_X6_two 3 rfl) 0 rfl ?_
  refine gg_Model_places F (gm mw_867 rfl) (dAt dk_X6_two 4 rfl) ?_
  refine g_iconst (v := 1) F (dAt dk_X6_two 5 rfl) (by decide) ?_
  refine g_isub F (dAt dk_X6_two 6 rfl) ?_
  refine g_invV_im F mi_X6_number (gm mw_1058 rfl) (dAt dk_X6_two 7 rfl) (rcx_of F rc_Model) [.int 0, .int 0, .int ((u.1 39 3) - 1)] rfl rfl (by decide) (Nat.le_of_ble_eq_true rfl) h (fun _ _ hf => c_X6_number hJ hf) (fun r1 t2 h => ?_)
  refine g_if_ne (tgt := 17) F (dAt dk_X6_two 8 rfl) (by decide) h (fun c3 h => ?_) (fun c3 h => ?_)
  · refine g_aload_n F (dAt dk_X6_two 11 rfl) 0 rfl ?_
    refine gg_Model_at F (gm mw_882 rfl) (dAt dk_X6_two 12 rfl) ?_
    refine g_iconst (v := 1) F (dAt dk_X6_two 13 rfl) (by decide) ?_
    refine g_iadd F (dAt dk_X6_two 14 rfl) ?_
    refine g_istore_n (lv' := [(2, .int ((t2.1 39 18) + 1)), (0, .ref (ad 39)), (1, .int x1)]) F (dAt dk_X6_two 15 rfl) (by decide) rfl ?_
    refine g_aload_n F (dAt dk_X6_two 16 rfl) 1 rfl ?_
    refine g_iconst (v := 1) F (dAt dk_X6_two 17 rfl) (by decide) ?_
    refine g_iconst (v := 0) F (dAt dk_X6_two 18 rfl) (by decide) ?_
    refine g_aload_n F (dAt dk_X6_two 19 rfl) 1 rfl ?_
    refine gg_Model_places F (gm mw_867 rfl) (dAt dk_X6_two 20 rfl) ?_
    refine g_iconst (v := 1) F (dAt dk_X6_two 21 rfl) (by decide) ?_
    refine g_isub F (dAt dk_X6_two 22 rfl) ?_
    refine g_invV_im F mi_X6_number (gm mw_1058 rfl) (dAt dk_X6_two 23 rfl) (rcx_of F rc_Model) [.int 1, .int 0, .int ((t2.1 39 3) - 1)] rfl rfl (by decide) (Nat.le_of_ble_eq_true rfl) h (fun _ _ hf => c_X6_number hJ hf) (fun r4 t5 h => ?_)
    refine g_if_ne (tgt := 41) F (dAt dk_X6_two 24 rfl) (by decide) h (fun c6 h => ?_) (fun c6 h => ?_)
    · refine g_aload_n F (dAt dk_X6_two 27 rfl) 1 rfl ?_
      refine gg_Model_numbers F (gm mw_883 rfl) (dAt dk_X6_two 28 rfl) ?_
      refine g_iconst (v := 0) F (dAt dk_X6_two 29 rfl) (by decide) ?_
      refine g_ck h (fun hi7 h => ?_)
      refine g_ialoadm F am_numbers (dAt dk_X6_two 30 rfl) hi7 ?_
      refine g_aload_n F (dAt dk_X6_two 31 rfl) 1 rfl ?_
      refine gg_Model_numbers F (gm mw_883 rfl) (dAt dk_X6_two 32 rfl) ?_
      refine g_iconst (v := 1) F (dAt dk_X6_two 33 rfl) (by decide) ?_
      refine g_ck h (fun hi8 h => ?_)
      refine g_ialoadm F am_numbers (dAt dk_X6_two 34 rfl) hi8 ?_
      refine g_icmp_eq (tgt := 88) F (dAt dk_X6_two 35 rfl) (by decide) h (fun c9 h => ?_) (fun c9 h => ?_)
      · refine g_sub (lv' := [(0, .ref (ad 39)), (2, .int ((t2.1 39 18) + 1))]) [1, 0] rfl ?_
        exact J88  ((t2.1 39 18) + 1) t5 h
      · refine g_iload_n F (dAt dk_X6_two 36 rfl) 2 rfl ?_
        refine g_if_eq (tgt := 84) F (dAt dk_X6_two 37 rfl) (by decide) h (fun c10 h => ?_) (fun c10 h => ?_)
        · refine g_sub (lv' := [(0, .ref (ad 39)), (2, .int ((t2.1 39 18) + 1))]) [1, 0] rfl ?_
          exact J84  ((t2.1 39 18) + 1) t5 h
        · refine g_aload_n F (dAt dk_X6_two 38 rfl) 1 rfl ?_
          refine gg_Model_miles F (gm mw_870 rfl) (dAt dk_X6_two 39 rfl) ?_
          refine g_bipush (v := 8) F (dAt dk_X6_two 40 rfl) (by decide) ?_
          refine g_aload_n F (dAt dk_X6_two 41 rfl) 1 rfl ?_
          refine gg_Model_numbers F (gm mw_883 rfl) (dAt dk_X6_two 42 rfl) ?_
          refine g_iconst (v := 0) F (dAt dk_X6_two 43 rfl) (by decide) ?_
          refine g_ck h (fun hi11 h => ?_)
          refine g_ialoadm F am_numbers (dAt dk_X6_two 44 rfl) hi11 ?_
          refine g_imul F (dAt dk_X6_two 45 rfl) ?_
          refine g_aload_n F (dAt dk_X6_two 46 rfl) 1 rfl ?_
          refine gg_Model_numbers F (gm mw_883 rfl) (dAt dk_X6_two 47 rfl) ?_
          refine g_iconst (v := 1) F (dAt dk_X6_two 48 rfl) (by decide) ?_
          refine g_ck h (fun hi12 h => ?_)
          refine g_ialoadm F am_numbers (dAt dk_X6_two 49 rfl) hi12 ?_
          refine g_iadd F (dAt dk_X6_two 50 rfl) ?_
          refine g_ck h (fun hi13 h => ?_)
          refine g_ialoadm F am_miles (dAt dk_X6_two 51 rfl) hi13 ?_
          refine g_if_le (tgt := 88) F (dAt dk_X6_two 52 rfl) (by decide) h (fun c14 h => ?_) (fun c14 h => ?_)
          · refine g_sub (lv' := [(0, .ref (ad 39)), (2, .int ((t2.1 39 18) + 1))]) [1, 0] rfl ?_
            exact J88  ((t2.1 39 18) + 1) t5 h
          · refine g_sub (lv' := [(0, .ref (ad 39)), (2, .int ((t2.1 39 18) + 1))]) [1, 0] rfl ?_
            exact J84  ((t2.1 39 18) + 1) t5 h
    · refine g_iconst (v := 0) F (dAt dk_X6_two 25 rfl) (by decide) ?_
      cases h
      exact E (dAt dk_X6_two 26 rfl) rfl
  · refine g_iconst (v := 0) F (dAt dk_X6_two 9 rfl) (by decide) ?_
    cases h
    exact E (dAt dk_X6_two 10 rfl) rfl
theorem mi_X6_yieldOf : MI yX6_yieldOf cX6_yieldOf 4 (some .int) "MillOfDistancesModel" 2 := ⟨(gm mw_1075 rfl), (gm mw_1074 rfl), (gm mw_43 rfl), (gm mw_75 rfl), by decide +kernel, by decide⟩
theorem c_X6_yieldOf {l : Launch} {D : va_G} {ad : Nat → Nat} {g : Gv} {t u : Mem} {n : Nat} {x1 : Int32} {x2 : Int32} {u' : Mem} {r : Int32} (hJ : Jad ad) (h : f_X6_yieldOf n x1 x2 u = some (r, u')) : ConI l yX6_yieldOf cX6_yieldOf 4 (some .int) 2 [.ref (ad 39), .int x1, .int x2] D ad g t u t u' r := by
  refine con_i hJ (by decide) (Nat.le_of_ble_eq_true rfl) rfl (fun X F E => ?_)
  have J44 : ∀ (v3 : Int32) (u0 : Mem), jn_X6_yieldOf_44 n x1 x2 v3 u0 = some (r, u') → G X D ad g t u0 [(0, .ref (ad 39)), (1, .int x1), (2, .int x2), (3, .int v3)] 44 [] := by
    intro v3 u0 h
    unfold jn_X6_yieldOf_44 at h
    refine g_aload_n F (dAt dk_X6_yieldOf 29 rfl) 0 rfl ?_
    refine gg_Model_kind F (gm mw_868 rfl) (dAt dk_X6_yieldOf 30 rfl) ?_
    refine g_iload_n F (dAt dk_X6_yieldOf 31 rfl) 1 rfl ?_
    refine g_ck h (fun hi9 h => ?_)
    refine g_ialoadm F am_kind (dAt dk_X6_yieldOf 32 rfl) hi9 ?_
    refine g_iconst (v := 2) F (dAt dk_X6_yieldOf 33 rfl) (by decide) ?_
    refine g_invS_ip F ms_X6_isUnder (gm mw_978 rfl) (dAt dk_X6_yieldOf 34 rfl) [.int (u0.1 43 x1.toNatClampNeg), .int 2] rfl rfl (by decide) (Nat.le_of_ble_eq_true rfl) h (fun _ hf => c_X6_isUnder hJ hf) (fun r10 h => ?_)
    refine g_if_ne (tgt := 70) F (dAt dk_X6_yieldOf 35 rfl) (by decide) h (fun c11 h => ?_) (fun c11 h => ?_)
    · refine g_iload_n F (dAt dk_X6_yieldOf 43 rfl) 3 rfl ?_
      refine g_iconst (v := 2) F (dAt dk_X6_yieldOf 44 rfl) (by decide) ?_
      refine g_idiv F (dAt dk_X6_yieldOf 45 rfl) (by decide) ?_
      refine g_istore_n (lv' := [(3, .int (v3 / 2)), (0, .ref (ad 39)), (1, .int x1), (2, .int x2)]) F (dAt dk_X6_yieldOf 46 rfl) (by decide) rfl ?_
      refine g_iload_n F (dAt dk_X6_yieldOf 47 rfl) 0 rfl ?_
      cases h
      exact E (dAt dk_X6_yieldOf 48 rfl) rfl
    · refine g_aload_n F (dAt dk_X6_yieldOf 36 rfl) 0 rfl ?_
      refine gg_Model_kind F (gm mw_868 rfl) (dAt dk_X6_yieldOf 37 rfl) ?_
      refine g_iload_n F (dAt dk_X6_yieldOf 38 rfl) 2 rfl ?_
      refine g_ck h (fun hi12 h => ?_)
      refine g_ialoadm F am_kind (dAt dk_X6_yieldOf 39 rfl) hi12 ?_
      refine g_iconst (v := 2) F (dAt dk_X6_yieldOf 40 rfl) (by decide) ?_
      refine g_invS_ip F ms_X6_isUnder (gm mw_978 rfl) (dAt dk_X6_yieldOf 41 rfl) [.int (u0.1 43 x2.toNatClampNeg), .int 2] rfl rfl (by decide) (Nat.le_of_ble_eq_true rfl) h (fun _ hf => c_X6_isUnder hJ hf) (fun r13 h => ?_)
      refine g_if_eq (tgt := 74) F (dAt dk_X6_yieldOf 42 rfl) (by decide) h (fun c14 h => ?_) (fun c14 h => ?_)
      · refine g_iload_n F (dAt dk_X6_yieldOf 47 rfl) 3 rfl ?_
        cases h
        exact E (dAt dk_X6_yieldOf 48 rfl) rfl
      · refine g_iload_n F (dAt dk_X6_yieldOf 43 rfl) 3 rfl ?_
        refine g_iconst (v := 2) F (dAt dk_X6_yieldOf 44 rfl) (by decide) ?_
        refine g_idiv F (dAt dk_X6_yieldOf 45 rfl) (by decide) ?_
        refine g_istore_n (lv' := [(3, .int (v3 / 2)), (0, .ref (ad 39)), (1, .int x1), (2, .int x2)]) F (dAt dk_X6_yieldOf 46 rfl) (by decide) rfl ?_
        refine g_iload_n F (dAt dk_X6_yieldOf 47 rfl) 0 rfl ?_
        cases h
        exact E (dAt dk_X6_yieldOf 48 rfl) rfl
  have J38 : ∀ (v3 : Int32) (u0 : Mem), jn_X6_yieldOf_38 n x1 x2 v3 u0 = some (r, u') → G X D ad g t u0 [(0, .ref (ad 39)), (1, .int x1), (2, .int x2), (3, .int v3)] 38 [] := by
    intro v3 u0 h
    unfold jn_X6_yieldOf_38 at h
    refine g_iload_n F (dAt dk_X6_yieldOf 23 rfl) 3 rfl ?_
    refine g_iload_n F (dAt dk_X6_yieldOf 24 rfl) 3 rfl ?_
    refine g_iconst (v := 4) F (dAt dk_X6_yieldOf 25 rfl) (by decide) ?_
    refine g_idiv F (dAt dk_X6_yieldOf 26 rfl) (by decide) ?_
    refine g_isub F (dAt dk_X6_yieldOf 27 rfl) ?_
    refine g_istore_n (lv' := [(3, .int (v3 - (v3 / 4))), (0, .ref (ad 39)), (1, .int x1), (2, .int x2)]) F (dAt dk_X6_yieldOf 28 rfl) (by decide) rfl ?_
    refine g_sub (lv' := [(0, .ref (ad 39)), (1, .int x1), (2, .int x2), (3, .int (v3 - (v3 / 4)))]) [1, 2, 3, 0] rfl ?_
    exact J44  (v3 - (v3 / 4)) u0 h
  refine g_lv (lv' := [(0, .ref (ad 39)), (1, .int x1), (2, .int x2)]) rfl ?_
  unfold f_X6_yieldOf at h
  refine g_aload_n F (dAt dk_X6_yieldOf 0 rfl) 0 rfl ?_
  refine gg_Model_miles F (gm mw_870 rfl) (dAt dk_X6_yieldOf 1 rfl) ?_
  refine g_bipush (v := 8) F (dAt dk_X6_yieldOf 2 rfl) (by decide) ?_
  refine g_iload_n F (dAt dk_X6_yieldOf 3 rfl) 1 rfl ?_
  refine g_imul F (dAt dk_X6_yieldOf 4 rfl) ?_
  refine g_iload_n F (dAt dk_X6_yieldOf 5 rfl) 2 rfl ?_
  refine g_iadd F (dAt dk_X6_yieldOf 6 rfl) ?_
  refine g_ck h (fun hi1 h => ?_)
  refine g_ialoadm F am_miles (dAt dk_X6_yieldOf 7 rfl) hi1 ?_
  refine g_lti h (fun y2 h => ?_)
  refine g_istore_n (lv' := [(3, .int y2), (0, .ref (ad 39)), (1, .int x1), (2, .int x2)]) F (dAt dk_X6_yieldOf 8 rfl) (by decide) rfl ?_
  refine g_aload_n F (dAt dk_X6_yieldOf 9 rfl) 1 rfl ?_
  refine gg_Model_kind F (gm mw_868 rfl) (dAt dk_X6_yieldOf 10 rfl) ?_
  refine g_iload_n F (dAt dk_X6_yieldOf 11 rfl) 2 rfl ?_
  refine g_ck h (fun hi3 h => ?_)
  refine g_ialoadm F am_kind (dAt dk_X6_yieldOf 12 rfl) hi3 ?_
  refine g_iconst (v := 1) F (dAt dk_X6_yieldOf 13 rfl) (by decide) ?_
  refine g_invS_ip F ms_X6_isUnder (gm mw_978 rfl) (dAt dk_X6_yieldOf 14 rfl) [.int (u.1 43 x1.toNatClampNeg), .int 1] rfl rfl (by decide) (Nat.le_of_ble_eq_true rfl) h (fun _ hf => c_X6_isUnder hJ hf) (fun r4 h => ?_)
  refine g_if_ne (tgt := 38) F (dAt dk_X6_yieldOf 15 rfl) (by decide) h (fun c5 h => ?_) (fun c5 h => ?_)
  · refine g_sub (lv' := [(0, .ref (ad 39)), (1, .int x1), (2, .int x2), (3, .int y2)]) [1, 2, 3, 0] rfl ?_
    exact J38  y2 u h
  · refine g_aload_n F (dAt dk_X6_yieldOf 16 rfl) 1 rfl ?_
    refine gg_Model_kind F (gm mw_868 rfl) (dAt dk_X6_yieldOf 17 rfl) ?_
    refine g_iload_n F (dAt dk_X6_yieldOf 18 rfl) 3 rfl ?_
    refine g_ck h (fun hi6 h => ?_)
    refine g_ialoadm F am_kind (dAt dk_X6_yieldOf 19 rfl) hi6 ?_
    refine g_iconst (v := 1) F (dAt dk_X6_yieldOf 20 rfl) (by decide) ?_
    refine g_invS_ip F ms_X6_isUnder (gm mw_978 rfl) (dAt dk_X6_yieldOf 21 rfl) [.int (u.1 43 x2.toNatClampNeg), .int 1] rfl rfl (by decide) (Nat.le_of_ble_eq_true rfl) h (fun _ hf => c_X6_isUnder hJ hf) (fun r7 h => ?_)
    refine g_if_eq (tgt := 44) F (dAt dk_X6_yieldOf 22 rfl) (by decide) h (fun c8 h => ?_) (fun c8 h => ?_)
    · refine g_sub (lv' := [(0, .ref (ad 39)), (1, .int x1), (2, .int x2), (3, .int y2)]) [1, 2, 3, 0] rfl ?_
      exact J44  y2 u h
    · refine g_sub (lv' := [(0, .ref (ad 39)), (1, .int x1), (2, .int x2), (3, .int y2)]) [1, 2, 3, 0] rfl ?_
      exact J38  y2 u h
theorem mi_X6_mills : MI yX6_mills cX6_mills 3 none "MillOfDistancesModel" 2 := ⟨(gm mw_1071 rfl), (gm mw_1070 rfl), (gm mw_42 rfl), (gm mw_75 rfl), by decide +kernel, by decide⟩
theorem c_X6_mills {l : Launch} {D : va_G} {ad : Nat → Nat} {g : Gv} {t u : Mem} {n : Nat} {x1 : Int32} {x2 : Int32} {u' : Mem} (hJ : Jad ad) (h : f_X6_mills n x1 x2 u = some ((), u')) : ConV l yX6_mills cX6_mills 3 none 3 [.ref (ad 39), .int x1, .int x2] D ad g t u t u' := by
  refine con_v hJ (by decide) (Nat.le_of_ble_eq_true rfl) rfl (fun X F E => ?_)
  refine g_lv (lv' := [(0, .ref (ad 39)), (1, .int x1), (2, .int x2)]) rfl ?_
  unfold f_X6_mills at h
  refine g_aload_n F (dAt dk_X6_mills 0 rfl) 0 rfl ?_
  refine g_ldc (v := 99999) F (dAt dk_X6_mills 1 rfl) (gm mw_1026 rfl) ?_
  refine g_aload_n F (dAt dk_X6_mills 2 rfl) 0 rfl ?_
  refine gg_Model_flour F (gm mw_871 rfl) (dAt dk_X6_mills 3 rfl) ?_
  refine g_aload_n F (dAt dk_X6_mills 4 rfl) 0 rfl ?_
  refine g_iload_n F (dAt dk_X6_mills 5 rfl) 1 rfl ?_
  refine g_iload_n F (dAt dk_X6_mills 6 rfl) 2 rfl ?_
  refine g_invV_im F mi_X6_yieldOf (gm mw_1072 rfl) (dAt dk_X6_mills 7 rfl) (rcx_of F rc_Model) [.int x1, .int x2] rfl rfl (by decide) (Nat.le_of_ble_eq_true rfl) h (fun _ _ hf => c_X6_yieldOf hJ hf) (fun r1 t2 h => ?_)
  refine g_iadd F (dAt dk_X6_mills 8 rfl) ?_
  refine g_mmin F (gm mw_1076 rfl) (dAt dk_X6_mills 9 rfl) (by decide) (Nat.le_of_ble_eq_true rfl) h (fun r3 h => ?_)
  refine gp_Model_flour F (gm mw_871 rfl) (dAt dk_X6_mills 10 rfl) ?_
  refine g_ltu h (fun t4 h => ?_)
  refine g_aload_n F (dAt dk_X6_mills 11 rfl) 0 rfl ?_
  refine g_iload_n F (dAt dk_X6_mills 12 rfl) 1 rfl ?_
  refine g_iload_n F (dAt dk_X6_mills 13 rfl) 2 rfl ?_
  refine g_iconst (v := 0) F (dAt dk_X6_mills 14 rfl) (by decide) ?_
  refine g_invV_im F mi_X6_lay (gm mw_1010 rfl) (dAt dk_X6_mills 15 rfl) (rcx_of F rc_Model) [.int x1, .int x2, .int 0] rfl rfl (by decide) (Nat.le_of_ble_eq_true rfl) h (fun _ _ hf => c_X6_lay hJ hf) (fun r5 t6 h => ?_)
  refine g_pop F (dAt dk_X6_mills 16 rfl) rfl ?_
  cases h
  exact E (dAt dk_X6_mills 17 rfl)
theorem mi_X6_noRoad : MI yX6_noRoad cX6_noRoad 3 (some .boolean) "MillOfDistancesModel" 2 := ⟨(gm mw_1087 rfl), (gm mw_1086 rfl), (gm mw_45 rfl), (gm mw_75 rfl), by decide +kernel, by decide⟩
theorem c_X6_noRoad {l : Launch} {D : va_G} {ad : Nat → Nat} {g : Gv} {t u : Mem} {x1 : Int32} {x2 : Int32} {u' : Mem} {r : Int32} (hJ : Jad ad) (h : f_X6_noRoad x1 x2 u = some (r, u')) : ConI l yX6_noRoad cX6_noRoad 3 (some .boolean) 0 [.ref (ad 39), .int x1, .int x2] D ad g t u t u' r := by
  refine con_i hJ (by decide) (Nat.le_of_ble_eq_true rfl) rfl (fun X F E => ?_)
  refine g_lv (lv' := [(0, .ref (ad 39)), (1, .int x1), (2, .int x2)]) rfl ?_
  unfold f_X6_noRoad at h
  refine g_iload_n F (dAt dk_X6_noRoad 0 rfl) 1 rfl ?_
  refine g_iload_n F (dAt dk_X6_noRoad 1 rfl) 2 rfl ?_
  refine g_icmp_eq (tgt := 19) F (dAt dk_X6_noRoad 2 rfl) (by decide) h (fun c1 h => ?_) (fun c1 h => ?_)
  · refine g_iconst (v := 1) F (dAt dk_X6_noRoad 12 rfl) (by decide) ?_
    refine g_goto (tgt := 24) F (dAt dk_X6_noRoad 13 rfl) (by decide) ?_
    cases h
    exact E (dAt dk_X6_noRoad 15 rfl) rfl
  · refine g_aload_n F (dAt dk_X6_noRoad 3 rfl) 0 rfl ?_
    refine gg_Model_miles F (gm mw_870 rfl) (dAt dk_X6_noRoad 4 rfl) ?_
    refine g_bipush (v := 8) F (dAt dk_X6_noRoad 5 rfl) (by decide) ?_
    refine g_iload_n F (dAt dk_X6_noRoad 6 rfl) 1 rfl ?_
    refine g_imul F (dAt dk_X6_noRoad 7 rfl) ?_
    refine g_iload_n F (dAt dk_X6_noRoad 8 rfl) 2 rfl ?_
    refine g_iadd F (dAt dk_X6_noRoad 9 rfl) ?_
    refine g_ck h (fun hi2 h => ?_)
    refine g_ialoadm F am_miles (dAt dk_X6_noRoad 10 rfl) hi2 ?_
    refine g_if_ne (tgt := 23) F (dAt dk_X6_noRoad 11 rfl) (by decide) h (fun c3 h => ?_) (fun c3 h => ?_)
    · refine g_iconst (v := 0) F (dAt dk_X6_noRoad 14 rfl) (by decide) ?_
      cases h
      exact E (dAt dk_X6_noRoad 15 rfl) rfl
    · refine g_iconst (v := 1) F (dAt dk_X6_noRoad 12 rfl) (by decide) ?_
      refine g_goto (tgt := 24) F (dAt dk_X6_noRoad 13 rfl) (by decide) ?_
      cases h
      exact E (dAt dk_X6_noRoad 15 rfl) rfl
theorem mi_X6_costs : MI yX6_costs cX6_costs 4 (some .int) "MillOfDistancesModel" 3 := ⟨(gm mw_1092 rfl), (gm mw_1091 rfl), (gm mw_46 rfl), (gm mw_75 rfl), by decide +kernel, by decide⟩
theorem c_X6_costs {l : Launch} {D : va_G} {ad : Nat → Nat} {g : Gv} {t u : Mem} {x1 : Int32} {x2 : Int32} {x3 : Int32} {u' : Mem} {r : Int32} (hJ : Jad ad) (h : f_X6_costs x1 x2 x3 u = some (r, u')) : ConI l yX6_costs cX6_costs 4 (some .int) 2 [.ref (ad 39), .int x1, .int x2, .int x3] D ad g t u t u' r := by
  refine con_i hJ (by decide) (Nat.le_of_ble_eq_true rfl) rfl (fun X F E => ?_)
  refine g_lv (lv' := [(0, .ref (ad 39)), (1, .int x1), (2, .int x2), (3, .int x3)]) rfl ?_
  unfold f_X6_costs at h
  refine g_aload_n F (dAt dk_X6_costs 0 rfl) 0 rfl ?_
  refine g_iload_n F (dAt dk_X6_costs 1 rfl) 1 rfl ?_
  refine g_iload_n F (dAt dk_X6_costs 2 rfl) 3 rfl ?_
  refine g_invV_im F mi_X6_asks (gm mw_989 rfl) (dAt dk_X6_costs 3 rfl) (rcx_of F rc_Model) [.int x1, .int x3] rfl rfl (by decide) (Nat.le_of_ble_eq_true rfl) h (fun _ _ hf => c_X6_asks hJ hf) (fun r1 t2 h => ?_)
  refine g_aload_n F (dAt dk_X6_costs 4 rfl) 0 rfl ?_
  refine g_iload_n F (dAt dk_X6_costs 5 rfl) 2 rfl ?_
  refine g_iload_n F (dAt dk_X6_costs 6 rfl) 3 rfl ?_
  refine g_invV_im F mi_X6_asks (gm mw_989 rfl) (dAt dk_X6_costs 7 rfl) (rcx_of F rc_Model) [.int x2, .int x3] rfl rfl (by decide) (Nat.le_of_ble_eq_true rfl) h (fun _ _ hf => c_X6_asks hJ hf) (fun r3 t4 h => ?_)
  refine g_mmax F (gm mw_993 rfl) (dAt dk_X6_costs 8 rfl) (by decide) (Nat.le_of_ble_eq_true rfl) h (fun r5 h => ?_)
  cases h
  exact E (dAt dk_X6_costs 9 rfl) rfl
theorem mi_X6_may : MI yX6_may cX6_may 5 (some .boolean) "MillOfDistancesModel" 3 := ⟨(gm mw_1083 rfl), (gm mw_1082 rfl), (gm mw_44 rfl), (gm mw_75 rfl), by decide +kernel, by decide⟩
theorem c_X6_may {l : Launch} {D : va_G} {ad : Nat → Nat} {g : Gv} {t u : Mem} {x1 : Int32} {x2 : Int32} {x3 : Int32} {u' : Mem} {r : Int32} (hJ : Jad ad) (h : f_X6_may x1 x2 x3 u = some (r, u')) : ConI l yX6_may cX6_may 5 (some .boolean) 3 [.ref (ad 39), .int x1, .int x2, .int x3] D ad g t u t u' r := by
  refine con_i hJ (by decide) (Nat.le_of_ble_eq_true rfl) rfl (fun X F E => ?_)
  refine g_lv (lv' := [(0, .ref (ad 39)), (1, .int x1), (2, .int x2), (3, .int x3)]) rfl ?_
  unfold f_X6_may at h
  refine g_aload_n F (dAt dk_X6_may 0 rfl) 0 rfl ?_
  refine g_iload_n F (dAt dk_X6_may 1 rfl) 1 rfl ?_
  refine g_invV_im F mi_X6_isPlace (gm mw_966 rfl) (dAt dk_X6_may 2 rfl) (rcx_of F rc_Model) [.int x1] rfl rfl (by decide) (Nat.le_of_ble_eq_true rfl) h (fun _ _ hf => c_X6_isPlace hJ hf) (fun r1 t2 h => ?_)
  refine g_if_eq (tgt := 42) F (dAt dk_X6_may 3 rfl) (by decide) h (fun c3 h => ?_) (fun c3 h => ?_)
  · refine g_iconst (v := 0) F (dAt dk_X6_may 20 rfl) (by decide) ?_
    cases h
    exact E (dAt dk_X6_may 21 rfl) rfl
  · refine g_aload_n F (dAt dk_X6_may 4 rfl) 0 rfl ?_
    refine g_iload_n F (dAt dk_X6_may 5 rfl) 2 rfl ?_
    refine g_invV_im F mi_X6_isPlace (gm mw_966 rfl) (dAt dk_X6_may 6 rfl) (rcx_of F rc_Model) [.int x2] rfl rfl (by decide) (Nat.le_of_ble_eq_true rfl) h (fun _ _ hf => c_X6_isPlace hJ hf) (fun r4 t5 h => ?_)
    refine g_if_eq (tgt := 42) F (dAt dk_X6_may 7 rfl) (by decide) h (fun c6 h => ?_) (fun c6 h => ?_)
    · refine g_iconst (v := 0) F (dAt dk_X6_may 20 rfl) (by decide) ?_
      cases h
      exact E (dAt dk_X6_may 21 rfl) rfl
    · refine g_aload_n F (dAt dk_X6_may 8 rfl) 0 rfl ?_
      refine g_iload_n F (dAt dk_X6_may 9 rfl) 1 rfl ?_
      refine g_iload_n F (dAt dk_X6_may 10 rfl) 2 rfl ?_
      refine g_invV_im F mi_X6_noRoad (gm mw_1084 rfl) (dAt dk_X6_may 11 rfl) (rcx_of F rc_Model) [.int x1, .int x2] rfl rfl (by decide) (Nat.le_of_ble_eq_true rfl) h (fun _ _ hf => c_X6_noRoad hJ hf) (fun r7 t8 h => ?_)
      refine g_if_ne (tgt := 42) F (dAt dk_X6_may 12 rfl) (by decide) h (fun c9 h => ?_) (fun c9 h => ?_)
      · refine g_iconst (v := 0) F (dAt dk_X6_may 20 rfl) (by decide) ?_
        cases h
        exact E (dAt dk_X6_may 21 rfl) rfl
      · refine g_iload_n F (dAt dk_X6_may 13 rfl) 3 rfl ?_
        refine g_if_eq (tgt := 42) F (dAt dk_X6_may 14 rfl) (by decide) h (fun c10 h => ?_) (fun c10 h => ?_)
        · refine g_iconst (v := 0) F (dAt dk_X6_may 20 rfl) (by decide) ?_
          cases h
          exact E (dAt dk_X6_may 21 rfl) rfl
        · refine g_iload_n F (dAt dk_X6_may 15 rfl) 3 rfl ?_
          refine g_sipush (v := (-998)) F (dAt dk_X6_may 16 rfl) (by decide) ?_
          refine g_sipush (v := 998) F (dAt dk_X6_may 17 rfl) (by decide) ?_
          refine g_invS_ip F ms_X6_within (gm mw_935 rfl) (dAt dk_X6_may 18 rfl) [.int x3, .int (-998), .int 998] rfl rfl (by decide) (Nat.le_of_ble_eq_true rfl) h (fun _ hf => c_X6_within hJ hf) (fun r11 h => ?_)
          refine g_if_ne (tgt := 44) F (dAt dk_X6_may 19 rfl) (by decide) h (fun c12 h => ?_) (fun c12 h => ?_)
          · refine g_aload_n F (dAt dk_X6_may 22 rfl) 0 rfl ?_
            refine gg_Model_miles F (gm mw_870 rfl) (dAt dk_X6_may 23 rfl) ?_
            refine g_bipush (v := 8) F (dAt dk_X6_may 24 rfl) (by decide) ?_
            refine g_iload_n F (dAt dk_X6_may 25 rfl) 1 rfl ?_
            refine g_imul F (dAt dk_X6_may 26 rfl) ?_
            refine g_iload_n F (dAt dk_X6_may 27 rfl) 2 rfl ?_
            refine g_iadd F (dAt dk_X6_may 28 rfl) ?_
            refine g_ck h (fun hi13 h => ?_)
            refine g_ialoadm F am_miles (dAt dk_X6_may 29 rfl) hi13 ?_
            refine g_iload_n F (dAt dk_X6_may 30 rfl) 3 rfl ?_
            refine g_iadd F (dAt dk_X6_may 31 rfl) ?_
            refine g_lti h (fun y14 h => ?_)
            refine g_istore (lv' := [(4, .int y14), (0, .ref (ad 39)), (1, .int x1), (2, .int x2), (3, .int x3)]) F (dAt dk_X6_may 32 rfl) (by decide) rfl ?_
            refine g_iload F (dAt dk_X6_may 33 rfl) 0 rfl ?_
            refine g_iconst (v := 1) F (dAt dk_X6_may 34 rfl) (by decide) ?_
            refine g_sipush (v := 999) F (dAt dk_X6_may 35 rfl) (by decide) ?_
            refine g_invS_ip F ms_X6_within (gm mw_935 rfl) (dAt dk_X6_may 36 rfl) [.int y14, .int 1, .int 999] rfl rfl (by decide) (Nat.le_of_ble_eq_true rfl) h (fun _ hf => c_X6_within hJ hf) (fun r15 h => ?_)
            refine g_if_eq (tgt := 92) F (dAt dk_X6_may 37 rfl) (by decide) h (fun c16 h => ?_) (fun c16 h => ?_)
            · refine g_iconst (v := 0) F (dAt dk_X6_may 49 rfl) (by decide) ?_
              cases h
              exact E (dAt dk_X6_may 50 rfl) rfl
            · refine g_aload_n F (dAt dk_X6_may 38 rfl) 1 rfl ?_
              refine g_iload_n F (dAt dk_X6_may 39 rfl) 2 rfl ?_
              refine g_iload_n F (dAt dk_X6_may 40 rfl) 3 rfl ?_
              refine g_iload_n F (dAt dk_X6_may 41 rfl) 4 rfl ?_
              refine g_mabs F (gm mw_1088 rfl) (dAt dk_X6_may 42 rfl) (by decide) (Nat.le_of_ble_eq_true rfl) h (fun r17 h => ?_)
              refine g_invV_im F mi_X6_costs (gm mw_1089 rfl) (dAt dk_X6_may 43 rfl) (rcx_of F rc_Model) [.int x1, .int x2, .int r17] rfl rfl (by decide) (Nat.le_of_ble_eq_true rfl) h (fun _ _ hf => c_X6_costs hJ hf) (fun r18 t19 h => ?_)
              refine g_aload_n F (dAt dk_X6_may 44 rfl) 1 rfl ?_
              refine gg_Model_flour F (gm mw_871 rfl) (dAt dk_X6_may 45 rfl) ?_
              refine g_icmp_gt (tgt := 92) F (dAt dk_X6_may 46 rfl) (by decide) h (fun c20 h => ?_) (fun c20 h => ?_)
              · refine g_iconst (v := 0) F (dAt dk_X6_may 49 rfl) (by decide) ?_
                cases h
                exact E (dAt dk_X6_may 50 rfl) rfl
              · refine g_iconst (v := 1) F (dAt dk_X6_may 47 rfl) (by decide) ?_
                refine g_goto (tgt := 93) F (dAt dk_X6_may 48 rfl) (by decide) ?_
                cases h
                exact E (dAt dk_X6_may 50 rfl) rfl
          · refine g_iconst (v := 0) F (dAt dk_X6_may 20 rfl) (by decide) ?_
            cases h
            exact E (dAt dk_X6_may 21 rfl) rfl
theorem mi_X6_pinch : MI yX6_pinch cX6_pinch 4 none "MillOfDistancesModel" 3 := ⟨(gm mw_1096 rfl), (gm mw_1095 rfl), (gm mw_47 rfl), (gm mw_75 rfl), by decide +kernel, by decide⟩
theorem c_X6_pinch {l : Launch} {D : va_G} {ad : Nat → Nat} {g : Gv} {t u : Mem} {x1 : Int32} {x2 : Int32} {x3 : Int32} {u' : Mem} (hJ : Jad ad) (h : f_X6_pinch x1 x2 x3 u = some ((), u')) : ConV l yX6_pinch cX6_pinch 4 none 3 [.ref (ad 39), .int x1, .int x2, .int x3] D ad g t u t u' := by
  refine con_v hJ (by decide) (Nat.le_of_ble_eq_true rfl) rfl (fun X F E => ?_)
  refine g_lv (lv' := [(0, .ref (ad 39)), (1, .int x1), (2, .int x2), (3, .int x3)]) rfl ?_
  unfold f_X6_pinch at h
  refine g_aload_n F (dAt dk_X6_pinch 0 rfl) 0 rfl ?_
  refine g_dup F (dAt dk_X6_pinch 1 rfl) rfl ?_
  refine gg_Model_flour F (gm mw_871 rfl) (dAt dk_X6_pinch 2 rfl) ?_
  refine g_aload_n F (dAt dk_X6_pinch 3 rfl) 0 rfl ?_
  refine g_iload_n F (dAt dk_X6_pinch 4 rfl) 1 rfl ?_
  refine g_iload_n F (dAt dk_X6_pinch 5 rfl) 2 rfl ?_
  refine g_iload_n F (dAt dk_X6_pinch 6 rfl) 3 rfl ?_
  refine g_mabs F (gm mw_1088 rfl) (dAt dk_X6_pinch 7 rfl) (by decide) (Nat.le_of_ble_eq_true rfl) h (fun r1 h => ?_)
  refine g_invV_im F mi_X6_costs (gm mw_1089 rfl) (dAt dk_X6_pinch 8 rfl) (rcx_of F rc_Model) [.int x1, .int x2, .int r1] rfl rfl (by decide) (Nat.le_of_ble_eq_true rfl) h (fun _ _ hf => c_X6_costs hJ hf) (fun r2 t3 h => ?_)
  refine g_isub F (dAt dk_X6_pinch 9 rfl) ?_
  refine gp_Model_flour F (gm mw_871 rfl) (dAt dk_X6_pinch 10 rfl) ?_
  refine g_ltu h (fun t4 h => ?_)
  refine g_aload_n F (dAt dk_X6_pinch 11 rfl) 0 rfl ?_
  refine g_iload_n F (dAt dk_X6_pinch 12 rfl) 1 rfl ?_
  refine g_iload_n F (dAt dk_X6_pinch 13 rfl) 2 rfl ?_
  refine g_aload_n F (dAt dk_X6_pinch 14 rfl) 0 rfl ?_
  refine gg_Model_miles F (gm mw_870 rfl) (dAt dk_X6_pinch 15 rfl) ?_
  refine g_bipush (v := 8) F (dAt dk_X6_pinch 16 rfl) (by decide) ?_
  refine g_iload_n F (dAt dk_X6_pinch 17 rfl) 1 rfl ?_
  refine g_imul F (dAt dk_X6_pinch 18 rfl) ?_
  refine g_iload_n F (dAt dk_X6_pinch 19 rfl) 2 rfl ?_
  refine g_iadd F (dAt dk_X6_pinch 20 rfl) ?_
  refine g_ck h (fun hi5 h => ?_)
  refine g_ialoadm F am_miles (dAt dk_X6_pinch 21 rfl) hi5 ?_
  refine g_iload_n F (dAt dk_X6_pinch 22 rfl) 3 rfl ?_
  refine g_iadd F (dAt dk_X6_pinch 23 rfl) ?_
  refine g_invV_im F mi_X6_lay (gm mw_1010 rfl) (dAt dk_X6_pinch 24 rfl) (rcx_of F rc_Model) [.int x1, .int x2, .int ((t4.1 45 ((8 * x1) + x2).toNatClampNeg) + x3)] rfl rfl (by decide) (Nat.le_of_ble_eq_true rfl) h (fun _ _ hf => c_X6_lay hJ hf) (fun r6 t7 h => ?_)
  refine g_pop F (dAt dk_X6_pinch 25 rfl) rfl ?_
  cases h
  exact E (dAt dk_X6_pinch 26 rfl)
theorem mi_X6_item : MI yX6_item cX6_item 4 (some .boolean) "MillOfDistancesModel" 0 := ⟨(gm mw_1038 rfl), (gm mw_1037 rfl), (gm mw_35 rfl), (gm mw_75 rfl), by decide +kernel, by decide⟩
theorem c_X6_item {l : Launch} {D : va_G} {ad : Nat → Nat} {g : Gv} {t u : Mem} {n : Nat}  {u' : Mem} {r : Int32} (hJ : Jad ad) (h : f_X6_item n u = some (r, u')) : ConI l yX6_item cX6_item 4 (some .boolean) 6 [.ref (ad 39)] D ad g t u t u' r := by
  refine con_i hJ (by decide) (Nat.le_of_ble_eq_true rfl) rfl (fun X F E => ?_)
  have J121 : ∀ (w0 : Int32) (w1 : Fin 9) (u0 : Mem), jn_X6_item_121 n w0 w1 u0 = some (r, u') → G X D ad g t u0 [(0, .ref (ad 39))] 121 [.int w0, .ref (g.2.2.1 (w1).val), .ref (ad 39)] := by
    intro w0 w1 u0 h
    unfold jn_X6_item_121 at h
    refine g_invV_im F mi_X6_word_ (gm mw_1044 rfl) (dAt dk_X6_item 20 rfl) (rcx_of F rc_Model) [.ref (g.2.2.1 (w1).val), .int w0] rfl rfl (by decide) (Nat.le_of_ble_eq_true rfl) h (fun _ _ hf => c_X6_word_ hJ hf) (fun r83 t84 h => ?_)
    refine g_if_eq (tgt := 149) F (dAt dk_X6_item 21 rfl) (by decide) h (fun c85 h => ?_) (fun c85 h => ?_)
    · refine g_iconst (v := 0) F (dAt dk_X6_item 34 rfl) (by decide) ?_
      cases h
      exact E (dAt dk_X6_item 35 rfl) rfl
    · refine g_aload_n F (dAt dk_X6_item 22 rfl) 0 rfl ?_
      refine g_iconst (v := 0) F (dAt dk_X6_item 23 rfl) (by decide) ?_
      refine g_iconst (v := 0) F (dAt dk_X6_item 24 rfl) (by decide) ?_
      refine g_bipush (v := 6) F (dAt dk_X6_item 25 rfl) (by decide) ?_
      refine g_invV_im F mi_X6_number (gm mw_1058 rfl) (dAt dk_X6_item 26 rfl) (rcx_of F rc_Model) [.int 0, .int 0, .int 6] rfl rfl (by decide) (Nat.le_of_ble_eq_true rfl) h (fun _ _ hf => c_X6_number hJ hf) (fun r86 t87 h => ?_)
      refine g_if_eq (tgt := 149) F (dAt dk_X6_item 27 rfl) (by decide) h (fun c88 h => ?_) (fun c88 h => ?_)
      · refine g_iconst (v := 0) F (dAt dk_X6_item 34 rfl) (by decide) ?_
        cases h
        exact E (dAt dk_X6_item 35 rfl) rfl
      · refine g_aload_n F (dAt dk_X6_item 28 rfl) 0 rfl ?_
        refine g_iconst (v := 1) F (dAt dk_X6_item 29 rfl) (by decide) ?_
        refine g_iconst (v := 0) F (dAt dk_X6_item 30 rfl) (by decide) ?_
        refine g_bipush (v := 9) F (dAt dk_X6_item 31 rfl) (by decide) ?_
        refine g_invV_im F mi_X6_number (gm mw_1058 rfl) (dAt dk_X6_item 32 rfl) (rcx_of F rc_Model) [.int 1, .int 0, .int 9] rfl rfl (by decide) (Nat.le_of_ble_eq_true rfl) h (fun _ _ hf => c_X6_number hJ hf) (fun r89 t90 h => ?_)
        refine g_if_ne (tgt := 151) F (dAt dk_X6_item 33 rfl) (by decide) h (fun c91 h => ?_) (fun c91 h => ?_)
        · refine g_aload_n F (dAt dk_X6_item 36 rfl) 0 rfl ?_
          refine g_aload_n F (dAt dk_X6_item 37 rfl) 0 rfl ?_
          refine gg_Model_numbers F (gm mw_883 rfl) (dAt dk_X6_item 38 rfl) ?_
          refine g_iconst (v := 0) F (dAt dk_X6_item 39 rfl) (by decide) ?_
          refine g_ck h (fun hi92 h => ?_)
          refine g_ialoadm F am_numbers (dAt dk_X6_item 40 rfl) hi92 ?_
          refine g_aload_n F (dAt dk_X6_item 41 rfl) 0 rfl ?_
          refine gg_Model_numbers F (gm mw_883 rfl) (dAt dk_X6_item 42 rfl) ?_
          refine g_iconst (v := 1) F (dAt dk_X6_item 43 rfl) (by decide) ?_
          refine g_ck h (fun hi93 h => ?_)
          refine g_ialoadm F am_numbers (dAt dk_X6_item 44 rfl) hi93 ?_
          refine g_invV_im F mi_X6_newPlace (gm mw_998 rfl) (dAt dk_X6_item 45 rfl) (rcx_of F rc_Model) [.int (t90.1 50 (0 : Int32).toNatClampNeg), .int (t90.1 50 (1 : Int32).toNatClampNeg)] rfl rfl (by decide) (Nat.le_of_ble_eq_true rfl) h (fun _ _ hf => c_X6_newPlace hJ hf) (fun r94 t95 h => ?_)
          refine g_pop F (dAt dk_X6_item 46 rfl) rfl ?_
          refine g_iconst (v := 1) F (dAt dk_X6_item 47 rfl) (by decide) ?_
          cases h
          exact E (dAt dk_X6_item 48 rfl) rfl
        · refine g_iconst (v := 0) F (dAt dk_X6_item 34 rfl) (by decide) ?_
          cases h
          exact E (dAt dk_X6_item 35 rfl) rfl
  have J389 : ∀ (v2 : Int32) (w0 : Int32) (u0 : Mem), jn_X6_item_389 n v2 w0 u0 = some (r, u') → G X D ad g t u0 [(0, .ref (ad 39)), (2, .int v2)] 389 [.int w0] := by
    intro v2 w0 u0 h
    unfold jn_X6_item_389 at h
    refine g_istore_n (lv' := [(3, .int w0), (0, .ref (ad 39)), (2, .int v2)]) F (dAt dk_X6_item 175 rfl) (by decide) rfl ?_
    refine g_aload_n F (dAt dk_X6_item 176 rfl) 1 rfl ?_
    refine g_aload_n F (dAt dk_X6_item 177 rfl) 1 rfl ?_
    refine gg_Model_numbers F (gm mw_883 rfl) (dAt dk_X6_item 178 rfl) ?_
    refine g_iconst (v := 0) F (dAt dk_X6_item 179 rfl) (by decide) ?_
    refine g_ck h (fun hi108 h => ?_)
    refine g_ialoadm F am_numbers (dAt dk_X6_item 180 rfl) hi108 ?_
    refine g_aload_n F (dAt dk_X6_item 181 rfl) 1 rfl ?_
    refine gg_Model_numbers F (gm mw_883 rfl) (dAt dk_X6_item 182 rfl) ?_
    refine g_iconst (v := 1) F (dAt dk_X6_item 183 rfl) (by decide) ?_
    refine g_ck h (fun hi109 h => ?_)
    refine g_ialoadm F am_numbers (dAt dk_X6_item 184 rfl) hi109 ?_
    refine g_iload_n F (dAt dk_X6_item 185 rfl) 0 rfl ?_
    refine g_invV_im F mi_X6_may (gm mw_1080 rfl) (dAt dk_X6_item 186 rfl) (rcx_of F rc_Model) [.int (u0.1 50 (0 : Int32).toNatClampNeg), .int (u0.1 50 (1 : Int32).toNatClampNeg), .int w0] rfl rfl (by decide) (Nat.le_of_ble_eq_true rfl) h (fun _ _ hf => c_X6_may hJ hf) (fun r110 t111 h => ?_)
    refine g_if_ne (tgt := 417) F (dAt dk_X6_item 187 rfl) (by decide) h (fun c112 h => ?_) (fun c112 h => ?_)
    · refine g_aload_n F (dAt dk_X6_item 193 rfl) 1 rfl ?_
      refine g_aload_n F (dAt dk_X6_item 194 rfl) 1 rfl ?_
      refine gg_Model_numbers F (gm mw_883 rfl) (dAt dk_X6_item 195 rfl) ?_
      refine g_iconst (v := 0) F (dAt dk_X6_item 196 rfl) (by decide) ?_
      refine g_ck h (fun hi113 h => ?_)
      refine g_ialoadm F am_numbers (dAt dk_X6_item 197 rfl) hi113 ?_
      refine g_aload_n F (dAt dk_X6_item 198 rfl) 1 rfl ?_
      refine gg_Model_numbers F (gm mw_883 rfl) (dAt dk_X6_item 199 rfl) ?_
      refine g_iconst (v := 1) F (dAt dk_X6_item 200 rfl) (by decide) ?_
      refine g_ck h (fun hi114 h => ?_)
      refine g_ialoadm F am_numbers (dAt dk_X6_item 201 rfl) hi114 ?_
      refine g_iload_n F (dAt dk_X6_item 202 rfl) 0 rfl ?_
      refine g_invV_vm F mi_X6_pinch (gm mw_1093 rfl) (dAt dk_X6_item 203 rfl) (rcx_of F rc_Model) [.int (t111.1 50 (0 : Int32).toNatClampNeg), .int (t111.1 50 (1 : Int32).toNatClampNeg), .int w0] rfl rfl (by decide) (Nat.le_of_ble_eq_true rfl) h (fun _ _ hf => c_X6_pinch hJ hf) (fun _ t115 h => ?_)
      refine g_iconst (v := 1) F (dAt dk_X6_item 204 rfl) (by decide) ?_
      cases h
      exact E (dAt dk_X6_item 205 rfl) rfl
    · refine g_aload_n F (dAt dk_X6_item 188 rfl) 1 rfl ?_
      refine g_iload_n F (dAt dk_X6_item 189 rfl) 2 rfl ?_
      refine gp_Model_at F (gm mw_882 rfl) (dAt dk_X6_item 190 rfl) ?_
      refine g_ltu h (fun t116 h => ?_)
      refine g_iconst (v := 0) F (dAt dk_X6_item 191 rfl) (by decide) ?_
      cases h
      exact E (dAt dk_X6_item 192 rfl) rfl
  have J332 : ∀ (v1 : Int32) (w0 : Fin 9) (u0 : Mem), jn_X6_item_332 n v1 w0 u0 = some (r, u') → G X D ad g t u0 [(0, .ref (ad 39)), (1, .int v1)] 332 [.ref (g.2.2.1 (w0).val), .ref (ad 39)] := by
    intro v1 w0 u0 h
    unfold jn_X6_item_332 at h
    refine g_invV_im F mi_X6_word (gm mw_1048 rfl) (dAt dk_X6_item 142 rfl) (rcx_of F rc_Model) [.ref (g.2.2.1 (w0).val)] rfl rfl (by decide) (Nat.le_of_ble_eq_true rfl) h (fun _ _ hf => c_X6_word hJ hf) (fun r96 t97 h => ?_)
    refine g_if_eq (tgt := 346) F (dAt dk_X6_item 143 rfl) (by decide) h (fun c98 h => ?_) (fun c98 h => ?_)
    · refine g_iconst (v := 0) F (dAt dk_X6_item 148 rfl) (by decide) ?_
      cases h
      exact E (dAt dk_X6_item 149 rfl) rfl
    · refine g_aload_n F (dAt dk_X6_item 144 rfl) 0 rfl ?_
      refine g_iconst (v := 0) F (dAt dk_X6_item 145 rfl) (by decide) ?_
      refine g_invV_im F mi_X6_two (gm mw_1063 rfl) (dAt dk_X6_item 146 rfl) (rcx_of F rc_Model) [.int 0] rfl rfl (by decide) (Nat.le_of_ble_eq_true rfl) h (fun _ _ hf => c_X6_two hJ hf) (fun r99 t100 h => ?_)
      refine g_if_ne (tgt := 348) F (dAt dk_X6_item 147 rfl) (by decide) h (fun c101 h => ?_) (fun c101 h => ?_)
      · refine g_aload_n F (dAt dk_X6_item 150 rfl) 0 rfl ?_
        refine gg_Model_at F (gm mw_882 rfl) (dAt dk_X6_item 151 rfl) ?_
        refine g_iconst (v := 1) F (dAt dk_X6_item 152 rfl) (by decide) ?_
        refine g_iadd F (dAt dk_X6_item 153 rfl) ?_
        refine g_istore_n (lv' := [(2, .int ((t100.1 39 18) + 1)), (0, .ref (ad 39)), (1, .int v1)]) F (dAt dk_X6_item 154 rfl) (by decide) rfl ?_
        refine g_aload_n F (dAt dk_X6_item 155 rfl) 1 rfl ?_
        refine g_iconst (v := 2) F (dAt dk_X6_item 156 rfl) (by decide) ?_
        refine g_iconst (v := 1) F (dAt dk_X6_item 157 rfl) (by decide) ?_
        refine g_sipush (v := 998) F (dAt dk_X6_item 158 rfl) (by decide) ?_
        refine g_invV_im F mi_X6_number (gm mw_1058 rfl) (dAt dk_X6_item 159 rfl) (rcx_of F rc_Model) [.int 2, .int 1, .int 998] rfl rfl (by decide) (Nat.le_of_ble_eq_true rfl) h (fun _ _ hf => c_X6_number hJ hf) (fun r102 t103 h => ?_)
        refine g_if_ne (tgt := 369) F (dAt dk_X6_item 160 rfl) (by decide) h (fun c104 h => ?_) (fun c104 h => ?_)
        · refine g_iload_n F (dAt dk_X6_item 163 rfl) 2 rfl ?_
          refine g_if_eq (tgt := 383) F (dAt dk_X6_item 164 rfl) (by decide) h (fun c105 h => ?_) (fun c105 h => ?_)
          · refine g_aload_n F (dAt dk_X6_item 171 rfl) 1 rfl ?_
            refine gg_Model_numbers F (gm mw_883 rfl) (dAt dk_X6_item 172 rfl) ?_
            refine g_iconst (v := 2) F (dAt dk_X6_item 173 rfl) (by decide) ?_
            refine g_ck h (fun hi106 h => ?_)
            refine g_ialoadm F am_numbers (dAt dk_X6_item 174 rfl) hi106 ?_
            refine g_sub (lv' := [(0, .ref (ad 39)), (2, .int ((t100.1 39 18) + 1))]) [1, 0] rfl ?_
            exact J389  ((t100.1 39 18) + 1) (t103.1 50 (2 : Int32).toNatClampNeg) t103 h
          · refine g_aload_n F (dAt dk_X6_item 165 rfl) 1 rfl ?_
            refine gg_Model_numbers F (gm mw_883 rfl) (dAt dk_X6_item 166 rfl) ?_
            refine g_iconst (v := 2) F (dAt dk_X6_item 167 rfl) (by decide) ?_
            refine g_ck h (fun hi107 h => ?_)
            refine g_ialoadm F am_numbers (dAt dk_X6_item 168 rfl) hi107 ?_
            refine g_ineg F (dAt dk_X6_item 169 rfl) ?_
            refine g_goto (tgt := 389) F (dAt dk_X6_item 170 rfl) (by decide) ?_
            refine g_sub (lv' := [(0, .ref (ad 39)), (2, .int ((t100.1 39 18) + 1))]) [1, 0] rfl ?_
            exact J389  ((t100.1 39 18) + 1) (-(t103.1 50 (2 : Int32).toNatClampNeg)) t103 h
        · refine g_iconst (v := 0) F (dAt dk_X6_item 161 rfl) (by decide) ?_
          cases h
          exact E (dAt dk_X6_item 162 rfl) rfl
      · refine g_iconst (v := 0) F (dAt dk_X6_item 148 rfl) (by decide) ?_
        cases h
        exact E (dAt dk_X6_item 149 rfl) rfl
  have J320 : ∀ (v1 : Int32) (u0 : Mem), jn_X6_item_320 n v1 u0 = some (r, u') → G X D ad g t u0 [(0, .ref (ad 39)), (1, .int v1)] 320 [] := by
    intro v1 u0 h
    unfold jn_X6_item_320 at h
    refine g_aload_n F (dAt dk_X6_item 136 rfl) 0 rfl ?_
    refine g_iload_n F (dAt dk_X6_item 137 rfl) 1 rfl ?_
    refine g_if_eq (tgt := 330) F (dAt dk_X6_item 138 rfl) (by decide) h (fun c82 h => ?_) (fun c82 h => ?_)
    · refine g_ldcT12 F (dAt dk_X6_item 141 rfl) ?_
      refine g_sub (lv' := [(0, .ref (ad 39)), (1, .int v1)]) [0, 1] rfl ?_
      exact J332  v1 (8 : Fin 9) u0 h
    · refine g_ldcT11 F (dAt dk_X6_item 139 rfl) ?_
      refine g_goto (tgt := 332) F (dAt dk_X6_item 140 rfl) (by decide) ?_
      refine g_sub (lv' := [(0, .ref (ad 39)), (1, .int v1)]) [0, 1] rfl ?_
      exact J332  v1 (5 : Fin 9) u0 h
  have J14 : ∀ (w0 : Int32) (u0 : Mem), jn_X6_item_14 n w0 u0 = some (r, u') → G X D ad g t u0 [(0, .ref (ad 39))] 14 [.int w0] := by
    intro w0 u0 h
    unfold jn_X6_item_14 at h
    refine g_istore_n (lv' := [(1, .int w0), (0, .ref (ad 39))]) F (dAt dk_X6_item 7 rfl) (by decide) rfl ?_
    refine g_aload_n F (dAt dk_X6_item 8 rfl) 1 rfl ?_
    refine g_invV_im F mi_X6_sign (gm mw_1039 rfl) (dAt dk_X6_item 9 rfl) (rcx_of F rc_Model) [] rfl rfl (by decide) (Nat.le_of_ble_eq_true rfl) h (fun _ _ hf => c_X6_sign hJ hf) (fun r4 t5 h => ?_)
    refine g_case 102 h (fun c6 h => ?_) (fun c6 h => ?_)
    · refine g_tabIn (v := 102) (tgt := 263) (off := 244) F (dAt dk_X6_item 10 rfl) c6 (by decide) (by decide) rfl (by decide) ?_
      refine g_iload_n F (dAt dk_X6_item 104 rfl) 0 rfl ?_
      refine g_if_ne (tgt := 320) F (dAt dk_X6_item 105 rfl) (by decide) h (fun c7 h => ?_) (fun c7 h => ?_)
      · refine g_sub (lv' := [(0, .ref (ad 39)), (1, .int w0)]) [1, 0] rfl ?_
        exact J320  w0 t5 h
      · refine g_aload_n F (dAt dk_X6_item 106 rfl) 1 rfl ?_
        refine g_dup F (dAt dk_X6_item 107 rfl) rfl ?_
        refine gg_Model_at F (gm mw_882 rfl) (dAt dk_X6_item 108 rfl) ?_
        refine g_iconst (v := 1) F (dAt dk_X6_item 109 rfl) (by decide) ?_
        refine g_iadd F (dAt dk_X6_item 110 rfl) ?_
        refine gp_Model_at F (gm mw_882 rfl) (dAt dk_X6_item 111 rfl) ?_
        refine g_ltu h (fun t8 h => ?_)
        refine g_aload_n F (dAt dk_X6_item 112 rfl) 1 rfl ?_
        refine g_bipush (v := 108) F (dAt dk_X6_item 113 rfl) (by decide) ?_
        refine g_invV_im F mi_X6_is (gm mw_1054 rfl) (dAt dk_X6_item 114 rfl) (rcx_of F rc_Model) [.int 108] rfl rfl (by decide) (Nat.le_of_ble_eq_true rfl) h (fun _ _ hf => c_X6_is hJ hf) (fun r9 t10 h => ?_)
        refine g_if_eq (tgt := 320) F (dAt dk_X6_item 115 rfl) (by decide) h (fun c11 h => ?_) (fun c11 h => ?_)
        · refine g_sub (lv' := [(0, .ref (ad 39)), (1, .int w0)]) [1, 0] rfl ?_
          exact J320  w0 t10 h
        · refine g_aload_n F (dAt dk_X6_item 116 rfl) 1 rfl ?_
          refine g_ldcT10 F (dAt dk_X6_item 117 rfl) ?_
          refine g_invV_im F mi_X6_word (gm mw_1048 rfl) (dAt dk_X6_item 118 rfl) (rcx_of F rc_Model) [.ref (g.2.2.1 ((7 : Fin 9)).val)] rfl rfl (by decide) (Nat.le_of_ble_eq_true rfl) h (fun _ _ hf => c_X6_word hJ hf) (fun r12 t13 h => ?_)
          refine g_if_eq (tgt := 306) F (dAt dk_X6_item 119 rfl) (by decide) h (fun c14 h => ?_) (fun c14 h => ?_)
          · refine g_iconst (v := 0) F (dAt dk_X6_item 126 rfl) (by decide) ?_
            cases h
            exact E (dAt dk_X6_item 127 rfl) rfl
          · refine g_aload_n F (dAt dk_X6_item 120 rfl) 1 rfl ?_
            refine g_iconst (v := 0) F (dAt dk_X6_item 121 rfl) (by decide) ?_
            refine g_iconst (v := 0) F (dAt dk_X6_item 122 rfl) (by decide) ?_
            refine g_ldc (v := 99999) F (dAt dk_X6_item 123 rfl) (gm mw_1026 rfl) ?_
            refine g_invV_im F mi_X6_number (gm mw_1058 rfl) (dAt dk_X6_item 124 rfl) (rcx_of F rc_Model) [.int 0, .int 0, .int 99999] rfl rfl (by decide) (Nat.le_of_ble_eq_true rfl) h (fun _ _ hf => c_X6_number hJ hf) (fun r15 t16 h => ?_)
            refine g_if_ne (tgt := 308) F (dAt dk_X6_item 125 rfl) (by decide) h (fun c17 h => ?_) (fun c17 h => ?_)
            · refine g_aload_n F (dAt dk_X6_item 128 rfl) 1 rfl ?_
              refine g_aload_n F (dAt dk_X6_item 129 rfl) 1 rfl ?_
              refine gg_Model_numbers F (gm mw_883 rfl) (dAt dk_X6_item 130 rfl) ?_
              refine g_iconst (v := 0) F (dAt dk_X6_item 131 rfl) (by decide) ?_
              refine g_ck h (fun hi18 h => ?_)
              refine g_ialoadm F am_numbers (dAt dk_X6_item 132 rfl) hi18 ?_
              refine gp_Model_flour F (gm mw_871 rfl) (dAt dk_X6_item 133 rfl) ?_
              refine g_ltu h (fun t19 h => ?_)
              refine g_iconst (v := 1) F (dAt dk_X6_item 134 rfl) (by decide) ?_
              cases h
              exact E (dAt dk_X6_item 135 rfl) rfl
            · refine g_iconst (v := 0) F (dAt dk_X6_item 126 rfl) (by decide) ?_
              cases h
              exact E (dAt dk_X6_item 127 rfl) rfl
    · refine g_case 103 h (fun c20 h => ?_) (fun c20 h => ?_)
      · refine g_tabIn (v := 103) (tgt := 470) (off := 451) F (dAt dk_X6_item 10 rfl) c20 (by decide) (by decide) rfl (by decide) ?_
        refine g_iconst (v := 0) F (dAt dk_X6_item 226 rfl) (by decide) ?_
        cases h
        exact E (dAt dk_X6_item 227 rfl) rfl
      · refine g_case 104 h (fun c21 h => ?_) (fun c21 h => ?_)
        · refine g_tabIn (v := 104) (tgt := 470) (off := 451) F (dAt dk_X6_item 10 rfl) c21 (by decide) (by decide) rfl (by decide) ?_
          refine g_iconst (v := 0) F (dAt dk_X6_item 226 rfl) (by decide) ?_
          cases h
          exact E (dAt dk_X6_item 227 rfl) rfl
        · refine g_case 105 h (fun c22 h => ?_) (fun c22 h => ?_)
          · refine g_tabIn (v := 105) (tgt := 470) (off := 451) F (dAt dk_X6_item 10 rfl) c22 (by decide) (by decide) rfl (by decide) ?_
            refine g_iconst (v := 0) F (dAt dk_X6_item 226 rfl) (by decide) ?_
            cases h
            exact E (dAt dk_X6_item 227 rfl) rfl
          · refine g_case 106 h (fun c23 h => ?_) (fun c23 h => ?_)
            · refine g_tabIn (v := 106) (tgt := 470) (off := 451) F (dAt dk_X6_item 10 rfl) c23 (by decide) (by decide) rfl (by decide) ?_
              refine g_iconst (v := 0) F (dAt dk_X6_item 226 rfl) (by decide) ?_
              cases h
              exact E (dAt dk_X6_item 227 rfl) rfl
            · refine g_case 107 h (fun c24 h => ?_) (fun c24 h => ?_)
              · refine g_tabIn (v := 107) (tgt := 470) (off := 451) F (dAt dk_X6_item 10 rfl) c24 (by decide) (by decide) rfl (by decide) ?_
                refine g_iconst (v := 0) F (dAt dk_X6_item 226 rfl) (by decide) ?_
                cases h
                exact E (dAt dk_X6_item 227 rfl) rfl
              · refine g_case 108 h (fun c25 h => ?_) (fun c25 h => ?_)
                · refine g_tabIn (v := 108) (tgt := 470) (off := 451) F (dAt dk_X6_item 10 rfl) c25 (by decide) (by decide) rfl (by decide) ?_
                  refine g_iconst (v := 0) F (dAt dk_X6_item 226 rfl) (by decide) ?_
                  cases h
                  exact E (dAt dk_X6_item 227 rfl) rfl
                · refine g_case 109 h (fun c26 h => ?_) (fun c26 h => ?_)
                  · refine g_tabIn (v := 109) (tgt := 226) (off := 207) F (dAt dk_X6_item 10 rfl) c26 (by decide) (by decide) rfl (by decide) ?_
                    refine g_aload_n F (dAt dk_X6_item 82 rfl) 1 rfl ?_
                    refine g_ldcT9 F (dAt dk_X6_item 83 rfl) ?_
                    refine g_invV_im F mi_X6_word (gm mw_1048 rfl) (dAt dk_X6_item 84 rfl) (rcx_of F rc_Model) [.ref (g.2.2.1 ((2 : Fin 9)).val)] rfl rfl (by decide) (Nat.le_of_ble_eq_true rfl) h (fun _ _ hf => c_X6_word hJ hf) (fun r27 t28 h => ?_)
                    refine g_if_eq (tgt := 243) F (dAt dk_X6_item 85 rfl) (by decide) h (fun c29 h => ?_) (fun c29 h => ?_)
                    · refine g_iconst (v := 0) F (dAt dk_X6_item 90 rfl) (by decide) ?_
                      cases h
                      exact E (dAt dk_X6_item 91 rfl) rfl
                    · refine g_aload_n F (dAt dk_X6_item 86 rfl) 1 rfl ?_
                      refine g_iconst (v := 1) F (dAt dk_X6_item 87 rfl) (by decide) ?_
                      refine g_invV_im F mi_X6_two (gm mw_1063 rfl) (dAt dk_X6_item 88 rfl) (rcx_of F rc_Model) [.int 1] rfl rfl (by decide) (Nat.le_of_ble_eq_true rfl) h (fun _ _ hf => c_X6_two hJ hf) (fun r30 t31 h => ?_)
                      refine g_if_ne (tgt := 245) F (dAt dk_X6_item 89 rfl) (by decide) h (fun c32 h => ?_) (fun c32 h => ?_)
                      · refine g_aload_n F (dAt dk_X6_item 92 rfl) 1 rfl ?_
                        refine g_aload_n F (dAt dk_X6_item 93 rfl) 1 rfl ?_
                        refine gg_Model_numbers F (gm mw_883 rfl) (dAt dk_X6_item 94 rfl) ?_
                        refine g_iconst (v := 0) F (dAt dk_X6_item 95 rfl) (by decide) ?_
                        refine g_ck h (fun hi33 h => ?_)
                        refine g_ialoadm F am_numbers (dAt dk_X6_item 96 rfl) hi33 ?_
                        refine g_aload_n F (dAt dk_X6_item 97 rfl) 1 rfl ?_
                        refine gg_Model_numbers F (gm mw_883 rfl) (dAt dk_X6_item 98 rfl) ?_
                        refine g_iconst (v := 1) F (dAt dk_X6_item 99 rfl) (by decide) ?_
                        refine g_ck h (fun hi34 h => ?_)
                        refine g_ialoadm F am_numbers (dAt dk_X6_item 100 rfl) hi34 ?_
                        refine g_invV_vm F mi_X6_mills (gm mw_1068 rfl) (dAt dk_X6_item 101 rfl) (rcx_of F rc_Model) [.int (t31.1 50 (0 : Int32).toNatClampNeg), .int (t31.1 50 (1 : Int32).toNatClampNeg)] rfl rfl (by decide) (Nat.le_of_ble_eq_true rfl) h (fun _ _ hf => c_X6_mills hJ hf) (fun _ t35 h => ?_)
                        refine g_iconst (v := 1) F (dAt dk_X6_item 102 rfl) (by decide) ?_
                        cases h
                        exact E (dAt dk_X6_item 103 rfl) rfl
                      · refine g_iconst (v := 0) F (dAt dk_X6_item 90 rfl) (by decide) ?_
                        cases h
                        exact E (dAt dk_X6_item 91 rfl) rfl
                  · refine g_case 110 h (fun c36 h => ?_) (fun c36 h => ?_)
                    · refine g_tabIn (v := 110) (tgt := 263) (off := 244) F (dAt dk_X6_item 10 rfl) c36 (by decide) (by decide) rfl (by decide) ?_
                      refine g_iload_n F (dAt dk_X6_item 104 rfl) 0 rfl ?_
                      refine g_if_ne (tgt := 320) F (dAt dk_X6_item 105 rfl) (by decide) h (fun c37 h => ?_) (fun c37 h => ?_)
                      · refine g_sub (lv' := [(0, .ref (ad 39)), (1, .int w0)]) [1, 0] rfl ?_
                        exact J320  w0 t5 h
                      · refine g_aload_n F (dAt dk_X6_item 106 rfl) 1 rfl ?_
                        refine g_dup F (dAt dk_X6_item 107 rfl) rfl ?_
                        refine gg_Model_at F (gm mw_882 rfl) (dAt dk_X6_item 108 rfl) ?_
                        refine g_iconst (v := 1) F (dAt dk_X6_item 109 rfl) (by decide) ?_
                        refine g_iadd F (dAt dk_X6_item 110 rfl) ?_
                        refine gp_Model_at F (gm mw_882 rfl) (dAt dk_X6_item 111 rfl) ?_
                        refine g_ltu h (fun t38 h => ?_)
                        refine g_aload_n F (dAt dk_X6_item 112 rfl) 1 rfl ?_
                        refine g_bipush (v := 108) F (dAt dk_X6_item 113 rfl) (by decide) ?_
                        refine g_invV_im F mi_X6_is (gm mw_1054 rfl) (dAt dk_X6_item 114 rfl) (rcx_of F rc_Model) [.int 108] rfl rfl (by decide) (Nat.le_of_ble_eq_true rfl) h (fun _ _ hf => c_X6_is hJ hf) (fun r39 t40 h => ?_)
                        refine g_if_eq (tgt := 320) F (dAt dk_X6_item 115 rfl) (by decide) h (fun c41 h => ?_) (fun c41 h => ?_)
                        · refine g_sub (lv' := [(0, .ref (ad 39)), (1, .int w0)]) [1, 0] rfl ?_
                          exact J320  w0 t40 h
                        · refine g_aload_n F (dAt dk_X6_item 116 rfl) 1 rfl ?_
                          refine g_ldcT10 F (dAt dk_X6_item 117 rfl) ?_
                          refine g_invV_im F mi_X6_word (gm mw_1048 rfl) (dAt dk_X6_item 118 rfl) (rcx_of F rc_Model) [.ref (g.2.2.1 ((7 : Fin 9)).val)] rfl rfl (by decide) (Nat.le_of_ble_eq_true rfl) h (fun _ _ hf => c_X6_word hJ hf) (fun r42 t43 h => ?_)
                          refine g_if_eq (tgt := 306) F (dAt dk_X6_item 119 rfl) (by decide) h (fun c44 h => ?_) (fun c44 h => ?_)
                          · refine g_iconst (v := 0) F (dAt dk_X6_item 126 rfl) (by decide) ?_
                            cases h
                            exact E (dAt dk_X6_item 127 rfl) rfl
                          · refine g_aload_n F (dAt dk_X6_item 120 rfl) 1 rfl ?_
                            refine g_iconst (v := 0) F (dAt dk_X6_item 121 rfl) (by decide) ?_
                            refine g_iconst (v := 0) F (dAt dk_X6_item 122 rfl) (by decide) ?_
                            refine g_ldc (v := 99999) F (dAt dk_X6_item 123 rfl) (gm mw_1026 rfl) ?_
                            refine g_invV_im F mi_X6_number (gm mw_1058 rfl) (dAt dk_X6_item 124 rfl) (rcx_of F rc_Model) [.int 0, .int 0, .int 99999] rfl rfl (by decide) (Nat.le_of_ble_eq_true rfl) h (fun _ _ hf => c_X6_number hJ hf) (fun r45 t46 h => ?_)
                            refine g_if_ne (tgt := 308) F (dAt dk_X6_item 125 rfl) (by decide) h (fun c47 h => ?_) (fun c47 h => ?_)
                            · refine g_aload_n F (dAt dk_X6_item 128 rfl) 1 rfl ?_
                              refine g_aload_n F (dAt dk_X6_item 129 rfl) 1 rfl ?_
                              refine gg_Model_numbers F (gm mw_883 rfl) (dAt dk_X6_item 130 rfl) ?_
                              refine g_iconst (v := 0) F (dAt dk_X6_item 131 rfl) (by decide) ?_
                              refine g_ck h (fun hi48 h => ?_)
                              refine g_ialoadm F am_numbers (dAt dk_X6_item 132 rfl) hi48 ?_
                              refine gp_Model_flour F (gm mw_871 rfl) (dAt dk_X6_item 133 rfl) ?_
                              refine g_ltu h (fun t49 h => ?_)
                              refine g_iconst (v := 1) F (dAt dk_X6_item 134 rfl) (by decide) ?_
                              cases h
                              exact E (dAt dk_X6_item 135 rfl) rfl
                            · refine g_iconst (v := 0) F (dAt dk_X6_item 126 rfl) (by decide) ?_
                              cases h
                              exact E (dAt dk_X6_item 127 rfl) rfl
                    · refine g_case 111 h (fun c50 h => ?_) (fun c50 h => ?_)
                      · refine g_tabIn (v := 111) (tgt := 470) (off := 451) F (dAt dk_X6_item 10 rfl) c50 (by decide) (by decide) rfl (by decide) ?_
                        refine g_iconst (v := 0) F (dAt dk_X6_item 226 rfl) (by decide) ?_
                        cases h
                        exact E (dAt dk_X6_item 227 rfl) rfl
                      · refine g_case 112 h (fun c51 h => ?_) (fun c51 h => ?_)
                        · refine g_tabIn (v := 112) (tgt := 104) (off := 85) F (dAt dk_X6_item 10 rfl) c51 (by decide) (by decide) rfl (by decide) ?_
                          refine g_aload_n F (dAt dk_X6_item 11 rfl) 1 rfl ?_
                          refine g_ldcT7 F (dAt dk_X6_item 12 rfl) ?_
                          refine g_aload_n F (dAt dk_X6_item 13 rfl) 1 rfl ?_
                          refine gg_Model_places F (gm mw_867 rfl) (dAt dk_X6_item 14 rfl) ?_
                          refine g_bipush (v := 8) F (dAt dk_X6_item 15 rfl) (by decide) ?_
                          refine g_icmp_ge (tgt := 120) F (dAt dk_X6_item 16 rfl) (by decide) h (fun c52 h => ?_) (fun c52 h => ?_)
                          · refine g_iconst (v := 0) F (dAt dk_X6_item 19 rfl) (by decide) ?_
                            refine g_sub (lv' := [(0, .ref (ad 39))]) [1] rfl ?_
                            exact J121  0 (0 : Fin 9) t5 h
                          · refine g_iconst (v := 1) F (dAt dk_X6_item 17 rfl) (by decide) ?_
                            refine g_goto (tgt := 121) F (dAt dk_X6_item 18 rfl) (by decide) ?_
                            refine g_sub (lv' := [(0, .ref (ad 39))]) [1] rfl ?_
                            exact J121  1 (0 : Fin 9) t5 h
                        · refine g_case 113 h (fun c53 h => ?_) (fun c53 h => ?_)
                          · refine g_tabIn (v := 113) (tgt := 470) (off := 451) F (dAt dk_X6_item 10 rfl) c53 (by decide) (by decide) rfl (by decide) ?_
                            refine g_iconst (v := 0) F (dAt dk_X6_item 226 rfl) (by decide) ?_
                            cases h
                            exact E (dAt dk_X6_item 227 rfl) rfl
                          · refine g_case 114 h (fun c54 h => ?_) (fun c54 h => ?_)
                            · refine g_tabIn (v := 114) (tgt := 170) (off := 151) F (dAt dk_X6_item 10 rfl) c54 (by decide) (by decide) rfl (by decide) ?_
                              refine g_aload_n F (dAt dk_X6_item 49 rfl) 1 rfl ?_
                              refine g_ldcT8 F (dAt dk_X6_item 50 rfl) ?_
                              refine g_invV_im F mi_X6_word (gm mw_1048 rfl) (dAt dk_X6_item 51 rfl) (rcx_of F rc_Model) [.ref (g.2.2.1 ((1 : Fin 9)).val)] rfl rfl (by decide) (Nat.le_of_ble_eq_true rfl) h (fun _ _ hf => c_X6_word hJ hf) (fun r55 t56 h => ?_)
                              refine g_if_eq (tgt := 199) F (dAt dk_X6_item 52 rfl) (by decide) h (fun c57 h => ?_) (fun c57 h => ?_)
                              · refine g_iconst (v := 0) F (dAt dk_X6_item 63 rfl) (by decide) ?_
                                cases h
                                exact E (dAt dk_X6_item 64 rfl) rfl
                              · refine g_aload_n F (dAt dk_X6_item 53 rfl) 1 rfl ?_
                                refine g_iconst (v := 0) F (dAt dk_X6_item 54 rfl) (by decide) ?_
                                refine g_invV_im F mi_X6_two (gm mw_1063 rfl) (dAt dk_X6_item 55 rfl) (rcx_of F rc_Model) [.int 0] rfl rfl (by decide) (Nat.le_of_ble_eq_true rfl) h (fun _ _ hf => c_X6_two hJ hf) (fun r58 t59 h => ?_)
                                refine g_if_eq (tgt := 199) F (dAt dk_X6_item 56 rfl) (by decide) h (fun c60 h => ?_) (fun c60 h => ?_)
                                · refine g_iconst (v := 0) F (dAt dk_X6_item 63 rfl) (by decide) ?_
                                  cases h
                                  exact E (dAt dk_X6_item 64 rfl) rfl
                                · refine g_aload_n F (dAt dk_X6_item 57 rfl) 1 rfl ?_
                                  refine g_iconst (v := 2) F (dAt dk_X6_item 58 rfl) (by decide) ?_
                                  refine g_iconst (v := 1) F (dAt dk_X6_item 59 rfl) (by decide) ?_
                                  refine g_sipush (v := 999) F (dAt dk_X6_item 60 rfl) (by decide) ?_
                                  refine g_invV_im F mi_X6_number (gm mw_1058 rfl) (dAt dk_X6_item 61 rfl) (rcx_of F rc_Model) [.int 2, .int 1, .int 999] rfl rfl (by decide) (Nat.le_of_ble_eq_true rfl) h (fun _ _ hf => c_X6_number hJ hf) (fun r61 t62 h => ?_)
                                  refine g_if_ne (tgt := 201) F (dAt dk_X6_item 62 rfl) (by decide) h (fun c63 h => ?_) (fun c63 h => ?_)
                                  · refine g_aload_n F (dAt dk_X6_item 65 rfl) 1 rfl ?_
                                    refine g_aload_n F (dAt dk_X6_item 66 rfl) 1 rfl ?_
                                    refine gg_Model_numbers F (gm mw_883 rfl) (dAt dk_X6_item 67 rfl) ?_
                                    refine g_iconst (v := 0) F (dAt dk_X6_item 68 rfl) (by decide) ?_
                                    refine g_ck h (fun hi64 h => ?_)
                                    refine g_ialoadm F am_numbers (dAt dk_X6_item 69 rfl) hi64 ?_
                                    refine g_aload_n F (dAt dk_X6_item 70 rfl) 1 rfl ?_
                                    refine gg_Model_numbers F (gm mw_883 rfl) (dAt dk_X6_item 71 rfl) ?_
                                    refine g_iconst (v := 1) F (dAt dk_X6_item 72 rfl) (by decide) ?_
                                    refine g_ck h (fun hi65 h => ?_)
                                    refine g_ialoadm F am_numbers (dAt dk_X6_item 73 rfl) hi65 ?_
                                    refine g_aload_n F (dAt dk_X6_item 74 rfl) 1 rfl ?_
                                    refine gg_Model_numbers F (gm mw_883 rfl) (dAt dk_X6_item 75 rfl) ?_
                                    refine g_iconst (v := 2) F (dAt dk_X6_item 76 rfl) (by decide) ?_
                                    refine g_ck h (fun hi66 h => ?_)
                                    refine g_ialoadm F am_numbers (dAt dk_X6_item 77 rfl) hi66 ?_
                                    refine g_invV_im F mi_X6_lay (gm mw_1010 rfl) (dAt dk_X6_item 78 rfl) (rcx_of F rc_Model) [.int (t62.1 50 (0 : Int32).toNatClampNeg), .int (t62.1 50 (1 : Int32).toNatClampNeg), .int (t62.1 50 (2 : Int32).toNatClampNeg)] rfl rfl (by decide) (Nat.le_of_ble_eq_true rfl) h (fun _ _ hf => c_X6_lay hJ hf) (fun r67 t68 h => ?_)
                                    refine g_pop F (dAt dk_X6_item 79 rfl) rfl ?_
                                    refine g_iconst (v := 1) F (dAt dk_X6_item 80 rfl) (by decide) ?_
                                    cases h
                                    exact E (dAt dk_X6_item 81 rfl) rfl
                                  · refine g_iconst (v := 0) F (dAt dk_X6_item 63 rfl) (by decide) ?_
                                    cases h
                                    exact E (dAt dk_X6_item 64 rfl) rfl
                            · refine g_case 115 h (fun c69 h => ?_) (fun c69 h => ?_)
                              · refine g_tabIn (v := 115) (tgt := 470) (off := 451) F (dAt dk_X6_item 10 rfl) c69 (by decide) (by decide) rfl (by decide) ?_
                                refine g_iconst (v := 0) F (dAt dk_X6_item 226 rfl) (by decide) ?_
                                cases h
                                exact E (dAt dk_X6_item 227 rfl) rfl
                              · refine g_case 116 h (fun c70 h => ?_) (fun c70 h => ?_)
                                · refine g_tabIn (v := 116) (tgt := 470) (off := 451) F (dAt dk_X6_item 10 rfl) c70 (by decide) (by decide) rfl (by decide) ?_
                                  refine g_iconst (v := 0) F (dAt dk_X6_item 226 rfl) (by decide) ?_
                                  cases h
                                  exact E (dAt dk_X6_item 227 rfl) rfl
                                · refine g_case 117 h (fun c71 h => ?_) (fun c71 h => ?_)
                                  · refine g_tabIn (v := 117) (tgt := 470) (off := 451) F (dAt dk_X6_item 10 rfl) c71 (by decide) (by decide) rfl (by decide) ?_
                                    refine g_iconst (v := 0) F (dAt dk_X6_item 226 rfl) (by decide) ?_
                                    cases h
                                    exact E (dAt dk_X6_item 227 rfl) rfl
                                  · refine g_case 118 h (fun c72 h => ?_) (fun c72 h => ?_)
                                    · refine g_tabIn (v := 118) (tgt := 470) (off := 451) F (dAt dk_X6_item 10 rfl) c72 (by decide) (by decide) rfl (by decide) ?_
                                      refine g_iconst (v := 0) F (dAt dk_X6_item 226 rfl) (by decide) ?_
                                      cases h
                                      exact E (dAt dk_X6_item 227 rfl) rfl
                                    · refine g_case 119 h (fun c73 h => ?_) (fun c73 h => ?_)
                                      · refine g_tabIn (v := 119) (tgt := 436) (off := 417) F (dAt dk_X6_item 10 rfl) c73 (by decide) (by decide) rfl (by decide) ?_
                                        refine g_aload_n F (dAt dk_X6_item 206 rfl) 1 rfl ?_
                                        refine g_ldcT13 F (dAt dk_X6_item 207 rfl) ?_
                                        refine g_invV_im F mi_X6_word (gm mw_1048 rfl) (dAt dk_X6_item 208 rfl) (rcx_of F rc_Model) [.ref (g.2.2.1 ((4 : Fin 9)).val)] rfl rfl (by decide) (Nat.le_of_ble_eq_true rfl) h (fun _ _ hf => c_X6_word hJ hf) (fun r74 t75 h => ?_)
                                        refine g_if_eq (tgt := 456) F (dAt dk_X6_item 209 rfl) (by decide) h (fun c76 h => ?_) (fun c76 h => ?_)
                                        · refine g_iconst (v := 0) F (dAt dk_X6_item 216 rfl) (by decide) ?_
                                          cases h
                                          exact E (dAt dk_X6_item 217 rfl) rfl
                                        · refine g_aload_n F (dAt dk_X6_item 210 rfl) 1 rfl ?_
                                          refine g_iconst (v := 0) F (dAt dk_X6_item 211 rfl) (by decide) ?_
                                          refine g_iconst (v := 0) F (dAt dk_X6_item 212 rfl) (by decide) ?_
                                          refine g_bipush (v := 9) F (dAt dk_X6_item 213 rfl) (by decide) ?_
                                          refine g_invV_im F mi_X6_number (gm mw_1058 rfl) (dAt dk_X6_item 214 rfl) (rcx_of F rc_Model) [.int 0, .int 0, .int 9] rfl rfl (by decide) (Nat.le_of_ble_eq_true rfl) h (fun _ _ hf => c_X6_number hJ hf) (fun r77 t78 h => ?_)
                                          refine g_if_ne (tgt := 458) F (dAt dk_X6_item 215 rfl) (by decide) h (fun c79 h => ?_) (fun c79 h => ?_)
                                          · refine g_aload_n F (dAt dk_X6_item 218 rfl) 1 rfl ?_
                                            refine g_aload_n F (dAt dk_X6_item 219 rfl) 1 rfl ?_
                                            refine gg_Model_numbers F (gm mw_883 rfl) (dAt dk_X6_item 220 rfl) ?_
                                            refine g_iconst (v := 0) F (dAt dk_X6_item 221 rfl) (by decide) ?_
                                            refine g_ck h (fun hi80 h => ?_)
                                            refine g_ialoadm F am_numbers (dAt dk_X6_item 222 rfl) hi80 ?_
                                            refine gp_Model_wind F (gm mw_872 rfl) (dAt dk_X6_item 223 rfl) ?_
                                            refine g_ltu h (fun t81 h => ?_)
                                            refine g_iconst (v := 1) F (dAt dk_X6_item 224 rfl) (by decide) ?_
                                            cases h
                                            exact E (dAt dk_X6_item 225 rfl) rfl
                                          · refine g_iconst (v := 0) F (dAt dk_X6_item 216 rfl) (by decide) ?_
                                            cases h
                                            exact E (dAt dk_X6_item 217 rfl) rfl
                                      · have := lv_neT c6 (a := 102) (by decide)
                                        have := lv_neT c20 (a := 103) (by decide)
                                        have := lv_neT c21 (a := 104) (by decide)
                                        have := lv_neT c22 (a := 105) (by decide)
                                        have := lv_neT c23 (a := 106) (by decide)
                                        have := lv_neT c24 (a := 107) (by decide)
                                        have := lv_neT c25 (a := 108) (by decide)
                                        have := lv_neT c26 (a := 109) (by decide)
                                        have := lv_neT c36 (a := 110) (by decide)
                                        have := lv_neT c50 (a := 111) (by decide)
                                        have := lv_neT c51 (a := 112) (by decide)
                                        have := lv_neT c53 (a := 113) (by decide)
                                        have := lv_neT c54 (a := 114) (by decide)
                                        have := lv_neT c69 (a := 115) (by decide)
                                        have := lv_neT c70 (a := 116) (by decide)
                                        have := lv_neT c71 (a := 117) (by decide)
                                        have := lv_neT c72 (a := 118) (by decide)
                                        have := lv_neT c73 (a := 119) (by decide)
                                        refine g_tabOut (tgt := 470) F (dAt dk_X6_item 10 rfl) (by omega) (by decide) ?_
                                        refine g_iconst (v := 0) F (dAt dk_X6_item 226 rfl) (by decide) ?_
                                        cases h
                                        exact E (dAt dk_X6_item 227 rfl) rfl
  refine g_lv (lv' := [(0, .ref (ad 39))]) rfl ?_
  unfold f_X6_item at h
  refine g_aload_n F (dAt dk_X6_item 0 rfl) 0 rfl ?_
  refine g_invV_im F mi_X6_sign (gm mw_1039 rfl) (dAt dk_X6_item 1 rfl) (rcx_of F rc_Model) [] rfl rfl (by decide) (Nat.le_of_ble_eq_true rfl) h (fun _ _ hf => c_X6_sign hJ hf) (fun r1 t2 h => ?_)
  refine g_bipush (v := 110) F (dAt dk_X6_item 2 rfl) (by decide) ?_
  refine g_icmp_ne (tgt := 13) F (dAt dk_X6_item 3 rfl) (by decide) h (fun c3 h => ?_) (fun c3 h => ?_)
  · refine g_iconst (v := 0) F (dAt dk_X6_item 6 rfl) (by decide) ?_
    refine g_sub (lv' := [(0, .ref (ad 39))]) [0] rfl ?_
    exact J14  0 t2 h
  · refine g_iconst (v := 1) F (dAt dk_X6_item 4 rfl) (by decide) ?_
    refine g_goto (tgt := 14) F (dAt dk_X6_item 5 rfl) (by decide) ?_
    refine g_sub (lv' := [(0, .ref (ad 39))]) [0] rfl ?_
    exact J14  1 t2 h
theorem mi_X6_keep : MI yX6_keep cX6_keep 3 none "MillOfDistancesModel" 1 := ⟨(gm mw_1034 rfl), (gm mw_1033 rfl), (gm mw_34 rfl), (gm mw_75 rfl), by decide +kernel, by decide⟩
theorem c_X6_keep {l : Launch} {D : va_G} {ad : Nat → Nat} {g : Gv} {t u : Mem} {n : Nat} {x1 : Fin 2} {u' : Mem} (hJ : Jad ad) (h : f_X6_keep n x1 u = some ((), u')) : ConV l yX6_keep cX6_keep 3 none 0 [.ref (ad 39), .ref (ad (oKp x1))] D ad g t u t u' := by
  refine con_v hJ (by decide) (Nat.le_of_ble_eq_true rfl) rfl (fun X F E => ?_)
  have H37 : ∀ (k : Nat) (s : Int32 × Mem), iter (bd_X6_keep_37 n x1) k s = some ((), u') → G X D ad g t s.2 [(0, .ref (ad 39)), (1, .ref (ad (oKp x1))), (2, .int s.1)] 37 [] := by
    refine iter_walk (P := fun (s : Int32 × Mem) => G X D ad g t s.2 [(0, .ref (ad 39)), (1, .ref (ad (oKp x1))), (2, .int s.1)] 37 []) (fun self37 ih37 s h => ?_)
    obtain ⟨v2, u0⟩ := s
    change G X D ad g t u0 [(0, .ref (ad 39)), (1, .ref (ad (oKp x1))), (2, .int v2)] 37 []
    unfold bd_X6_keep_37 at h; try dsimp only at h
    refine g_iload_n F (dAt dk_X6_keep 25 rfl) 2 rfl ?_
    refine g_bipush (v := 64) F (dAt dk_X6_keep 26 rfl) (by decide) ?_
    refine g_icmp_ge (tgt := 61) F (dAt dk_X6_keep 27 rfl) (by decide) h (fun c8 h => ?_) (fun c8 h => ?_)
    · refine g_aload_n F (dAt dk_X6_keep 39 rfl) 1 rfl ?_
      refine g_bipush (v := 80) F (dAt dk_X6_keep 40 rfl) (by decide) ?_
      refine g_aload_n F (dAt dk_X6_keep 41 rfl) 0 rfl ?_
      refine gg_Model_places F (gm mw_867 rfl) (dAt dk_X6_keep 42 rfl) ?_
      refine g_ck h (fun hi9 h => ?_)
      refine g_iastorem F (am_kp x1) (dAt dk_X6_keep 43 rfl) hi9 ?_
      refine g_ltu h (fun t10 h => ?_)
      refine g_aload_n F (dAt dk_X6_keep 44 rfl) 1 rfl ?_
      refine g_bipush (v := 81) F (dAt dk_X6_keep 45 rfl) (by decide) ?_
      refine g_aload_n F (dAt dk_X6_keep 46 rfl) 0 rfl ?_
      refine gg_Model_flour F (gm mw_871 rfl) (dAt dk_X6_keep 47 rfl) ?_
      refine g_ck h (fun hi11 h => ?_)
      refine g_iastorem F (am_kp x1) (dAt dk_X6_keep 48 rfl) hi11 ?_
      refine g_ltu h (fun t12 h => ?_)
      refine g_aload_n F (dAt dk_X6_keep 49 rfl) 1 rfl ?_
      refine g_bipush (v := 82) F (dAt dk_X6_keep 50 rfl) (by decide) ?_
      refine g_aload_n F (dAt dk_X6_keep 51 rfl) 0 rfl ?_
      refine gg_Model_wind F (gm mw_872 rfl) (dAt dk_X6_keep 52 rfl) ?_
      refine g_ck h (fun hi13 h => ?_)
      refine g_iastorem F (am_kp x1) (dAt dk_X6_keep 53 rfl) hi13 ?_
      refine g_ltu h (fun t14 h => ?_)
      refine g_aload_n F (dAt dk_X6_keep 54 rfl) 1 rfl ?_
      refine g_bipush (v := 83) F (dAt dk_X6_keep 55 rfl) (by decide) ?_
      refine g_aload_n F (dAt dk_X6_keep 56 rfl) 0 rfl ?_
      refine gg_Model_seed F (gm mw_873 rfl) (dAt dk_X6_keep 57 rfl) ?_
      refine g_ck h (fun hi15 h => ?_)
      refine g_iastorem F (am_kp x1) (dAt dk_X6_keep 58 rfl) hi15 ?_
      refine g_ltu h (fun t16 h => ?_)
      cases h
      exact E (dAt dk_X6_keep 59 rfl)
    · refine g_aload_n F (dAt dk_X6_keep 28 rfl) 1 rfl ?_
      refine g_bipush (v := 16) F (dAt dk_X6_keep 29 rfl) (by decide) ?_
      refine g_iload_n F (dAt dk_X6_keep 30 rfl) 2 rfl ?_
      refine g_iadd F (dAt dk_X6_keep 31 rfl) ?_
      refine g_aload_n F (dAt dk_X6_keep 32 rfl) 0 rfl ?_
      refine gg_Model_miles F (gm mw_870 rfl) (dAt dk_X6_keep 33 rfl) ?_
      refine g_iload_n F (dAt dk_X6_keep 34 rfl) 2 rfl ?_
      refine g_ck h (fun hi17 h => ?_)
      refine g_ialoadm F am_miles (dAt dk_X6_keep 35 rfl) hi17 ?_
      refine g_ck h (fun hi18 h => ?_)
      refine g_iastorem F (am_kp x1) (dAt dk_X6_keep 36 rfl) hi18 ?_
      refine g_ltu h (fun t19 h => ?_)
      refine g_iinc (lv' := [(2, .int (v2 + 1)), (0, .ref (ad 39)), (1, .ref (ad (oKp x1)))]) F (dAt dk_X6_keep 37 rfl) 2 rfl (w := 1) (by decide) (by decide) rfl ?_
      refine g_goto (tgt := 37) F (dAt dk_X6_keep 38 rfl) (by decide) ?_
      refine g_sub (lv' := [(0, .ref (ad 39)), (1, .ref (ad (oKp x1))), (2, .int (v2 + 1))]) [1, 2, 0] rfl ?_
      exact ih37 ((v2 + 1), t19) h
  have H2 : ∀ (k : Nat) (s : Int32 × Mem), iter (bd_X6_keep_2 n x1) k s = some ((), u') → G X D ad g t s.2 [(0, .ref (ad 39)), (1, .ref (ad (oKp x1))), (2, .int s.1)] 2 [] := by
    refine iter_walk (P := fun (s : Int32 × Mem) => G X D ad g t s.2 [(0, .ref (ad 39)), (1, .ref (ad (oKp x1))), (2, .int s.1)] 2 []) (fun self2 ih2 s h => ?_)
    obtain ⟨v2, u0⟩ := s
    change G X D ad g t u0 [(0, .ref (ad 39)), (1, .ref (ad (oKp x1))), (2, .int v2)] 2 []
    unfold bd_X6_keep_2 at h; try dsimp only at h
    refine g_iload_n F (dAt dk_X6_keep 2 rfl) 2 rfl ?_
    refine g_bipush (v := 8) F (dAt dk_X6_keep 3 rfl) (by decide) ?_
    refine g_icmp_ge (tgt := 35) F (dAt dk_X6_keep 4 rfl) (by decide) h (fun c1 h => ?_) (fun c1 h => ?_)
    · refine g_iconst (v := 0) F (dAt dk_X6_keep 23 rfl) (by decide) ?_
      refine g_istore_n (lv' := [(2, .int 0), (0, .ref (ad 39)), (1, .ref (ad (oKp x1)))]) F (dAt dk_X6_keep 24 rfl) (by decide) rfl ?_
      refine g_sub (lv' := [(0, .ref (ad 39)), (1, .ref (ad (oKp x1))), (2, .int 0)]) [1, 2, 0] rfl ?_
      exact H37  n (0, u0) h
    · refine g_aload_n F (dAt dk_X6_keep 5 rfl) 1 rfl ?_
      refine g_iload_n F (dAt dk_X6_keep 6 rfl) 2 rfl ?_
      refine g_aload_n F (dAt dk_X6_keep 7 rfl) 0 rfl ?_
      refine gg_Model_kind F (gm mw_868 rfl) (dAt dk_X6_keep 8 rfl) ?_
      refine g_iload_n F (dAt dk_X6_keep 9 rfl) 2 rfl ?_
      refine g_ck h (fun hi2 h => ?_)
      refine g_ialoadm F am_kind (dAt dk_X6_keep 10 rfl) hi2 ?_
      refine g_ck h (fun hi3 h => ?_)
      refine g_iastorem F (am_kp x1) (dAt dk_X6_keep 11 rfl) hi3 ?_
      refine g_ltu h (fun t4 h => ?_)
      refine g_aload_n F (dAt dk_X6_keep 12 rfl) 1 rfl ?_
      refine g_bipush (v := 8) F (dAt dk_X6_keep 13 rfl) (by decide) ?_
      refine g_iload_n F (dAt dk_X6_keep 14 rfl) 2 rfl ?_
      refine g_iadd F (dAt dk_X6_keep 15 rfl) ?_
      refine g_aload_n F (dAt dk_X6_keep 16 rfl) 0 rfl ?_
      refine gg_Model_own F (gm mw_869 rfl) (dAt dk_X6_keep 17 rfl) ?_
      refine g_iload_n F (dAt dk_X6_keep 18 rfl) 2 rfl ?_
      refine g_ck h (fun hi5 h => ?_)
      refine g_ialoadm F am_own (dAt dk_X6_keep 19 rfl) hi5 ?_
      refine g_ck h (fun hi6 h => ?_)
      refine g_iastorem F (am_kp x1) (dAt dk_X6_keep 20 rfl) hi6 ?_
      refine g_ltu h (fun t7 h => ?_)
      refine g_iinc (lv' := [(2, .int (v2 + 1)), (0, .ref (ad 39)), (1, .ref (ad (oKp x1)))]) F (dAt dk_X6_keep 21 rfl) 2 rfl (w := 1) (by decide) (by decide) rfl ?_
      refine g_goto (tgt := 2) F (dAt dk_X6_keep 22 rfl) (by decide) ?_
      refine g_sub (lv' := [(0, .ref (ad 39)), (1, .ref (ad (oKp x1))), (2, .int (v2 + 1))]) [1, 2, 0] rfl ?_
      exact ih2 ((v2 + 1), t7) h
  refine g_lv (lv' := [(0, .ref (ad 39)), (1, .ref (ad (oKp x1)))]) rfl ?_
  unfold f_X6_keep at h
  refine g_iconst (v := 0) F (dAt dk_X6_keep 0 rfl) (by decide) ?_
  refine g_istore_n (lv' := [(2, .int 0), (0, .ref (ad 39)), (1, .ref (ad (oKp x1)))]) F (dAt dk_X6_keep 1 rfl) (by decide) rfl ?_
  refine g_sub (lv' := [(0, .ref (ad 39)), (1, .ref (ad (oKp x1))), (2, .int 0)]) [1, 2, 0] rfl ?_
  exact H2  n (0, u) h
theorem mi_X6_again : MI yX6_again cX6_again 3 none "MillOfDistancesModel" 1 := ⟨(gm mw_1101 rfl), (gm mw_1100 rfl), (gm mw_48 rfl), (gm mw_75 rfl), by decide +kernel, by decide⟩
theorem c_X6_again {l : Launch} {D : va_G} {ad : Nat → Nat} {g : Gv} {t u : Mem} {n : Nat} {x1 : Fin 2} {u' : Mem} (hJ : Jad ad) (h : f_X6_again n x1 u = some ((), u')) : ConV l yX6_again cX6_again 3 none 0 [.ref (ad 39), .ref (ad (oKp x1))] D ad g t u t u' := by
  refine con_v hJ (by decide) (Nat.le_of_ble_eq_true rfl) rfl (fun X F E => ?_)
  have H37 : ∀ (k : Nat) (s : Int32 × Mem), iter (bd_X6_again_37 n x1) k s = some ((), u') → G X D ad g t s.2 [(0, .ref (ad 39)), (1, .ref (ad (oKp x1))), (2, .int s.1)] 37 [] := by
    refine iter_walk (P := fun (s : Int32 × Mem) => G X D ad g t s.2 [(0, .ref (ad 39)), (1, .ref (ad (oKp x1))), (2, .int s.1)] 37 []) (fun self37 ih37 s h => ?_)
    obtain ⟨v2, u0⟩ := s
    change G X D ad g t u0 [(0, .ref (ad 39)), (1, .ref (ad (oKp x1))), (2, .int v2)] 37 []
    unfold bd_X6_again_37 at h; try dsimp only at h
    refine g_iload_n F (dAt dk_X6_again 25 rfl) 2 rfl ?_
    refine g_bipush (v := 64) F (dAt dk_X6_again 26 rfl) (by decide) ?_
    refine g_icmp_ge (tgt := 61) F (dAt dk_X6_again 27 rfl) (by decide) h (fun c8 h => ?_) (fun c8 h => ?_)
    · refine g_aload_n F (dAt dk_X6_again 39 rfl) 0 rfl ?_
      refine g_aload_n F (dAt dk_X6_again 40 rfl) 1 rfl ?_
      refine g_bipush (v := 80) F (dAt dk_X6_again 41 rfl) (by decide) ?_
      refine g_ck h (fun hi9 h => ?_)
      refine g_ialoadm F (am_kp x1) (dAt dk_X6_again 42 rfl) hi9 ?_
      refine gp_Model_places F (gm mw_867 rfl) (dAt dk_X6_again 43 rfl) ?_
      refine g_ltu h (fun t10 h => ?_)
      refine g_aload_n F (dAt dk_X6_again 44 rfl) 0 rfl ?_
      refine g_aload_n F (dAt dk_X6_again 45 rfl) 1 rfl ?_
      refine g_bipush (v := 81) F (dAt dk_X6_again 46 rfl) (by decide) ?_
      refine g_ck h (fun hi11 h => ?_)
      refine g_ialoadm F (am_kp x1) (dAt dk_X6_again 47 rfl) hi11 ?_
      refine gp_Model_flour F (gm mw_871 rfl) (dAt dk_X6_again 48 rfl) ?_
      refine g_ltu h (fun t12 h => ?_)
      refine g_aload_n F (dAt dk_X6_again 49 rfl) 0 rfl ?_
      refine g_aload_n F (dAt dk_X6_again 50 rfl) 1 rfl ?_
      refine g_bipush (v := 82) F (dAt dk_X6_again 51 rfl) (by decide) ?_
      refine g_ck h (fun hi13 h => ?_)
      refine g_ialoadm F (am_kp x1) (dAt dk_X6_again 52 rfl) hi13 ?_
      refine gp_Model_wind F (gm mw_872 rfl) (dAt dk_X6_again 53 rfl) ?_
      refine g_ltu h (fun t14 h => ?_)
      refine g_aload_n F (dAt dk_X6_again 54 rfl) 0 rfl ?_
      refine g_aload_n F (dAt dk_X6_again 55 rfl) 1 rfl ?_
      refine g_bipush (v := 83) F (dAt dk_X6_again 56 rfl) (by decide) ?_
      refine g_ck h (fun hi15 h => ?_)
      refine g_ialoadm F (am_kp x1) (dAt dk_X6_again 57 rfl) hi15 ?_
      refine gp_Model_seed F (gm mw_873 rfl) (dAt dk_X6_again 58 rfl) ?_
      refine g_ltu h (fun t16 h => ?_)
      cases h
      exact E (dAt dk_X6_again 59 rfl)
    · refine g_aload_n F (dAt dk_X6_again 28 rfl) 0 rfl ?_
      refine gg_Model_miles F (gm mw_870 rfl) (dAt dk_X6_again 29 rfl) ?_
      refine g_iload_n F (dAt dk_X6_again 30 rfl) 2 rfl ?_
      refine g_aload_n F (dAt dk_X6_again 31 rfl) 1 rfl ?_
      refine g_bipush (v := 16) F (dAt dk_X6_again 32 rfl) (by decide) ?_
      refine g_iload_n F (dAt dk_X6_again 33 rfl) 2 rfl ?_
      refine g_iadd F (dAt dk_X6_again 34 rfl) ?_
      refine g_ck h (fun hi17 h => ?_)
      refine g_ialoadm F (am_kp x1) (dAt dk_X6_again 35 rfl) hi17 ?_
      refine g_ck h (fun hi18 h => ?_)
      refine g_iastorem F am_miles (dAt dk_X6_again 36 rfl) hi18 ?_
      refine g_ltu h (fun t19 h => ?_)
      refine g_iinc (lv' := [(2, .int (v2 + 1)), (0, .ref (ad 39)), (1, .ref (ad (oKp x1)))]) F (dAt dk_X6_again 37 rfl) 2 rfl (w := 1) (by decide) (by decide) rfl ?_
      refine g_goto (tgt := 37) F (dAt dk_X6_again 38 rfl) (by decide) ?_
      refine g_sub (lv' := [(0, .ref (ad 39)), (1, .ref (ad (oKp x1))), (2, .int (v2 + 1))]) [1, 2, 0] rfl ?_
      exact ih37 ((v2 + 1), t19) h
  have H2 : ∀ (k : Nat) (s : Int32 × Mem), iter (bd_X6_again_2 n x1) k s = some ((), u') → G X D ad g t s.2 [(0, .ref (ad 39)), (1, .ref (ad (oKp x1))), (2, .int s.1)] 2 [] := by
    refine iter_walk (P := fun (s : Int32 × Mem) => G X D ad g t s.2 [(0, .ref (ad 39)), (1, .ref (ad (oKp x1))), (2, .int s.1)] 2 []) (fun self2 ih2 s h => ?_)
    obtain ⟨v2, u0⟩ := s
    change G X D ad g t u0 [(0, .ref (ad 39)), (1, .ref (ad (oKp x1))), (2, .int v2)] 2 []
    unfold bd_X6_again_2 at h; try dsimp only at h
    refine g_iload_n F (dAt dk_X6_again 2 rfl) 2 rfl ?_
    refine g_bipush (v := 8) F (dAt dk_X6_again 3 rfl) (by decide) ?_
    refine g_icmp_ge (tgt := 35) F (dAt dk_X6_again 4 rfl) (by decide) h (fun c1 h => ?_) (fun c1 h => ?_)
    · refine g_iconst (v := 0) F (dAt dk_X6_again 23 rfl) (by decide) ?_
      refine g_istore_n (lv' := [(2, .int 0), (0, .ref (ad 39)), (1, .ref (ad (oKp x1)))]) F (dAt dk_X6_again 24 rfl) (by decide) rfl ?_
      refine g_sub (lv' := [(0, .ref (ad 39)), (1, .ref (ad (oKp x1))), (2, .int 0)]) [1, 2, 0] rfl ?_
      exact H37  n (0, u0) h
    · refine g_aload_n F (dAt dk_X6_again 5 rfl) 0 rfl ?_
      refine gg_Model_kind F (gm mw_868 rfl) (dAt dk_X6_again 6 rfl) ?_
      refine g_iload_n F (dAt dk_X6_again 7 rfl) 2 rfl ?_
      refine g_aload_n F (dAt dk_X6_again 8 rfl) 1 rfl ?_
      refine g_iload_n F (dAt dk_X6_again 9 rfl) 2 rfl ?_
      refine g_ck h (fun hi2 h => ?_)
      refine g_ialoadm F (am_kp x1) (dAt dk_X6_again 10 rfl) hi2 ?_
      refine g_ck h (fun hi3 h => ?_)
      refine g_iastorem F am_kind (dAt dk_X6_again 11 rfl) hi3 ?_
      refine g_ltu h (fun t4 h => ?_)
      refine g_aload_n F (dAt dk_X6_again 12 rfl) 0 rfl ?_
      refine gg_Model_own F (gm mw_869 rfl) (dAt dk_X6_again 13 rfl) ?_
      refine g_iload_n F (dAt dk_X6_again 14 rfl) 2 rfl ?_
      refine g_aload_n F (dAt dk_X6_again 15 rfl) 1 rfl ?_
      refine g_bipush (v := 8) F (dAt dk_X6_again 16 rfl) (by decide) ?_
      refine g_iload_n F (dAt dk_X6_again 17 rfl) 2 rfl ?_
      refine g_iadd F (dAt dk_X6_again 18 rfl) ?_
      refine g_ck h (fun hi5 h => ?_)
      refine g_ialoadm F (am_kp x1) (dAt dk_X6_again 19 rfl) hi5 ?_
      refine g_ck h (fun hi6 h => ?_)
      refine g_iastorem F am_own (dAt dk_X6_again 20 rfl) hi6 ?_
      refine g_ltu h (fun t7 h => ?_)
      refine g_iinc (lv' := [(2, .int (v2 + 1)), (0, .ref (ad 39)), (1, .ref (ad (oKp x1)))]) F (dAt dk_X6_again 21 rfl) 2 rfl (w := 1) (by decide) (by decide) rfl ?_
      refine g_goto (tgt := 2) F (dAt dk_X6_again 22 rfl) (by decide) ?_
      refine g_sub (lv' := [(0, .ref (ad 39)), (1, .ref (ad (oKp x1))), (2, .int (v2 + 1))]) [1, 2, 0] rfl ?_
      exact ih2 ((v2 + 1), t7) h
  refine g_lv (lv' := [(0, .ref (ad 39)), (1, .ref (ad (oKp x1)))]) rfl ?_
  unfold f_X6_again at h
  refine g_iconst (v := 0) F (dAt dk_X6_again 0 rfl) (by decide) ?_
  refine g_istore_n (lv' := [(2, .int 0), (0, .ref (ad 39)), (1, .ref (ad (oKp x1)))]) F (dAt dk_X6_again 1 rfl) (by decide) rfl ?_
  refine g_sub (lv' := [(0, .ref (ad 39)), (1, .ref (ad (oKp x1))), (2, .int 0)]) [1, 2, 0] rfl ?_
  exact H2  n (0, u) h
theorem mi_X6_map : MI yX6_map cX6_map 5 (some .int) "MillOfDistancesModel" 1 := ⟨(gm mw_1030 rfl), (gm mw_1028 rfl), (gm mw_1029 rfl), (gm mw_75 rfl), by decide +kernel, by decide⟩
theorem c_X6_map {l : Launch} {D : va_G} {ad : Nat → Nat} {g : Gv} {t u : Mem} {n : Nat} {x1 : Int32} {u' : Mem} {r : Int32} (hJ : Jad ad) (h : f_X6_map n x1 u = some (r, u')) : ConI l yX6_map cX6_map 5 (some .int) 7 [.ref (ad 39), .int x1] D ad g t u t u' r := by
  refine con_i hJ (by decide) (Nat.le_of_ble_eq_true rfl) rfl (fun X F E => ?_)
  have J83 : ∀ (self39 : Int32 × Int32 × Mem → Option (Int32 × Mem)), (∀ s, self39 s = some (r, u') → G X D ad g t s.2.2 [(0, .ref (ad 39)), (1, .int x1), (3, .int s.1), (4, .int s.2.1)] 39 []) → ∀ (v3 : Int32) (v4 : Int32) (u0 : Mem), jn_X6_map_83 n x1 self39 v3 v4 u0 = some (r, u') → G X D ad g t u0 [(0, .ref (ad 39)), (1, .int x1), (3, .int v3), (4, .int v4)] 83 [] := by
    intro self39 ih39 v3 v4 u0 h
    unfold jn_X6_map_83 at h
    refine g_iload F (dAt dk_X6_map 46 rfl) 3 rfl ?_
    refine g_if_eq (tgt := 39) F (dAt dk_X6_map 47 rfl) (by decide) h (fun c21 h => ?_) (fun c21 h => ?_)
    · refine g_sub (lv' := [(0, .ref (ad 39)), (1, .int x1), (3, .int v3), (4, .int v4)]) [0, 1, 2, 3] rfl ?_
      exact ih39 (v3, v4, u0) h
    · refine g_aload_n F (dAt dk_X6_map 48 rfl) 0 rfl ?_
      refine g_bipush (v := 59) F (dAt dk_X6_map 49 rfl) (by decide) ?_
      refine g_invV_im F mi_X6_is (gm mw_1054 rfl) (dAt dk_X6_map 50 rfl) (rcx_of F rc_Model) [.int 59] rfl rfl (by decide) (Nat.le_of_ble_eq_true rfl) h (fun _ _ hf => c_X6_is hJ hf) (fun r22 t23 h => ?_)
      refine g_istore (lv' := [(4, .int r22), (0, .ref (ad 39)), (1, .int x1), (3, .int v3)]) F (dAt dk_X6_map 51 rfl) (by decide) rfl ?_
      refine g_goto (tgt := 39) F (dAt dk_X6_map 52 rfl) (by decide) ?_
      refine g_sub (lv' := [(0, .ref (ad 39)), (1, .int x1), (3, .int v3), (4, .int r22)]) [1, 2, 3, 0] rfl ?_
      exact ih39 (v3, r22, t23) h
  have J58 : ∀ (self39 : Int32 × Int32 × Mem → Option (Int32 × Mem)), (∀ s, self39 s = some (r, u') → G X D ad g t s.2.2 [(0, .ref (ad 39)), (1, .int x1), (3, .int s.1), (4, .int s.2.1)] 39 []) → ∀ (v3 : Int32) (v4 : Int32) (u0 : Mem), jn_X6_map_58 n x1 self39 v3 v4 u0 = some (r, u') → G X D ad g t u0 [(0, .ref (ad 39)), (1, .int x1), (3, .int v3), (4, .int v4)] 58 [] := by
    intro self39 ih39 v3 v4 u0 h
    unfold jn_X6_map_58 at h
    refine g_iload F (dAt dk_X6_map 32 rfl) 3 rfl ?_
    refine g_if_eq (tgt := 83) F (dAt dk_X6_map 33 rfl) (by decide) h (fun c17 h => ?_) (fun c17 h => ?_)
    · refine g_sub (lv' := [(0, .ref (ad 39)), (1, .int x1), (3, .int v3), (4, .int v4)]) [0, 1, 2, 3] rfl ?_
      exact J83 self39 ih39 v3 v4 u0 h
    · refine g_aload_n F (dAt dk_X6_map 34 rfl) 0 rfl ?_
      refine gg_Model_at F (gm mw_882 rfl) (dAt dk_X6_map 35 rfl) ?_
      refine g_aload_n F (dAt dk_X6_map 36 rfl) 0 rfl ?_
      refine gg_Model_rowLength F (gm mw_865 rfl) (dAt dk_X6_map 37 rfl) ?_
      refine g_iload_n F (dAt dk_X6_map 38 rfl) 1 rfl ?_
      refine g_ck h (fun hi18 h => ?_)
      refine g_ialoadm F am_rowLength (dAt dk_X6_map 39 rfl) hi18 ?_
      refine g_icmp_ne (tgt := 83) F (dAt dk_X6_map 40 rfl) (by decide) h (fun c19 h => ?_) (fun c19 h => ?_)
      · refine g_sub (lv' := [(0, .ref (ad 39)), (1, .int x1), (3, .int v3), (4, .int v4)]) [0, 1, 2, 3] rfl ?_
        exact J83 self39 ih39 v3 v4 u0 h
      · refine g_aload_n F (dAt dk_X6_map 41 rfl) 0 rfl ?_
        refine g_iconst (v := (-1)) F (dAt dk_X6_map 42 rfl) (by decide) ?_
        refine gp_Model_fault F (gm mw_874 rfl) (dAt dk_X6_map 43 rfl) ?_
        refine g_ltu h (fun t20 h => ?_)
        refine g_iload_n F (dAt dk_X6_map 44 rfl) 2 rfl ?_
        cases h
        exact E (dAt dk_X6_map 45 rfl) rfl
  have H39 : ∀ (k : Nat) (s : Int32 × Int32 × Mem), iter (bd_X6_map_39 n x1) k s = some (r, u') → G X D ad g t s.2.2 [(0, .ref (ad 39)), (1, .int x1), (3, .int s.1), (4, .int s.2.1)] 39 [] := by
    refine iter_walk (P := fun (s : Int32 × Int32 × Mem) => G X D ad g t s.2.2 [(0, .ref (ad 39)), (1, .int x1), (3, .int s.1), (4, .int s.2.1)] 39 []) (fun self39 ih39 s h => ?_)
    obtain ⟨v3, v4, u0⟩ := s
    change G X D ad g t u0 [(0, .ref (ad 39)), (1, .int x1), (3, .int v3), (4, .int v4)] 39 []
    unfold bd_X6_map_39 at h; try dsimp only at h
    refine g_iload F (dAt dk_X6_map 24 rfl) 3 rfl ?_
    refine g_if_eq (tgt := 99) F (dAt dk_X6_map 25 rfl) (by decide) h (fun c9 h => ?_) (fun c9 h => ?_)
    · refine g_aload_n F (dAt dk_X6_map 53 rfl) 0 rfl ?_
      refine g_aload_n F (dAt dk_X6_map 54 rfl) 0 rfl ?_
      refine gg_Model_at F (gm mw_882 rfl) (dAt dk_X6_map 55 rfl) ?_
      refine gp_Model_fault F (gm mw_874 rfl) (dAt dk_X6_map 56 rfl) ?_
      refine g_ltu h (fun t10 h => ?_)
      refine g_aload_n F (dAt dk_X6_map 57 rfl) 0 rfl ?_
      refine g_aload_n F (dAt dk_X6_map 58 rfl) 0 rfl ?_
      refine gg_Model_ahead F (gm mw_880 rfl) (dAt dk_X6_map 59 rfl) ?_
      refine g_invV_vm F mi_X6_again (gm mw_1098 rfl) (dAt dk_X6_map 60 rfl) (rcx_of F rc_Model) [.ref (ad (oKp 1))] rfl rfl (by decide) (Nat.le_of_ble_eq_true rfl) h (fun _ _ hf => c_X6_again hJ hf) (fun _ t11 h => ?_)
      refine g_aload_n F (dAt dk_X6_map 61 rfl) 0 rfl ?_
      refine g_bipush (v := (-6)) F (dAt dk_X6_map 62 rfl) (by decide) ?_
      refine g_invV_im F mi_X6_no (gm mw_938 rfl) (dAt dk_X6_map 63 rfl) (rcx_of F rc_Model) [.int (-6)] rfl rfl (by decide) (Nat.le_of_ble_eq_true rfl) h (fun _ _ hf => c_X6_no hJ hf) (fun r12 t13 h => ?_)
      cases h
      exact E (dAt dk_X6_map 64 rfl) rfl
    · refine g_aload_n F (dAt dk_X6_map 26 rfl) 0 rfl ?_
      refine g_invV_im F mi_X6_item (gm mw_1035 rfl) (dAt dk_X6_map 27 rfl) (rcx_of F rc_Model) [] rfl rfl (by decide) (Nat.le_of_ble_eq_true rfl) h (fun _ _ hf => c_X6_item hJ hf) (fun r14 t15 h => ?_)
      refine g_istore (lv' := [(4, .int r14), (0, .ref (ad 39)), (1, .int x1), (3, .int v3)]) F (dAt dk_X6_map 28 rfl) (by decide) rfl ?_
      refine g_iload F (dAt dk_X6_map 29 rfl) 0 rfl ?_
      refine g_if_eq (tgt := 58) F (dAt dk_X6_map 30 rfl) (by decide) h (fun c16 h => ?_) (fun c16 h => ?_)
      · refine g_sub (lv' := [(0, .ref (ad 39)), (1, .int x1), (3, .int v3), (4, .int r14)]) [1, 2, 3, 0] rfl ?_
        exact J58 self39 ih39 v3 r14 t15 h
      · refine g_iinc (lv' := [(3, .int (v3 + 1)), (4, .int r14), (0, .ref (ad 39)), (1, .int x1)]) F (dAt dk_X6_map 31 rfl) 3 rfl (w := 1) (by decide) (by decide) rfl ?_
        refine g_sub (lv' := [(0, .ref (ad 39)), (1, .int x1), (3, .int (v3 + 1)), (4, .int r14)]) [2, 3, 0, 1] rfl ?_
        exact J58 self39 ih39 (v3 + 1) r14 t15 h
  refine g_lv (lv' := [(0, .ref (ad 39)), (1, .int x1)]) rfl ?_
  unfold f_X6_map at h
  refine g_aload_n F (dAt dk_X6_map 0 rfl) 0 rfl ?_
  refine g_iload_n F (dAt dk_X6_map 1 rfl) 1 rfl ?_
  refine g_invV_im F mi_X6_noRow (gm mw_946 rfl) (dAt dk_X6_map 2 rfl) (rcx_of F rc_Model) [.int x1] rfl rfl (by decide) (Nat.le_of_ble_eq_true rfl) h (fun _ _ hf => c_X6_noRow hJ hf) (fun r1 t2 h => ?_)
  refine g_istore_n (lv' := [(2, .int r1), (0, .ref (ad 39)), (1, .int x1)]) F (dAt dk_X6_map 3 rfl) (by decide) rfl ?_
  refine g_iload_n F (dAt dk_X6_map 4 rfl) 0 rfl ?_
  refine g_if_ge (tgt := 16) F (dAt dk_X6_map 5 rfl) (by decide) h (fun c3 h => ?_) (fun c3 h => ?_)
  · refine g_aload_n F (dAt dk_X6_map 10 rfl) 1 rfl ?_
    refine g_aload_n F (dAt dk_X6_map 11 rfl) 1 rfl ?_
    refine gg_Model_ahead F (gm mw_880 rfl) (dAt dk_X6_map 12 rfl) ?_
    refine g_invV_vm F mi_X6_keep (gm mw_1031 rfl) (dAt dk_X6_map 13 rfl) (rcx_of F rc_Model) [.ref (ad (oKp 1))] rfl rfl (by decide) (Nat.le_of_ble_eq_true rfl) h (fun _ _ hf => c_X6_keep hJ hf) (fun _ t4 h => ?_)
    refine g_aload_n F (dAt dk_X6_map 14 rfl) 1 rfl ?_
    refine g_iload_n F (dAt dk_X6_map 15 rfl) 2 rfl ?_
    refine gp_Model_reading F (gm mw_881 rfl) (dAt dk_X6_map 16 rfl) ?_
    refine g_ltu h (fun t5 h => ?_)
    refine g_aload_n F (dAt dk_X6_map 17 rfl) 1 rfl ?_
    refine g_iconst (v := 0) F (dAt dk_X6_map 18 rfl) (by decide) ?_
    refine gp_Model_at F (gm mw_882 rfl) (dAt dk_X6_map 19 rfl) ?_
    refine g_ltu h (fun t6 h => ?_)
    refine g_iconst (v := 0) F (dAt dk_X6_map 20 rfl) (by decide) ?_
    refine g_istore_n (lv' := [(3, .int 0), (2, .int r1), (0, .ref (ad 39)), (1, .int x1)]) F (dAt dk_X6_map 21 rfl) (by decide) rfl ?_
    refine g_iconst (v := 1) F (dAt dk_X6_map 22 rfl) (by decide) ?_
    refine g_istore (lv' := [(4, .int 1), (3, .int 0), (2, .int r1), (0, .ref (ad 39)), (1, .int x1)]) F (dAt dk_X6_map 23 rfl) (by decide) rfl ?_
    refine g_sub (lv' := [(0, .ref (ad 39)), (1, .int x1), (3, .int 0), (4, .int 1)]) [3, 4, 1, 0] rfl ?_
    exact H39  n (0, 1, t6) h
  · refine g_aload_n F (dAt dk_X6_map 6 rfl) 1 rfl ?_
    refine g_iload_n F (dAt dk_X6_map 7 rfl) 0 rfl ?_
    refine g_invV_im F mi_X6_no (gm mw_938 rfl) (dAt dk_X6_map 8 rfl) (rcx_of F rc_Model) [.int r1] rfl rfl (by decide) (Nat.le_of_ble_eq_true rfl) h (fun _ _ hf => c_X6_no hJ hf) (fun r7 t8 h => ?_)
    cases h
    exact E (dAt dk_X6_map 9 rfl) rfl
theorem mi_X6_fault : MI yX6_fault cX6_fault 1 (some .int) "MillOfDistancesModel" 0 := ⟨(gm mw_1105 rfl), (gm mw_1103 rfl), (gm mw_1104 rfl), (gm mw_75 rfl), by decide +kernel, by decide⟩
theorem c_X6_fault {l : Launch} {D : va_G} {ad : Nat → Nat} {g : Gv} {t u : Mem}  {u' : Mem} {r : Int32} (hJ : Jad ad) (h : f_X6_fault u = some (r, u')) : ConI l yX6_fault cX6_fault 1 (some .int) 0 [.ref (ad 39)] D ad g t u t u' r := by
  refine con_i hJ (by decide) (Nat.le_of_ble_eq_true rfl) rfl (fun X F E => ?_)
  refine g_lv (lv' := [(0, .ref (ad 39))]) rfl ?_
  unfold f_X6_fault at h
  refine g_aload_n F (dAt dk_X6_fault 0 rfl) 0 rfl ?_
  refine gg_Model_fault F (gm mw_874 rfl) (dAt dk_X6_fault 1 rfl) ?_
  cases h
  exact E (dAt dk_X6_fault 2 rfl) rfl
theorem mi_X6_cost : MI yX6_cost cX6_cost 4 (some .int) "MillOfDistancesModel" 3 := ⟨(gm mw_1109 rfl), (gm mw_1107 rfl), (gm mw_1108 rfl), (gm mw_75 rfl), by decide +kernel, by decide⟩
theorem c_X6_cost {l : Launch} {D : va_G} {ad : Nat → Nat} {g : Gv} {t u : Mem} {x1 : Int32} {x2 : Int32} {x3 : Int32} {u' : Mem} {r : Int32} (hJ : Jad ad) (h : f_X6_cost x1 x2 x3 u = some (r, u')) : ConI l yX6_cost cX6_cost 4 (some .int) 3 [.ref (ad 39), .int x1, .int x2, .int x3] D ad g t u t u' r := by
  refine con_i hJ (by decide) (Nat.le_of_ble_eq_true rfl) rfl (fun X F E => ?_)
  have J16 : ∀ (u0 : Mem), jn_X6_cost_16 x1 x2 x3 u0 = some (r, u') → G X D ad g t u0 [(0, .ref (ad 39))] 16 [] := by
    intro u0 h
    unfold jn_X6_cost_16 at h
    refine g_aload_n F (dAt dk_X6_cost 8 rfl) 0 rfl ?_
    refine g_iconst (v := (-1)) F (dAt dk_X6_cost 9 rfl) (by decide) ?_
    refine g_invV_im F mi_X6_no (gm mw_938 rfl) (dAt dk_X6_cost 10 rfl) (rcx_of F rc_Model) [.int (-1)] rfl rfl (by decide) (Nat.le_of_ble_eq_true rfl) h (fun _ _ hf => c_X6_no hJ hf) (fun r12 t13 h => ?_)
    cases h
    exact E (dAt dk_X6_cost 11 rfl) rfl
  have J38 : ∀ (u0 : Mem), jn_X6_cost_38 x1 x2 x3 u0 = some (r, u') → G X D ad g t u0 [(0, .ref (ad 39))] 38 [] := by
    intro u0 h
    unfold jn_X6_cost_38 at h
    refine g_aload_n F (dAt dk_X6_cost 20 rfl) 0 rfl ?_
    refine g_bipush (v := (-6)) F (dAt dk_X6_cost 21 rfl) (by decide) ?_
    refine g_invV_im F mi_X6_no (gm mw_938 rfl) (dAt dk_X6_cost 22 rfl) (rcx_of F rc_Model) [.int (-6)] rfl rfl (by decide) (Nat.le_of_ble_eq_true rfl) h (fun _ _ hf => c_X6_no hJ hf) (fun r14 t15 h => ?_)
    refine g_goto (tgt := 54) F (dAt dk_X6_cost 23 rfl) (by decide) ?_
    cases h
    exact E (dAt dk_X6_cost 29 rfl) rfl
  refine g_lv (lv' := [(0, .ref (ad 39)), (1, .int x1), (2, .int x2), (3, .int x3)]) rfl ?_
  unfold f_X6_cost at h
  refine g_aload_n F (dAt dk_X6_cost 0 rfl) 0 rfl ?_
  refine g_iload_n F (dAt dk_X6_cost 1 rfl) 1 rfl ?_
  refine g_invV_im F mi_X6_isPlace (gm mw_966 rfl) (dAt dk_X6_cost 2 rfl) (rcx_of F rc_Model) [.int x1] rfl rfl (by decide) (Nat.le_of_ble_eq_true rfl) h (fun _ _ hf => c_X6_isPlace hJ hf) (fun r1 t2 h => ?_)
  refine g_if_eq (tgt := 16) F (dAt dk_X6_cost 3 rfl) (by decide) h (fun c3 h => ?_) (fun c3 h => ?_)
  · refine g_sub (lv' := [(0, .ref (ad 39))]) [0] rfl ?_
    exact J16  t2 h
  · refine g_aload_n F (dAt dk_X6_cost 4 rfl) 0 rfl ?_
    refine g_iload_n F (dAt dk_X6_cost 5 rfl) 2 rfl ?_
    refine g_invV_im F mi_X6_isPlace (gm mw_966 rfl) (dAt dk_X6_cost 6 rfl) (rcx_of F rc_Model) [.int x2] rfl rfl (by decide) (Nat.le_of_ble_eq_true rfl) h (fun _ _ hf => c_X6_isPlace hJ hf) (fun r4 t5 h => ?_)
    refine g_if_ne (tgt := 22) F (dAt dk_X6_cost 7 rfl) (by decide) h (fun c6 h => ?_) (fun c6 h => ?_)
    · refine g_iload_n F (dAt dk_X6_cost 12 rfl) 1 rfl ?_
      refine g_iload_n F (dAt dk_X6_cost 13 rfl) 2 rfl ?_
      refine g_icmp_eq (tgt := 38) F (dAt dk_X6_cost 14 rfl) (by decide) h (fun c7 h => ?_) (fun c7 h => ?_)
      · refine g_sub (lv' := [(0, .ref (ad 39))]) [0] rfl ?_
        exact J38  t5 h
      · refine g_iload_n F (dAt dk_X6_cost 15 rfl) 3 rfl ?_
        refine g_iconst (v := 1) F (dAt dk_X6_cost 16 rfl) (by decide) ?_
        refine g_sipush (v := 998) F (dAt dk_X6_cost 17 rfl) (by decide) ?_
        refine g_invS_ip F ms_X6_within (gm mw_935 rfl) (dAt dk_X6_cost 18 rfl) [.int x3, .int 1, .int 998] rfl rfl (by decide) (Nat.le_of_ble_eq_true rfl) h (fun _ hf => c_X6_within hJ hf) (fun r8 h => ?_)
        refine g_if_ne (tgt := 47) F (dAt dk_X6_cost 19 rfl) (by decide) h (fun c9 h => ?_) (fun c9 h => ?_)
        · refine g_aload_n F (dAt dk_X6_cost 24 rfl) 0 rfl ?_
          refine g_iload_n F (dAt dk_X6_cost 25 rfl) 1 rfl ?_
          refine g_iload_n F (dAt dk_X6_cost 26 rfl) 2 rfl ?_
          refine g_iload_n F (dAt dk_X6_cost 27 rfl) 3 rfl ?_
          refine g_invV_im F mi_X6_costs (gm mw_1089 rfl) (dAt dk_X6_cost 28 rfl) (rcx_of F rc_Model) [.int x1, .int x2, .int x3] rfl rfl (by decide) (Nat.le_of_ble_eq_true rfl) h (fun _ _ hf => c_X6_costs hJ hf) (fun r10 t11 h => ?_)
          cases h
          exact E (dAt dk_X6_cost 29 rfl) rfl
        · refine g_sub (lv' := [(0, .ref (ad 39))]) [0] rfl ?_
          exact J38  t5 h
    · refine g_sub (lv' := [(0, .ref (ad 39))]) [0] rfl ?_
      exact J16  t5 h
theorem mi_X6_yields : MI yX6_yields cX6_yields 3 (some .int) "MillOfDistancesModel" 2 := ⟨(gm mw_1113 rfl), (gm mw_1111 rfl), (gm mw_1112 rfl), (gm mw_75 rfl), by decide +kernel, by decide⟩
theorem c_X6_yields {l : Launch} {D : va_G} {ad : Nat → Nat} {g : Gv} {t u : Mem} {n : Nat} {x1 : Int32} {x2 : Int32} {u' : Mem} {r : Int32} (hJ : Jad ad) (h : f_X6_yields n x1 x2 u = some (r, u')) : ConI l yX6_yields cX6_yields 3 (some .int) 3 [.ref (ad 39), .int x1, .int x2] D ad g t u t u' r := by
  refine con_i hJ (by decide) (Nat.le_of_ble_eq_true rfl) rfl (fun X F E => ?_)
  have J16 : ∀ (u0 : Mem), jn_X6_yields_16 n x1 x2 u0 = some (r, u') → G X D ad g t u0 [(0, .ref (ad 39))] 16 [] := by
    intro u0 h
    unfold jn_X6_yields_16 at h
    refine g_aload_n F (dAt dk_X6_yields 8 rfl) 0 rfl ?_
    refine g_iconst (v := (-1)) F (dAt dk_X6_yields 9 rfl) (by decide) ?_
    refine g_invV_im F mi_X6_no (gm mw_938 rfl) (dAt dk_X6_yields 10 rfl) (rcx_of F rc_Model) [.int (-1)] rfl rfl (by decide) (Nat.le_of_ble_eq_true rfl) h (fun _ _ hf => c_X6_no hJ hf) (fun r14 t15 h => ?_)
    cases h
    exact E (dAt dk_X6_yields 11 rfl) rfl
  refine g_lv (lv' := [(0, .ref (ad 39)), (1, .int x1), (2, .int x2)]) rfl ?_
  unfold f_X6_yields at h
  refine g_aload_n F (dAt dk_X6_yields 0 rfl) 0 rfl ?_
  refine g_iload_n F (dAt dk_X6_yields 1 rfl) 1 rfl ?_
  refine g_invV_im F mi_X6_isPlace (gm mw_966 rfl) (dAt dk_X6_yields 2 rfl) (rcx_of F rc_Model) [.int x1] rfl rfl (by decide) (Nat.le_of_ble_eq_true rfl) h (fun _ _ hf => c_X6_isPlace hJ hf) (fun r1 t2 h => ?_)
  refine g_if_eq (tgt := 16) F (dAt dk_X6_yields 3 rfl) (by decide) h (fun c3 h => ?_) (fun c3 h => ?_)
  · refine g_sub (lv' := [(0, .ref (ad 39))]) [0] rfl ?_
    exact J16  t2 h
  · refine g_aload_n F (dAt dk_X6_yields 4 rfl) 0 rfl ?_
    refine g_iload_n F (dAt dk_X6_yields 5 rfl) 2 rfl ?_
    refine g_invV_im F mi_X6_isPlace (gm mw_966 rfl) (dAt dk_X6_yields 6 rfl) (rcx_of F rc_Model) [.int x2] rfl rfl (by decide) (Nat.le_of_ble_eq_true rfl) h (fun _ _ hf => c_X6_isPlace hJ hf) (fun r4 t5 h => ?_)
    refine g_if_ne (tgt := 22) F (dAt dk_X6_yields 7 rfl) (by decide) h (fun c6 h => ?_) (fun c6 h => ?_)
    · refine g_aload_n F (dAt dk_X6_yields 12 rfl) 0 rfl ?_
      refine g_iload_n F (dAt dk_X6_yields 13 rfl) 1 rfl ?_
      refine g_iload_n F (dAt dk_X6_yields 14 rfl) 2 rfl ?_
      refine g_invV_im F mi_X6_noRoad (gm mw_1084 rfl) (dAt dk_X6_yields 15 rfl) (rcx_of F rc_Model) [.int x1, .int x2] rfl rfl (by decide) (Nat.le_of_ble_eq_true rfl) h (fun _ _ hf => c_X6_noRoad hJ hf) (fun r7 t8 h => ?_)
      refine g_if_eq (tgt := 40) F (dAt dk_X6_yields 16 rfl) (by decide) h (fun c9 h => ?_) (fun c9 h => ?_)
      · refine g_aload_n F (dAt dk_X6_yields 21 rfl) 0 rfl ?_
        refine g_iload_n F (dAt dk_X6_yields 22 rfl) 1 rfl ?_
        refine g_iload_n F (dAt dk_X6_yields 23 rfl) 2 rfl ?_
        refine g_invV_im F mi_X6_yieldOf (gm mw_1072 rfl) (dAt dk_X6_yields 24 rfl) (rcx_of F rc_Model) [.int x1, .int x2] rfl rfl (by decide) (Nat.le_of_ble_eq_true rfl) h (fun _ _ hf => c_X6_yieldOf hJ hf) (fun r10 t11 h => ?_)
        cases h
        exact E (dAt dk_X6_yields 25 rfl) rfl
      · refine g_aload_n F (dAt dk_X6_yields 17 rfl) 0 rfl ?_
        refine g_bipush (v := (-6)) F (dAt dk_X6_yields 18 rfl) (by decide) ?_
        refine g_invV_im F mi_X6_no (gm mw_938 rfl) (dAt dk_X6_yields 19 rfl) (rcx_of F rc_Model) [.int (-6)] rfl rfl (by decide) (Nat.le_of_ble_eq_true rfl) h (fun _ _ hf => c_X6_no hJ hf) (fun r12 t13 h => ?_)
        refine g_goto (tgt := 46) F (dAt dk_X6_yields 20 rfl) (by decide) ?_
        cases h
        exact E (dAt dk_X6_yields 25 rfl) rfl
    · refine g_sub (lv' := [(0, .ref (ad 39))]) [0] rfl ?_
      exact J16  t5 h
theorem mi_X6_walk : MI yX6_walk cX6_walk 4 none "MillOfDistancesModel" 0 := ⟨(gm mw_1121 rfl), (gm mw_1120 rfl), (gm mw_49 rfl), (gm mw_75 rfl), by decide +kernel, by decide⟩
theorem c_X6_walk {l : Launch} {D : va_G} {ad : Nat → Nat} {g : Gv} {t u : Mem} {n : Nat}  {u' : Mem} (hJ : Jad ad) (h : f_X6_walk n u = some ((), u')) : ConV l yX6_walk cX6_walk 4 none 1 [.ref (ad 39)] D ad g t u t u' := by
  refine con_v hJ (by decide) (Nat.le_of_ble_eq_true rfl) rfl (fun X F E => ?_)
  have H105 : ∀ (self85 : Int32 × Mem → Option (Unit × Mem)), (∀ s, self85 s = some ((), u') → G X D ad g t s.2 [(0, .ref (ad 39)), (1, .int s.1)] 85 []) → ∀ (self95 : Int32 × Int32 × Mem → Option (Unit × Mem)), (∀ s, self95 s = some ((), u') → G X D ad g t s.2.2 [(0, .ref (ad 39)), (1, .int s.1), (2, .int s.2.1)] 95 []) → ∀ (k : Nat) (s : Int32 × Int32 × Int32 × Mem), iter (bd_X6_walk_105 n self85 self95) k s = some ((), u') → G X D ad g t s.2.2.2 [(0, .ref (ad 39)), (1, .int s.1), (2, .int s.2.1), (3, .int s.2.2.1)] 105 [] := by
    intro self85 ih85 self95 ih95
    refine iter_walk (P := fun (s : Int32 × Int32 × Int32 × Mem) => G X D ad g t s.2.2.2 [(0, .ref (ad 39)), (1, .int s.1), (2, .int s.2.1), (3, .int s.2.2.1)] 105 []) (fun self105 ih105 s h => ?_)
    obtain ⟨v1, v2, v3, u0⟩ := s
    change G X D ad g t u0 [(0, .ref (ad 39)), (1, .int v1), (2, .int v2), (3, .int v3)] 105 []
    unfold bd_X6_walk_105 at h; try dsimp only at h
    refine g_iload_n F (dAt dk_X6_walk 62 rfl) 3 rfl ?_
    refine g_aload_n F (dAt dk_X6_walk 63 rfl) 0 rfl ?_
    refine gg_Model_places F (gm mw_867 rfl) (dAt dk_X6_walk 64 rfl) ?_
    refine g_icmp_ge (tgt := 167) F (dAt dk_X6_walk 65 rfl) (by decide) h (fun c15 h => ?_) (fun c15 h => ?_)
    · refine g_iinc (lv' := [(2, .int (v2 + 1)), (0, .ref (ad 39)), (1, .int v1), (3, .int v3)]) F (dAt dk_X6_walk 102 rfl) 2 rfl (w := 1) (by decide) (by decide) rfl ?_
      refine g_goto (tgt := 95) F (dAt dk_X6_walk 103 rfl) (by decide) ?_
      refine g_sub (lv' := [(0, .ref (ad 39)), (1, .int v1), (2, .int (v2 + 1))]) [1, 2, 0] rfl ?_
      exact ih95 (v1, (v2 + 1), u0) h
    · refine g_aload_n F (dAt dk_X6_walk 66 rfl) 0 rfl ?_
      refine gg_Model_far F (gm mw_884 rfl) (dAt dk_X6_walk 67 rfl) ?_
      refine g_bipush (v := 8) F (dAt dk_X6_walk 68 rfl) (by decide) ?_
      refine g_iload_n F (dAt dk_X6_walk 69 rfl) 2 rfl ?_
      refine g_imul F (dAt dk_X6_walk 70 rfl) ?_
      refine g_iload_n F (dAt dk_X6_walk 71 rfl) 3 rfl ?_
      refine g_iadd F (dAt dk_X6_walk 72 rfl) ?_
      refine g_aload_n F (dAt dk_X6_walk 73 rfl) 0 rfl ?_
      refine gg_Model_far F (gm mw_884 rfl) (dAt dk_X6_walk 74 rfl) ?_
      refine g_bipush (v := 8) F (dAt dk_X6_walk 75 rfl) (by decide) ?_
      refine g_iload_n F (dAt dk_X6_walk 76 rfl) 2 rfl ?_
      refine g_imul F (dAt dk_X6_walk 77 rfl) ?_
      refine g_iload_n F (dAt dk_X6_walk 78 rfl) 3 rfl ?_
      refine g_iadd F (dAt dk_X6_walk 79 rfl) ?_
      refine g_ck h (fun hi16 h => ?_)
      refine g_ialoadm F am_far (dAt dk_X6_walk 80 rfl) hi16 ?_
      refine g_aload_n F (dAt dk_X6_walk 81 rfl) 0 rfl ?_
      refine gg_Model_far F (gm mw_884 rfl) (dAt dk_X6_walk 82 rfl) ?_
      refine g_bipush (v := 8) F (dAt dk_X6_walk 83 rfl) (by decide) ?_
      refine g_iload_n F (dAt dk_X6_walk 84 rfl) 2 rfl ?_
      refine g_imul F (dAt dk_X6_walk 85 rfl) ?_
      refine g_iload_n F (dAt dk_X6_walk 86 rfl) 1 rfl ?_
      refine g_iadd F (dAt dk_X6_walk 87 rfl) ?_
      refine g_ck h (fun hi17 h => ?_)
      refine g_ialoadm F am_far (dAt dk_X6_walk 88 rfl) hi17 ?_
      refine g_aload_n F (dAt dk_X6_walk 89 rfl) 0 rfl ?_
      refine gg_Model_far F (gm mw_884 rfl) (dAt dk_X6_walk 90 rfl) ?_
      refine g_bipush (v := 8) F (dAt dk_X6_walk 91 rfl) (by decide) ?_
      refine g_iload_n F (dAt dk_X6_walk 92 rfl) 1 rfl ?_
      refine g_imul F (dAt dk_X6_walk 93 rfl) ?_
      refine g_iload_n F (dAt dk_X6_walk 94 rfl) 3 rfl ?_
      refine g_iadd F (dAt dk_X6_walk 95 rfl) ?_
      refine g_ck h (fun hi18 h => ?_)
      refine g_ialoadm F am_far (dAt dk_X6_walk 96 rfl) hi18 ?_
      refine g_iadd F (dAt dk_X6_walk 97 rfl) ?_
      refine g_mmin F (gm mw_1076 rfl) (dAt dk_X6_walk 98 rfl) (by decide) (Nat.le_of_ble_eq_true rfl) h (fun r19 h => ?_)
      refine g_ck h (fun hi20 h => ?_)
      refine g_iastorem F am_far (dAt dk_X6_walk 99 rfl) hi20 ?_
      refine g_ltu h (fun t21 h => ?_)
      refine g_iinc (lv' := [(3, .int (v3 + 1)), (0, .ref (ad 39)), (1, .int v1), (2, .int v2)]) F (dAt dk_X6_walk 100 rfl) 3 rfl (w := 1) (by decide) (by decide) rfl ?_
      refine g_goto (tgt := 105) F (dAt dk_X6_walk 101 rfl) (by decide) ?_
      refine g_sub (lv' := [(0, .ref (ad 39)), (1, .int v1), (2, .int v2), (3, .int (v3 + 1))]) [1, 2, 3, 0] rfl ?_
      exact ih105 (v1, v2, (v3 + 1), t21) h
  have H95 : ∀ (self85 : Int32 × Mem → Option (Unit × Mem)), (∀ s, self85 s = some ((), u') → G X D ad g t s.2 [(0, .ref (ad 39)), (1, .int s.1)] 85 []) → ∀ (k : Nat) (s : Int32 × Int32 × Mem), iter (bd_X6_walk_95 n self85) k s = some ((), u') → G X D ad g t s.2.2 [(0, .ref (ad 39)), (1, .int s.1), (2, .int s.2.1)] 95 [] := by
    intro self85 ih85
    refine iter_walk (P := fun (s : Int32 × Int32 × Mem) => G X D ad g t s.2.2 [(0, .ref (ad 39)), (1, .int s.1), (2, .int s.2.1)] 95 []) (fun self95 ih95 s h => ?_)
    obtain ⟨v1, v2, u0⟩ := s
    change G X D ad g t u0 [(0, .ref (ad 39)), (1, .int v1), (2, .int v2)] 95 []
    unfold bd_X6_walk_95 at h; try dsimp only at h
    refine g_iload_n F (dAt dk_X6_walk 56 rfl) 2 rfl ?_
    refine g_aload_n F (dAt dk_X6_walk 57 rfl) 0 rfl ?_
    refine gg_Model_places F (gm mw_867 rfl) (dAt dk_X6_walk 58 rfl) ?_
    refine g_icmp_ge (tgt := 173) F (dAt dk_X6_walk 59 rfl) (by decide) h (fun c14 h => ?_) (fun c14 h => ?_)
    · refine g_iinc (lv' := [(1, .int (v1 + 1)), (0, .ref (ad 39)), (2, .int v2)]) F (dAt dk_X6_walk 104 rfl) 1 rfl (w := 1) (by decide) (by decide) rfl ?_
      refine g_goto (tgt := 85) F (dAt dk_X6_walk 105 rfl) (by decide) ?_
      refine g_sub (lv' := [(0, .ref (ad 39)), (1, .int (v1 + 1))]) [1, 0] rfl ?_
      exact ih85 ((v1 + 1), u0) h
    · refine g_iconst (v := 0) F (dAt dk_X6_walk 60 rfl) (by decide) ?_
      refine g_istore_n (lv' := [(3, .int 0), (0, .ref (ad 39)), (1, .int v1), (2, .int v2)]) F (dAt dk_X6_walk 61 rfl) (by decide) rfl ?_
      refine g_sub (lv' := [(0, .ref (ad 39)), (1, .int v1), (2, .int v2), (3, .int 0)]) [1, 2, 3, 0] rfl ?_
      exact H105 self85 ih85 self95 ih95 n (v1, v2, 0, u0) h
  have H85 : ∀ (k : Nat) (s : Int32 × Mem), iter (bd_X6_walk_85 n) k s = some ((), u') → G X D ad g t s.2 [(0, .ref (ad 39)), (1, .int s.1)] 85 [] := by
    refine iter_walk (P := fun (s : Int32 × Mem) => G X D ad g t s.2 [(0, .ref (ad 39)), (1, .int s.1)] 85 []) (fun self85 ih85 s h => ?_)
    obtain ⟨v1, u0⟩ := s
    change G X D ad g t u0 [(0, .ref (ad 39)), (1, .int v1)] 85 []
    unfold bd_X6_walk_85 at h; try dsimp only at h
    refine g_iload_n F (dAt dk_X6_walk 50 rfl) 1 rfl ?_
    refine g_aload_n F (dAt dk_X6_walk 51 rfl) 0 rfl ?_
    refine gg_Model_places F (gm mw_867 rfl) (dAt dk_X6_walk 52 rfl) ?_
    refine g_icmp_ge (tgt := 179) F (dAt dk_X6_walk 53 rfl) (by decide) h (fun c2 h => ?_) (fun c2 h => ?_)
    · cases h
      exact E (dAt dk_X6_walk 106 rfl)
    · refine g_iconst (v := 0) F (dAt dk_X6_walk 54 rfl) (by decide) ?_
      refine g_istore_n (lv' := [(2, .int 0), (0, .ref (ad 39)), (1, .int v1)]) F (dAt dk_X6_walk 55 rfl) (by decide) rfl ?_
      refine g_sub (lv' := [(0, .ref (ad 39)), (1, .int v1), (2, .int 0)]) [1, 2, 0] rfl ?_
      exact H95 self85 ih85 n (v1, 0, u0) h
  have H12 : ∀ (self2 : Int32 × Mem → Option (Unit × Mem)), (∀ s, self2 s = some ((), u') → G X D ad g t s.2 [(0, .ref (ad 39)), (1, .int s.1)] 2 []) → ∀ (k : Nat) (s : Int32 × Int32 × Mem), iter (bd_X6_walk_12 n self2) k s = some ((), u') → G X D ad g t s.2.2 [(0, .ref (ad 39)), (1, .int s.1), (2, .int s.2.1)] 12 [] := by
    intro self2 ih2
    refine iter_walk (P := fun (s : Int32 × Int32 × Mem) => G X D ad g t s.2.2 [(0, .ref (ad 39)), (1, .int s.1), (2, .int s.2.1)] 12 []) (fun self12 ih12 s h => ?_)
    obtain ⟨v1, v2, u0⟩ := s
    change G X D ad g t u0 [(0, .ref (ad 39)), (1, .int v1), (2, .int v2)] 12 []
    unfold bd_X6_walk_12 at h; try dsimp only at h
    refine g_iload_n F (dAt dk_X6_walk 8 rfl) 2 rfl ?_
    refine g_aload_n F (dAt dk_X6_walk 9 rfl) 0 rfl ?_
    refine gg_Model_places F (gm mw_867 rfl) (dAt dk_X6_walk 10 rfl) ?_
    refine g_icmp_ge (tgt := 77) F (dAt dk_X6_walk 11 rfl) (by decide) h (fun c3 h => ?_) (fun c3 h => ?_)
    · refine g_iinc (lv' := [(1, .int (v1 + 1)), (0, .ref (ad 39)), (2, .int v2)]) F (dAt dk_X6_walk 46 rfl) 1 rfl (w := 1) (by decide) (by decide) rfl ?_
      refine g_goto (tgt := 2) F (dAt dk_X6_walk 47 rfl) (by decide) ?_
      refine g_sub (lv' := [(0, .ref (ad 39)), (1, .int (v1 + 1))]) [1, 0] rfl ?_
      exact ih2 ((v1 + 1), u0) h
    · refine g_aload_n F (dAt dk_X6_walk 12 rfl) 0 rfl ?_
      refine gg_Model_far F (gm mw_884 rfl) (dAt dk_X6_walk 13 rfl) ?_
      refine g_bipush (v := 8) F (dAt dk_X6_walk 14 rfl) (by decide) ?_
      refine g_iload_n F (dAt dk_X6_walk 15 rfl) 1 rfl ?_
      refine g_imul F (dAt dk_X6_walk 16 rfl) ?_
      refine g_iload_n F (dAt dk_X6_walk 17 rfl) 2 rfl ?_
      refine g_iadd F (dAt dk_X6_walk 18 rfl) ?_
      refine g_iload_n F (dAt dk_X6_walk 19 rfl) 1 rfl ?_
      refine g_iload_n F (dAt dk_X6_walk 20 rfl) 2 rfl ?_
      refine g_icmp_ne (tgt := 39) F (dAt dk_X6_walk 21 rfl) (by decide) h (fun c4 h => ?_) (fun c4 h => ?_)
      · refine g_aload_n F (dAt dk_X6_walk 24 rfl) 0 rfl ?_
        refine gg_Model_miles F (gm mw_870 rfl) (dAt dk_X6_walk 25 rfl) ?_
        refine g_bipush (v := 8) F (dAt dk_X6_walk 26 rfl) (by decide) ?_
        refine g_iload_n F (dAt dk_X6_walk 27 rfl) 1 rfl ?_
        refine g_imul F (dAt dk_X6_walk 28 rfl) ?_
        refine g_iload_n F (dAt dk_X6_walk 29 rfl) 2 rfl ?_
        refine g_iadd F (dAt dk_X6_walk 30 rfl) ?_
        refine g_ck h (fun hi5 h => ?_)
        refine g_ialoadm F am_miles (dAt dk_X6_walk 31 rfl) hi5 ?_
        refine g_if_le (tgt := 67) F (dAt dk_X6_walk 32 rfl) (by decide) h (fun c6 h => ?_) (fun c6 h => ?_)
        · refine g_sipush (v := 10000) F (dAt dk_X6_walk 42 rfl) (by decide) ?_
          refine g_ck h (fun hi7 h => ?_)
          refine g_iastorem F am_far (dAt dk_X6_walk 43 rfl) hi7 ?_
          refine g_ltu h (fun t8 h => ?_)
          refine g_iinc (lv' := [(2, .int (v2 + 1)), (0, .ref (ad 39)), (1, .int v1)]) F (dAt dk_X6_walk 44 rfl) 2 rfl (w := 1) (by decide) (by decide) rfl ?_
          refine g_goto (tgt := 12) F (dAt dk_X6_walk 45 rfl) (by decide) ?_
          refine g_sub (lv' := [(0, .ref (ad 39)), (1, .int v1), (2, .int (v2 + 1))]) [1, 2, 0] rfl ?_
          exact ih12 (v1, (v2 + 1), t8) h
        · refine g_aload_n F (dAt dk_X6_walk 33 rfl) 0 rfl ?_
          refine gg_Model_miles F (gm mw_870 rfl) (dAt dk_X6_walk 34 rfl) ?_
          refine g_bipush (v := 8) F (dAt dk_X6_walk 35 rfl) (by decide) ?_
          refine g_iload_n F (dAt dk_X6_walk 36 rfl) 1 rfl ?_
          refine g_imul F (dAt dk_X6_walk 37 rfl) ?_
          refine g_iload_n F (dAt dk_X6_walk 38 rfl) 2 rfl ?_
          refine g_iadd F (dAt dk_X6_walk 39 rfl) ?_
          refine g_ck h (fun hi9 h => ?_)
          refine g_ialoadm F am_miles (dAt dk_X6_walk 40 rfl) hi9 ?_
          refine g_goto (tgt := 70) F (dAt dk_X6_walk 41 rfl) (by decide) ?_
          refine g_ck h (fun hi10 h => ?_)
          refine g_iastorem F am_far (dAt dk_X6_walk 43 rfl) hi10 ?_
          refine g_ltu h (fun t11 h => ?_)
          refine g_iinc (lv' := [(2, .int (v2 + 1)), (0, .ref (ad 39)), (1, .int v1)]) F (dAt dk_X6_walk 44 rfl) 2 rfl (w := 1) (by decide) (by decide) rfl ?_
          refine g_goto (tgt := 12) F (dAt dk_X6_walk 45 rfl) (by decide) ?_
          refine g_sub (lv' := [(0, .ref (ad 39)), (1, .int v1), (2, .int (v2 + 1))]) [1, 2, 0] rfl ?_
          exact ih12 (v1, (v2 + 1), t11) h
      · refine g_iconst (v := 0) F (dAt dk_X6_walk 22 rfl) (by decide) ?_
        refine g_goto (tgt := 70) F (dAt dk_X6_walk 23 rfl) (by decide) ?_
        refine g_ck h (fun hi12 h => ?_)
        refine g_iastorem F am_far (dAt dk_X6_walk 43 rfl) hi12 ?_
        refine g_ltu h (fun t13 h => ?_)
        refine g_iinc (lv' := [(2, .int (v2 + 1)), (0, .ref (ad 39)), (1, .int v1)]) F (dAt dk_X6_walk 44 rfl) 2 rfl (w := 1) (by decide) (by decide) rfl ?_
        refine g_goto (tgt := 12) F (dAt dk_X6_walk 45 rfl) (by decide) ?_
        refine g_sub (lv' := [(0, .ref (ad 39)), (1, .int v1), (2, .int (v2 + 1))]) [1, 2, 0] rfl ?_
        exact ih12 (v1, (v2 + 1), t13) h
  have H2 : ∀ (k : Nat) (s : Int32 × Mem), iter (bd_X6_walk_2 n) k s = some ((), u') → G X D ad g t s.2 [(0, .ref (ad 39)), (1, .int s.1)] 2 [] := by
    refine iter_walk (P := fun (s : Int32 × Mem) => G X D ad g t s.2 [(0, .ref (ad 39)), (1, .int s.1)] 2 []) (fun self2 ih2 s h => ?_)
    obtain ⟨v1, u0⟩ := s
    change G X D ad g t u0 [(0, .ref (ad 39)), (1, .int v1)] 2 []
    unfold bd_X6_walk_2 at h; try dsimp only at h
    refine g_iload_n F (dAt dk_X6_walk 2 rfl) 1 rfl ?_
    refine g_aload_n F (dAt dk_X6_walk 3 rfl) 0 rfl ?_
    refine gg_Model_places F (gm mw_867 rfl) (dAt dk_X6_walk 4 rfl) ?_
    refine g_icmp_ge (tgt := 83) F (dAt dk_X6_walk 5 rfl) (by decide) h (fun c1 h => ?_) (fun c1 h => ?_)
    · refine g_iconst (v := 0) F (dAt dk_X6_walk 48 rfl) (by decide) ?_
      refine g_istore_n (lv' := [(1, .int 0), (0, .ref (ad 39))]) F (dAt dk_X6_walk 49 rfl) (by decide) rfl ?_
      refine g_sub (lv' := [(0, .ref (ad 39)), (1, .int 0)]) [1, 0] rfl ?_
      exact H85  n (0, u0) h
    · refine g_iconst (v := 0) F (dAt dk_X6_walk 6 rfl) (by decide) ?_
      refine g_istore_n (lv' := [(2, .int 0), (0, .ref (ad 39)), (1, .int v1)]) F (dAt dk_X6_walk 7 rfl) (by decide) rfl ?_
      refine g_sub (lv' := [(0, .ref (ad 39)), (1, .int v1), (2, .int 0)]) [1, 2, 0] rfl ?_
      exact H12 self2 ih2 n (v1, 0, u0) h
  refine g_lv (lv' := [(0, .ref (ad 39))]) rfl ?_
  unfold f_X6_walk at h
  refine g_iconst (v := 0) F (dAt dk_X6_walk 0 rfl) (by decide) ?_
  refine g_istore_n (lv' := [(1, .int 0), (0, .ref (ad 39))]) F (dAt dk_X6_walk 1 rfl) (by decide) rfl ?_
  refine g_sub (lv' := [(0, .ref (ad 39)), (1, .int 0)]) [1, 0] rfl ?_
  exact H2  n (0, u) h
theorem mi_X6_farTold : MI yX6_farTold cX6_farTold 3 (some .int) "MillOfDistancesModel" 2 := ⟨(gm mw_1125 rfl), (gm mw_1124 rfl), (gm mw_50 rfl), (gm mw_75 rfl), by decide +kernel, by decide⟩
theorem c_X6_farTold {l : Launch} {D : va_G} {ad : Nat → Nat} {g : Gv} {t u : Mem} {x1 : Int32} {x2 : Int32} {u' : Mem} {r : Int32} (hJ : Jad ad) (h : f_X6_farTold x1 x2 u = some (r, u')) : ConI l yX6_farTold cX6_farTold 3 (some .int) 0 [.ref (ad 39), .int x1, .int x2] D ad g t u t u' r := by
  refine con_i hJ (by decide) (Nat.le_of_ble_eq_true rfl) rfl (fun X F E => ?_)
  refine g_lv (lv' := [(0, .ref (ad 39)), (1, .int x1), (2, .int x2)]) rfl ?_
  unfold f_X6_farTold at h
  refine g_aload_n F (dAt dk_X6_farTold 0 rfl) 0 rfl ?_
  refine gg_Model_far F (gm mw_884 rfl) (dAt dk_X6_farTold 1 rfl) ?_
  refine g_bipush (v := 8) F (dAt dk_X6_farTold 2 rfl) (by decide) ?_
  refine g_iload_n F (dAt dk_X6_farTold 3 rfl) 1 rfl ?_
  refine g_imul F (dAt dk_X6_farTold 4 rfl) ?_
  refine g_iload_n F (dAt dk_X6_farTold 5 rfl) 2 rfl ?_
  refine g_iadd F (dAt dk_X6_farTold 6 rfl) ?_
  refine g_ck h (fun hi1 h => ?_)
  refine g_ialoadm F am_far (dAt dk_X6_farTold 7 rfl) hi1 ?_
  refine g_sipush (v := 10000) F (dAt dk_X6_farTold 8 rfl) (by decide) ?_
  refine g_icmp_ge (tgt := 31) F (dAt dk_X6_farTold 9 rfl) (by decide) h (fun c2 h => ?_) (fun c2 h => ?_)
  · refine g_iconst (v := (-1)) F (dAt dk_X6_farTold 19 rfl) (by decide) ?_
    cases h
    exact E (dAt dk_X6_farTold 20 rfl) rfl
  · refine g_aload_n F (dAt dk_X6_farTold 10 rfl) 0 rfl ?_
    refine gg_Model_far F (gm mw_884 rfl) (dAt dk_X6_farTold 11 rfl) ?_
    refine g_bipush (v := 8) F (dAt dk_X6_farTold 12 rfl) (by decide) ?_
    refine g_iload_n F (dAt dk_X6_farTold 13 rfl) 1 rfl ?_
    refine g_imul F (dAt dk_X6_farTold 14 rfl) ?_
    refine g_iload_n F (dAt dk_X6_farTold 15 rfl) 2 rfl ?_
    refine g_iadd F (dAt dk_X6_farTold 16 rfl) ?_
    refine g_ck h (fun hi3 h => ?_)
    refine g_ialoadm F am_far (dAt dk_X6_farTold 17 rfl) hi3 ?_
    refine g_goto (tgt := 32) F (dAt dk_X6_farTold 18 rfl) (by decide) ?_
    cases h
    exact E (dAt dk_X6_farTold 20 rfl) rfl
theorem mi_X6_away : MI yX6_away cX6_away 3 (some .int) "MillOfDistancesModel" 2 := ⟨(gm mw_1117 rfl), (gm mw_1115 rfl), (gm mw_1116 rfl), (gm mw_75 rfl), by decide +kernel, by decide⟩
theorem c_X6_away {l : Launch} {D : va_G} {ad : Nat → Nat} {g : Gv} {t u : Mem} {n : Nat} {x1 : Int32} {x2 : Int32} {u' : Mem} {r : Int32} (hJ : Jad ad) (h : f_X6_away n x1 x2 u = some (r, u')) : ConI l yX6_away cX6_away 3 (some .int) 2 [.ref (ad 39), .int x1, .int x2] D ad g t u t u' r := by
  refine con_i hJ (by decide) (Nat.le_of_ble_eq_true rfl) rfl (fun X F E => ?_)
  have J16 : ∀ (u0 : Mem), jn_X6_away_16 n x1 x2 u0 = some (r, u') → G X D ad g t u0 [(0, .ref (ad 39))] 16 [] := by
    intro u0 h
    unfold jn_X6_away_16 at h
    refine g_aload_n F (dAt dk_X6_away 8 rfl) 0 rfl ?_
    refine g_iconst (v := (-1)) F (dAt dk_X6_away 9 rfl) (by decide) ?_
    refine g_invV_im F mi_X6_no10 (gm mw_1018 rfl) (dAt dk_X6_away 10 rfl) (rcx_of F rc_Model) [.int (-1)] rfl rfl (by decide) (Nat.le_of_ble_eq_true rfl) h (fun _ _ hf => c_X6_no10 hJ hf) (fun r10 t11 h => ?_)
    cases h
    exact E (dAt dk_X6_away 11 rfl) rfl
  refine g_lv (lv' := [(0, .ref (ad 39)), (1, .int x1), (2, .int x2)]) rfl ?_
  unfold f_X6_away at h
  refine g_aload_n F (dAt dk_X6_away 0 rfl) 0 rfl ?_
  refine g_iload_n F (dAt dk_X6_away 1 rfl) 1 rfl ?_
  refine g_invV_im F mi_X6_isPlace (gm mw_966 rfl) (dAt dk_X6_away 2 rfl) (rcx_of F rc_Model) [.int x1] rfl rfl (by decide) (Nat.le_of_ble_eq_true rfl) h (fun _ _ hf => c_X6_isPlace hJ hf) (fun r1 t2 h => ?_)
  refine g_if_eq (tgt := 16) F (dAt dk_X6_away 3 rfl) (by decide) h (fun c3 h => ?_) (fun c3 h => ?_)
  · refine g_sub (lv' := [(0, .ref (ad 39))]) [0] rfl ?_
    exact J16  t2 h
  · refine g_aload_n F (dAt dk_X6_away 4 rfl) 0 rfl ?_
    refine g_iload_n F (dAt dk_X6_away 5 rfl) 2 rfl ?_
    refine g_invV_im F mi_X6_isPlace (gm mw_966 rfl) (dAt dk_X6_away 6 rfl) (rcx_of F rc_Model) [.int x2] rfl rfl (by decide) (Nat.le_of_ble_eq_true rfl) h (fun _ _ hf => c_X6_isPlace hJ hf) (fun r4 t5 h => ?_)
    refine g_if_ne (tgt := 22) F (dAt dk_X6_away 7 rfl) (by decide) h (fun c6 h => ?_) (fun c6 h => ?_)
    · refine g_aload_n F (dAt dk_X6_away 12 rfl) 0 rfl ?_
      refine g_invV_vm F mi_X6_walk (gm mw_1118 rfl) (dAt dk_X6_away 13 rfl) (rcx_of F rc_Model) [] rfl rfl (by decide) (Nat.le_of_ble_eq_true rfl) h (fun _ _ hf => c_X6_walk hJ hf) (fun _ t7 h => ?_)
      refine g_aload_n F (dAt dk_X6_away 14 rfl) 0 rfl ?_
      refine g_iload_n F (dAt dk_X6_away 15 rfl) 1 rfl ?_
      refine g_iload_n F (dAt dk_X6_away 16 rfl) 2 rfl ?_
      refine g_invV_im F mi_X6_farTold (gm mw_1122 rfl) (dAt dk_X6_away 17 rfl) (rcx_of F rc_Model) [.int x1, .int x2] rfl rfl (by decide) (Nat.le_of_ble_eq_true rfl) h (fun _ _ hf => c_X6_farTold hJ hf) (fun r8 t9 h => ?_)
      cases h
      exact E (dAt dk_X6_away 18 rfl) rfl
    · refine g_sub (lv' := [(0, .ref (ad 39))]) [0] rfl ?_
      exact J16  t5 h
theorem mi_X6_next : MI yX6_next cX6_next 4 (some .int) "MillOfDistancesModel" 2 := ⟨(gm mw_1133 rfl), (gm mw_1132 rfl), (gm mw_51 rfl), (gm mw_75 rfl), by decide +kernel, by decide⟩
theorem c_X6_next {l : Launch} {D : va_G} {ad : Nat → Nat} {g : Gv} {t u : Mem} {n : Nat} {x1 : Int32} {x2 : Int32} {u' : Mem} {r : Int32} (hJ : Jad ad) (h : f_X6_next n x1 x2 u = some (r, u')) : ConI l yX6_next cX6_next 4 (some .int) 0 [.ref (ad 39), .int x1, .int x2] D ad g t u t u' r := by
  refine con_i hJ (by decide) (Nat.le_of_ble_eq_true rfl) rfl (fun X F E => ?_)
  have H2 : ∀ (k : Nat) (s : Int32 × Mem), iter (bd_X6_next_2 n x1 x2) k s = some (r, u') → G X D ad g t s.2 [(0, .ref (ad 39)), (1, .int x1), (2, .int x2), (3, .int s.1)] 2 [] := by
    refine iter_walk (P := fun (s : Int32 × Mem) => G X D ad g t s.2 [(0, .ref (ad 39)), (1, .int x1), (2, .int x2), (3, .int s.1)] 2 []) (fun self2 ih2 s h => ?_)
    obtain ⟨v3, u0⟩ := s
    change G X D ad g t u0 [(0, .ref (ad 39)), (1, .int x1), (2, .int x2), (3, .int v3)] 2 []
    unfold bd_X6_next_2 at h; try dsimp only at h
    refine g_aload_n F (dAt dk_X6_next 2 rfl) 0 rfl ?_
    refine gg_Model_miles F (gm mw_870 rfl) (dAt dk_X6_next 3 rfl) ?_
    refine g_bipush (v := 8) F (dAt dk_X6_next 4 rfl) (by decide) ?_
    refine g_iload_n F (dAt dk_X6_next 5 rfl) 1 rfl ?_
    refine g_imul F (dAt dk_X6_next 6 rfl) ?_
    refine g_iload_n F (dAt dk_X6_next 7 rfl) 3 rfl ?_
    refine g_iadd F (dAt dk_X6_next 8 rfl) ?_
    refine g_ck h (fun hi1 h => ?_)
    refine g_ialoadm F am_miles (dAt dk_X6_next 9 rfl) hi1 ?_
    refine g_if_eq (tgt := 53) F (dAt dk_X6_next 10 rfl) (by decide) h (fun c2 h => ?_) (fun c2 h => ?_)
    · refine g_iinc (lv' := [(3, .int (v3 + 1)), (0, .ref (ad 39)), (1, .int x1), (2, .int x2)]) F (dAt dk_X6_next 37 rfl) 3 rfl (w := 1) (by decide) (by decide) rfl ?_
      refine g_goto (tgt := 2) F (dAt dk_X6_next 38 rfl) (by decide) ?_
      refine g_sub (lv' := [(0, .ref (ad 39)), (1, .int x1), (2, .int x2), (3, .int (v3 + 1))]) [1, 2, 3, 0] rfl ?_
      exact ih2 ((v3 + 1), u0) h
    · refine g_aload_n F (dAt dk_X6_next 11 rfl) 0 rfl ?_
      refine gg_Model_miles F (gm mw_870 rfl) (dAt dk_X6_next 12 rfl) ?_
      refine g_bipush (v := 8) F (dAt dk_X6_next 13 rfl) (by decide) ?_
      refine g_iload_n F (dAt dk_X6_next 14 rfl) 1 rfl ?_
      refine g_imul F (dAt dk_X6_next 15 rfl) ?_
      refine g_iload_n F (dAt dk_X6_next 16 rfl) 3 rfl ?_
      refine g_iadd F (dAt dk_X6_next 17 rfl) ?_
      refine g_ck h (fun hi3 h => ?_)
      refine g_ialoadm F am_miles (dAt dk_X6_next 18 rfl) hi3 ?_
      refine g_aload_n F (dAt dk_X6_next 19 rfl) 0 rfl ?_
      refine gg_Model_far F (gm mw_884 rfl) (dAt dk_X6_next 20 rfl) ?_
      refine g_bipush (v := 8) F (dAt dk_X6_next 21 rfl) (by decide) ?_
      refine g_iload_n F (dAt dk_X6_next 22 rfl) 3 rfl ?_
      refine g_imul F (dAt dk_X6_next 23 rfl) ?_
      refine g_iload_n F (dAt dk_X6_next 24 rfl) 2 rfl ?_
      refine g_iadd F (dAt dk_X6_next 25 rfl) ?_
      refine g_ck h (fun hi4 h => ?_)
      refine g_ialoadm F am_far (dAt dk_X6_next 26 rfl) hi4 ?_
      refine g_iadd F (dAt dk_X6_next 27 rfl) ?_
      refine g_aload_n F (dAt dk_X6_next 28 rfl) 0 rfl ?_
      refine gg_Model_far F (gm mw_884 rfl) (dAt dk_X6_next 29 rfl) ?_
      refine g_bipush (v := 8) F (dAt dk_X6_next 30 rfl) (by decide) ?_
      refine g_iload_n F (dAt dk_X6_next 31 rfl) 1 rfl ?_
      refine g_imul F (dAt dk_X6_next 32 rfl) ?_
      refine g_iload_n F (dAt dk_X6_next 33 rfl) 2 rfl ?_
      refine g_iadd F (dAt dk_X6_next 34 rfl) ?_
      refine g_ck h (fun hi5 h => ?_)
      refine g_ialoadm F am_far (dAt dk_X6_next 35 rfl) hi5 ?_
      refine g_icmp_eq (tgt := 59) F (dAt dk_X6_next 36 rfl) (by decide) h (fun c6 h => ?_) (fun c6 h => ?_)
      · refine g_iload_n F (dAt dk_X6_next 39 rfl) 3 rfl ?_
        cases h
        exact E (dAt dk_X6_next 40 rfl) rfl
      · refine g_iinc (lv' := [(3, .int (v3 + 1)), (0, .ref (ad 39)), (1, .int x1), (2, .int x2)]) F (dAt dk_X6_next 37 rfl) 3 rfl (w := 1) (by decide) (by decide) rfl ?_
        refine g_goto (tgt := 2) F (dAt dk_X6_next 38 rfl) (by decide) ?_
        refine g_sub (lv' := [(0, .ref (ad 39)), (1, .int x1), (2, .int x2), (3, .int (v3 + 1))]) [1, 2, 3, 0] rfl ?_
        exact ih2 ((v3 + 1), u0) h
  refine g_lv (lv' := [(0, .ref (ad 39)), (1, .int x1), (2, .int x2)]) rfl ?_
  unfold f_X6_next at h
  refine g_iconst (v := 0) F (dAt dk_X6_next 0 rfl) (by decide) ?_
  refine g_istore_n (lv' := [(3, .int 0), (0, .ref (ad 39)), (1, .int x1), (2, .int x2)]) F (dAt dk_X6_next 1 rfl) (by decide) rfl ?_
  refine g_sub (lv' := [(0, .ref (ad 39)), (1, .int x1), (2, .int x2), (3, .int 0)]) [1, 2, 3, 0] rfl ?_
  exact H2  n (0, u) h
theorem mi_X6_shortest : MI yX6_shortest cX6_shortest 6 (some .int) "MillOfDistancesModel" 3 := ⟨(gm mw_1129 rfl), (gm mw_1127 rfl), (gm mw_1128 rfl), (gm mw_75 rfl), by decide +kernel, by decide⟩
theorem c_X6_shortest {l : Launch} {D : va_G} {ad : Nat → Nat} {g : Gv} {t u : Mem} {n : Nat} {x1 : Int32} {x2 : Int32} {x3 : Int32} {u' : Mem} {r : Int32} (hJ : Jad ad) (h : f_X6_shortest n x1 x2 x3 u = some (r, u')) : ConI l yX6_shortest cX6_shortest 6 (some .int) 2 [.ref (ad 39), .int x1, .int x2, .int x3] D ad g t u t u' r := by
  refine con_i hJ (by decide) (Nat.le_of_ble_eq_true rfl) rfl (fun X F E => ?_)
  have J16 : ∀ (u0 : Mem), jn_X6_shortest_16 n x1 x2 x3 u0 = some (r, u') → G X D ad g t u0 [(0, .ref (ad 39))] 16 [] := by
    intro u0 h
    unfold jn_X6_shortest_16 at h
    refine g_aload_n F (dAt dk_X6_shortest 8 rfl) 0 rfl ?_
    refine g_iconst (v := (-1)) F (dAt dk_X6_shortest 9 rfl) (by decide) ?_
    refine g_invV_im F mi_X6_no (gm mw_938 rfl) (dAt dk_X6_shortest 10 rfl) (rcx_of F rc_Model) [.int (-1)] rfl rfl (by decide) (Nat.le_of_ble_eq_true rfl) h (fun _ _ hf => c_X6_no hJ hf) (fun r11 t12 h => ?_)
    cases h
    exact E (dAt dk_X6_shortest 11 rfl) rfl
  have J48 : ∀ (u0 : Mem), jn_X6_shortest_48 n x1 x2 x3 u0 = some (r, u') → G X D ad g t u0 [(0, .ref (ad 39))] 48 [] := by
    intro u0 h
    unfold jn_X6_shortest_48 at h
    refine g_aload_n F (dAt dk_X6_shortest 27 rfl) 0 rfl ?_
    refine g_bipush (v := (-5)) F (dAt dk_X6_shortest 28 rfl) (by decide) ?_
    refine g_invV_im F mi_X6_no (gm mw_938 rfl) (dAt dk_X6_shortest 29 rfl) (rcx_of F rc_Model) [.int (-5)] rfl rfl (by decide) (Nat.le_of_ble_eq_true rfl) h (fun _ _ hf => c_X6_no hJ hf) (fun r13 t14 h => ?_)
    cases h
    exact E (dAt dk_X6_shortest 30 rfl) rfl
  have J90 : ∀ (v4 : Int32) (v5 : Int32) (u0 : Mem), jn_X6_shortest_90 n x1 x2 x3 v4 v5 u0 = some (r, u') → G X D ad g t u0 [(0, .ref (ad 39)), (3, .int x3), (4, .int v4), (5, .int v5)] 90 [] := by
    intro v4 v5 u0 h
    unfold jn_X6_shortest_90 at h
    refine g_iload_n F (dAt dk_X6_shortest 50 rfl) 1 rfl ?_
    refine g_iconst (v := (-1)) F (dAt dk_X6_shortest 51 rfl) (by decide) ?_
    refine g_icmp_ne (tgt := 98) F (dAt dk_X6_shortest 52 rfl) (by decide) h (fun c19 h => ?_) (fun c19 h => ?_)
    · refine g_iload F (dAt dk_X6_shortest 55 rfl) 2 rfl ?_
      refine g_iload_n F (dAt dk_X6_shortest 56 rfl) 1 rfl ?_
      refine g_iconst (v := 1) F (dAt dk_X6_shortest 57 rfl) (by decide) ?_
      refine g_iadd F (dAt dk_X6_shortest 58 rfl) ?_
      refine g_icmp_ne (tgt := 111) F (dAt dk_X6_shortest 59 rfl) (by decide) h (fun c20 h => ?_) (fun c20 h => ?_)
      · refine g_aload_n F (dAt dk_X6_shortest 62 rfl) 0 rfl ?_
        refine g_bipush (v := (-5)) F (dAt dk_X6_shortest 63 rfl) (by decide) ?_
        refine g_invV_im F mi_X6_no (gm mw_938 rfl) (dAt dk_X6_shortest 64 rfl) (rcx_of F rc_Model) [.int (-5)] rfl rfl (by decide) (Nat.le_of_ble_eq_true rfl) h (fun _ _ hf => c_X6_no hJ hf) (fun r21 t22 h => ?_)
        cases h
        exact E (dAt dk_X6_shortest 65 rfl) rfl
      · refine g_iload F (dAt dk_X6_shortest 60 rfl) 3 rfl ?_
        refine g_goto (tgt := 117) F (dAt dk_X6_shortest 61 rfl) (by decide) ?_
        cases h
        exact E (dAt dk_X6_shortest 65 rfl) rfl
    · refine g_iload F (dAt dk_X6_shortest 53 rfl) 2 rfl ?_
      cases h
      exact E (dAt dk_X6_shortest 54 rfl) rfl
  have H61 : ∀ (k : Nat) (s : Int32 × Int32 × Mem), iter (bd_X6_shortest_61 n x1 x2 x3) k s = some (r, u') → G X D ad g t s.2.2 [(0, .ref (ad 39)), (2, .int x2), (3, .int x3), (4, .int s.1), (5, .int s.2.1)] 61 [] := by
    refine iter_walk (P := fun (s : Int32 × Int32 × Mem) => G X D ad g t s.2.2 [(0, .ref (ad 39)), (2, .int x2), (3, .int x3), (4, .int s.1), (5, .int s.2.1)] 61 []) (fun self61 ih61 s h => ?_)
    obtain ⟨v4, v5, u0⟩ := s
    change G X D ad g t u0 [(0, .ref (ad 39)), (2, .int x2), (3, .int x3), (4, .int v4), (5, .int v5)] 61 []
    unfold bd_X6_shortest_61 at h; try dsimp only at h
    refine g_iload F (dAt dk_X6_shortest 35 rfl) 4 rfl ?_
    refine g_iload_n F (dAt dk_X6_shortest 36 rfl) 1 rfl ?_
    refine g_icmp_eq (tgt := 90) F (dAt dk_X6_shortest 37 rfl) (by decide) h (fun c15 h => ?_) (fun c15 h => ?_)
    · refine g_sub (lv' := [(0, .ref (ad 39)), (3, .int x3), (4, .int v4), (5, .int v5)]) [0, 2, 3, 4] rfl ?_
      exact J90  v4 v5 u0 h
    · refine g_iload F (dAt dk_X6_shortest 38 rfl) 3 rfl ?_
      refine g_iload_n F (dAt dk_X6_shortest 39 rfl) 2 rfl ?_
      refine g_iconst (v := 1) F (dAt dk_X6_shortest 40 rfl) (by decide) ?_
      refine g_iadd F (dAt dk_X6_shortest 41 rfl) ?_
      refine g_icmp_eq (tgt := 90) F (dAt dk_X6_shortest 42 rfl) (by decide) h (fun c16 h => ?_) (fun c16 h => ?_)
      · refine g_sub (lv' := [(0, .ref (ad 39)), (3, .int x3), (4, .int v4), (5, .int v5)]) [0, 2, 3, 4] rfl ?_
        exact J90  v4 v5 u0 h
      · refine g_aload_n F (dAt dk_X6_shortest 43 rfl) 0 rfl ?_
        refine g_iload F (dAt dk_X6_shortest 44 rfl) 4 rfl ?_
        refine g_iload_n F (dAt dk_X6_shortest 45 rfl) 1 rfl ?_
        refine g_invV_im F mi_X6_next (gm mw_1130 rfl) (dAt dk_X6_shortest 46 rfl) (rcx_of F rc_Model) [.int v5, .int x2] rfl rfl (by decide) (Nat.le_of_ble_eq_true rfl) h (fun _ _ hf => c_X6_next hJ hf) (fun r17 t18 h => ?_)
        refine g_istore (lv' := [(5, .int r17), (0, .ref (ad 39)), (2, .int x2), (3, .int x3), (4, .int v4)]) F (dAt dk_X6_shortest 47 rfl) (by decide) rfl ?_
        refine g_iinc (lv' := [(4, .int (v4 + 1)), (5, .int r17), (0, .ref (ad 39)), (2, .int x2), (3, .int x3)]) F (dAt dk_X6_shortest 48 rfl) 4 rfl (w := 1) (by decide) (by decide) rfl ?_
        refine g_goto (tgt := 61) F (dAt dk_X6_shortest 49 rfl) (by decide) ?_
        refine g_sub (lv' := [(0, .ref (ad 39)), (2, .int x2), (3, .int x3), (4, .int (v4 + 1)), (5, .int r17)]) [2, 3, 4, 0, 1] rfl ?_
        exact ih61 ((v4 + 1), r17, t18) h
  refine g_lv (lv' := [(0, .ref (ad 39)), (1, .int x1), (2, .int x2), (3, .int x3)]) rfl ?_
  unfold f_X6_shortest at h
  refine g_aload_n F (dAt dk_X6_shortest 0 rfl) 0 rfl ?_
  refine g_iload_n F (dAt dk_X6_shortest 1 rfl) 1 rfl ?_
  refine g_invV_im F mi_X6_isPlace (gm mw_966 rfl) (dAt dk_X6_shortest 2 rfl) (rcx_of F rc_Model) [.int x1] rfl rfl (by decide) (Nat.le_of_ble_eq_true rfl) h (fun _ _ hf => c_X6_isPlace hJ hf) (fun r1 t2 h => ?_)
  refine g_if_eq (tgt := 16) F (dAt dk_X6_shortest 3 rfl) (by decide) h (fun c3 h => ?_) (fun c3 h => ?_)
  · refine g_sub (lv' := [(0, .ref (ad 39))]) [0] rfl ?_
    exact J16  t2 h
  · refine g_aload_n F (dAt dk_X6_shortest 4 rfl) 0 rfl ?_
    refine g_iload_n F (dAt dk_X6_shortest 5 rfl) 2 rfl ?_
    refine g_invV_im F mi_X6_isPlace (gm mw_966 rfl) (dAt dk_X6_shortest 6 rfl) (rcx_of F rc_Model) [.int x2] rfl rfl (by decide) (Nat.le_of_ble_eq_true rfl) h (fun _ _ hf => c_X6_isPlace hJ hf) (fun r4 t5 h => ?_)
    refine g_if_ne (tgt := 22) F (dAt dk_X6_shortest 7 rfl) (by decide) h (fun c6 h => ?_) (fun c6 h => ?_)
    · refine g_aload_n F (dAt dk_X6_shortest 12 rfl) 0 rfl ?_
      refine g_invV_vm F mi_X6_walk (gm mw_1118 rfl) (dAt dk_X6_shortest 13 rfl) (rcx_of F rc_Model) [] rfl rfl (by decide) (Nat.le_of_ble_eq_true rfl) h (fun _ _ hf => c_X6_walk hJ hf) (fun _ t7 h => ?_)
      refine g_aload_n F (dAt dk_X6_shortest 14 rfl) 0 rfl ?_
      refine gg_Model_far F (gm mw_884 rfl) (dAt dk_X6_shortest 15 rfl) ?_
      refine g_bipush (v := 8) F (dAt dk_X6_shortest 16 rfl) (by decide) ?_
      refine g_iload_n F (dAt dk_X6_shortest 17 rfl) 1 rfl ?_
      refine g_imul F (dAt dk_X6_shortest 18 rfl) ?_
      refine g_iload_n F (dAt dk_X6_shortest 19 rfl) 2 rfl ?_
      refine g_iadd F (dAt dk_X6_shortest 20 rfl) ?_
      refine g_ck h (fun hi8 h => ?_)
      refine g_ialoadm F am_far (dAt dk_X6_shortest 21 rfl) hi8 ?_
      refine g_sipush (v := 10000) F (dAt dk_X6_shortest 22 rfl) (by decide) ?_
      refine g_icmp_eq (tgt := 48) F (dAt dk_X6_shortest 23 rfl) (by decide) h (fun c9 h => ?_) (fun c9 h => ?_)
      · refine g_sub (lv' := [(0, .ref (ad 39))]) [0] rfl ?_
        exact J48  t7 h
      · refine g_iload_n F (dAt dk_X6_shortest 24 rfl) 3 rfl ?_
        refine g_iconst (v := (-1)) F (dAt dk_X6_shortest 25 rfl) (by decide) ?_
        refine g_icmp_ge (tgt := 55) F (dAt dk_X6_shortest 26 rfl) (by decide) h (fun c10 h => ?_) (fun c10 h => ?_)
        · refine g_iconst (v := 1) F (dAt dk_X6_shortest 31 rfl) (by decide) ?_
          refine g_istore (lv' := [(4, .int 1), (0, .ref (ad 39)), (1, .int x1), (2, .int x2), (3, .int x3)]) F (dAt dk_X6_shortest 32 rfl) (by decide) rfl ?_
          refine g_iload_n F (dAt dk_X6_shortest 33 rfl) 2 rfl ?_
          refine g_istore (lv' := [(5, .int x1), (4, .int 1), (0, .ref (ad 39)), (1, .int x1), (2, .int x2), (3, .int x3)]) F (dAt dk_X6_shortest 34 rfl) (by decide) rfl ?_
          refine g_sub (lv' := [(0, .ref (ad 39)), (2, .int x2), (3, .int x3), (4, .int 1), (5, .int x1)]) [2, 4, 5, 1, 0] rfl ?_
          exact H61  n (1, x1, t7) h
        · refine g_sub (lv' := [(0, .ref (ad 39))]) [0] rfl ?_
          exact J48  t7 h
    · refine g_sub (lv' := [(0, .ref (ad 39))]) [0] rfl ?_
      exact J16  t5 h
theorem mi_X6_within_ : MI yX6_within_ cX6_within_ 5 (some .int) "MillOfDistancesModel" 2 := ⟨(gm mw_1137 rfl), (gm mw_1135 rfl), (gm mw_1136 rfl), (gm mw_75 rfl), by decide +kernel, by decide⟩
theorem c_X6_within_ {l : Launch} {D : va_G} {ad : Nat → Nat} {g : Gv} {t u : Mem} {n : Nat} {x1 : Int32} {x2 : Int32} {u' : Mem} {r : Int32} (hJ : Jad ad) (h : f_X6_within_ n x1 x2 u = some (r, u')) : ConI l yX6_within_ cX6_within_ 5 (some .int) 2 [.ref (ad 39), .int x1, .int x2] D ad g t u t u' r := by
  refine con_i hJ (by decide) (Nat.le_of_ble_eq_true rfl) rfl (fun X F E => ?_)
  have H41 : ∀ (k : Nat) (s : Int32 × Int32 × Mem), iter (bd_X6_within__41 n x1 x2) k s = some (r, u') → G X D ad g t s.2.2 [(0, .ref (ad 39)), (1, .int x1), (2, .int x2), (3, .int s.1), (4, .int s.2.1)] 41 [] := by
    refine iter_walk (P := fun (s : Int32 × Int32 × Mem) => G X D ad g t s.2.2 [(0, .ref (ad 39)), (1, .int x1), (2, .int x2), (3, .int s.1), (4, .int s.2.1)] 41 []) (fun self41 ih41 s h => ?_)
    obtain ⟨v3, v4, u0⟩ := s
    change G X D ad g t u0 [(0, .ref (ad 39)), (1, .int x1), (2, .int x2), (3, .int v3), (4, .int v4)] 41 []
    unfold bd_X6_within__41 at h; try dsimp only at h
    refine g_iload F (dAt dk_X6_within_ 23 rfl) 4 rfl ?_
    refine g_aload_n F (dAt dk_X6_within_ 24 rfl) 0 rfl ?_
    refine gg_Model_places F (gm mw_867 rfl) (dAt dk_X6_within_ 25 rfl) ?_
    refine g_icmp_ge (tgt := 79) F (dAt dk_X6_within_ 26 rfl) (by decide) h (fun c11 h => ?_) (fun c11 h => ?_)
    · refine g_iload_n F (dAt dk_X6_within_ 45 rfl) 3 rfl ?_
      cases h
      exact E (dAt dk_X6_within_ 46 rfl) rfl
    · refine g_aload_n F (dAt dk_X6_within_ 27 rfl) 0 rfl ?_
      refine gg_Model_far F (gm mw_884 rfl) (dAt dk_X6_within_ 28 rfl) ?_
      refine g_bipush (v := 8) F (dAt dk_X6_within_ 29 rfl) (by decide) ?_
      refine g_iload_n F (dAt dk_X6_within_ 30 rfl) 1 rfl ?_
      refine g_imul F (dAt dk_X6_within_ 31 rfl) ?_
      refine g_iload F (dAt dk_X6_within_ 32 rfl) 4 rfl ?_
      refine g_iadd F (dAt dk_X6_within_ 33 rfl) ?_
      refine g_ck h (fun hi12 h => ?_)
      refine g_ialoadm F am_far (dAt dk_X6_within_ 34 rfl) hi12 ?_
      refine g_iload_n F (dAt dk_X6_within_ 35 rfl) 2 rfl ?_
      refine g_icmp_gt (tgt := 73) F (dAt dk_X6_within_ 36 rfl) (by decide) h (fun c13 h => ?_) (fun c13 h => ?_)
      · refine g_iinc (lv' := [(4, .int (v4 + 1)), (0, .ref (ad 39)), (1, .int x1), (2, .int x2), (3, .int v3)]) F (dAt dk_X6_within_ 43 rfl) 4 rfl (w := 1) (by decide) (by decide) rfl ?_
        refine g_goto (tgt := 41) F (dAt dk_X6_within_ 44 rfl) (by decide) ?_
        refine g_sub (lv' := [(0, .ref (ad 39)), (1, .int x1), (2, .int x2), (3, .int v3), (4, .int (v4 + 1))]) [1, 2, 3, 4, 0] rfl ?_
        exact ih41 (v3, (v4 + 1), u0) h
      · refine g_iload_n F (dAt dk_X6_within_ 37 rfl) 3 rfl ?_
        refine g_iconst (v := 1) F (dAt dk_X6_within_ 38 rfl) (by decide) ?_
        refine g_iload F (dAt dk_X6_within_ 39 rfl) 4 rfl ?_
        refine g_ishl F (dAt dk_X6_within_ 40 rfl) ?_
        refine g_ior F (dAt dk_X6_within_ 41 rfl) ?_
        refine g_lti h (fun y14 h => ?_)
        refine g_istore_n (lv' := [(3, .int y14), (0, .ref (ad 39)), (1, .int x1), (2, .int x2), (4, .int v4)]) F (dAt dk_X6_within_ 42 rfl) (by decide) rfl ?_
        refine g_iinc (lv' := [(4, .int (v4 + 1)), (3, .int y14), (0, .ref (ad 39)), (1, .int x1), (2, .int x2)]) F (dAt dk_X6_within_ 43 rfl) 4 rfl (w := 1) (by decide) (by decide) rfl ?_
        refine g_goto (tgt := 41) F (dAt dk_X6_within_ 44 rfl) (by decide) ?_
        refine g_sub (lv' := [(0, .ref (ad 39)), (1, .int x1), (2, .int x2), (3, .int y14), (4, .int (v4 + 1))]) [2, 3, 4, 1, 0] rfl ?_
        exact ih41 (y14, (v4 + 1), u0) h
  refine g_lv (lv' := [(0, .ref (ad 39)), (1, .int x1), (2, .int x2)]) rfl ?_
  unfold f_X6_within_ at h
  refine g_aload_n F (dAt dk_X6_within_ 0 rfl) 0 rfl ?_
  refine g_iload_n F (dAt dk_X6_within_ 1 rfl) 1 rfl ?_
  refine g_invV_im F mi_X6_isPlace (gm mw_966 rfl) (dAt dk_X6_within_ 2 rfl) (rcx_of F rc_Model) [.int x1] rfl rfl (by decide) (Nat.le_of_ble_eq_true rfl) h (fun _ _ hf => c_X6_isPlace hJ hf) (fun r1 t2 h => ?_)
  refine g_if_ne (tgt := 14) F (dAt dk_X6_within_ 3 rfl) (by decide) h (fun c3 h => ?_) (fun c3 h => ?_)
  · refine g_iload_n F (dAt dk_X6_within_ 8 rfl) 2 rfl ?_
    refine g_iconst (v := 0) F (dAt dk_X6_within_ 9 rfl) (by decide) ?_
    refine g_sipush (v := 9999) F (dAt dk_X6_within_ 10 rfl) (by decide) ?_
    refine g_invS_ip F ms_X6_within (gm mw_935 rfl) (dAt dk_X6_within_ 11 rfl) [.int x2, .int 0, .int 9999] rfl rfl (by decide) (Nat.le_of_ble_eq_true rfl) h (fun _ hf => c_X6_within hJ hf) (fun r4 h => ?_)
    refine g_if_ne (tgt := 32) F (dAt dk_X6_within_ 12 rfl) (by decide) h (fun c5 h => ?_) (fun c5 h => ?_)
    · refine g_aload_n F (dAt dk_X6_within_ 17 rfl) 0 rfl ?_
      refine g_invV_vm F mi_X6_walk (gm mw_1118 rfl) (dAt dk_X6_within_ 18 rfl) (rcx_of F rc_Model) [] rfl rfl (by decide) (Nat.le_of_ble_eq_true rfl) h (fun _ _ hf => c_X6_walk hJ hf) (fun _ t6 h => ?_)
      refine g_iconst (v := 0) F (dAt dk_X6_within_ 19 rfl) (by decide) ?_
      refine g_istore_n (lv' := [(3, .int 0), (0, .ref (ad 39)), (1, .int x1), (2, .int x2)]) F (dAt dk_X6_within_ 20 rfl) (by decide) rfl ?_
      refine g_iconst (v := 0) F (dAt dk_X6_within_ 21 rfl) (by decide) ?_
      refine g_istore (lv' := [(4, .int 0), (3, .int 0), (0, .ref (ad 39)), (1, .int x1), (2, .int x2)]) F (dAt dk_X6_within_ 22 rfl) (by decide) rfl ?_
      refine g_sub (lv' := [(0, .ref (ad 39)), (1, .int x1), (2, .int x2), (3, .int 0), (4, .int 0)]) [2, 3, 4, 1, 0] rfl ?_
      exact H41  n (0, 0, t6) h
    · refine g_aload_n F (dAt dk_X6_within_ 13 rfl) 0 rfl ?_
      refine g_bipush (v := (-6)) F (dAt dk_X6_within_ 14 rfl) (by decide) ?_
      refine g_invV_im F mi_X6_no (gm mw_938 rfl) (dAt dk_X6_within_ 15 rfl) (rcx_of F rc_Model) [.int (-6)] rfl rfl (by decide) (Nat.le_of_ble_eq_true rfl) h (fun _ _ hf => c_X6_no hJ hf) (fun r7 t8 h => ?_)
      cases h
      exact E (dAt dk_X6_within_ 16 rfl) rfl
  · refine g_aload_n F (dAt dk_X6_within_ 4 rfl) 0 rfl ?_
    refine g_iconst (v := (-1)) F (dAt dk_X6_within_ 5 rfl) (by decide) ?_
    refine g_invV_im F mi_X6_no (gm mw_938 rfl) (dAt dk_X6_within_ 6 rfl) (rcx_of F rc_Model) [.int (-1)] rfl rfl (by decide) (Nat.le_of_ble_eq_true rfl) h (fun _ _ hf => c_X6_no hJ hf) (fun r9 t10 h => ?_)
    cases h
    exact E (dAt dk_X6_within_ 7 rfl) rfl
theorem mi_X6_parts : MI yX6_parts cX6_parts 5 (some .int) "MillOfDistancesModel" 0 := ⟨(gm mw_1145 rfl), (gm mw_1144 rfl), (gm mw_52 rfl), (gm mw_75 rfl), by decide +kernel, by decide⟩
theorem c_X6_parts {l : Launch} {D : va_G} {ad : Nat → Nat} {g : Gv} {t u : Mem} {n : Nat}  {u' : Mem} {r : Int32} (hJ : Jad ad) (h : f_X6_parts n u = some (r, u')) : ConI l yX6_parts cX6_parts 5 (some .int) 0 [.ref (ad 39)] D ad g t u t u' r := by
  refine con_i hJ (by decide) (Nat.le_of_ble_eq_true rfl) rfl (fun X F E => ?_)
  have H17 : ∀ (self4 : Int32 × Int32 × Mem → Option (Int32 × Mem)), (∀ s, self4 s = some (r, u') → G X D ad g t s.2.2 [(0, .ref (ad 39)), (1, .int s.1), (2, .int s.2.1)] 4 []) → ∀ (k : Nat) (s : Int32 × Int32 × Int32 × Int32 × Mem), iter (bd_X6_parts_17 n self4) k s = some (r, u') → G X D ad g t s.2.2.2.2 [(0, .ref (ad 39)), (1, .int s.1), (2, .int s.2.1), (3, .int s.2.2.1), (4, .int s.2.2.2.1)] 17 [] := by
    intro self4 ih4
    refine iter_walk (P := fun (s : Int32 × Int32 × Int32 × Int32 × Mem) => G X D ad g t s.2.2.2.2 [(0, .ref (ad 39)), (1, .int s.1), (2, .int s.2.1), (3, .int s.2.2.1), (4, .int s.2.2.2.1)] 17 []) (fun self17 ih17 s h => ?_)
    obtain ⟨v1, v2, v3, v4, u0⟩ := s
    change G X D ad g t u0 [(0, .ref (ad 39)), (1, .int v1), (2, .int v2), (3, .int v3), (4, .int v4)] 17 []
    unfold bd_X6_parts_17 at h; try dsimp only at h
    refine g_iload F (dAt dk_X6_parts 12 rfl) 4 rfl ?_
    refine g_iload_n F (dAt dk_X6_parts 13 rfl) 2 rfl ?_
    refine g_icmp_ge (tgt := 49) F (dAt dk_X6_parts 14 rfl) (by decide) h (fun c2 h => ?_) (fun c2 h => ?_)
    · refine g_iload_n F (dAt dk_X6_parts 29 rfl) 3 rfl ?_
      refine g_if_eq (tgt := 56) F (dAt dk_X6_parts 30 rfl) (by decide) h (fun c3 h => ?_) (fun c3 h => ?_)
      · refine g_iinc (lv' := [(2, .int (v2 + 1)), (0, .ref (ad 39)), (1, .int v1), (3, .int v3), (4, .int v4)]) F (dAt dk_X6_parts 32 rfl) 2 rfl (w := 1) (by decide) (by decide) rfl ?_
        refine g_goto (tgt := 4) F (dAt dk_X6_parts 33 rfl) (by decide) ?_
        refine g_sub (lv' := [(0, .ref (ad 39)), (1, .int v1), (2, .int (v2 + 1))]) [1, 2, 0] rfl ?_
        exact ih4 (v1, (v2 + 1), u0) h
      · refine g_iinc (lv' := [(1, .int (v1 + 1)), (0, .ref (ad 39)), (2, .int v2), (3, .int v3), (4, .int v4)]) F (dAt dk_X6_parts 31 rfl) 1 rfl (w := 1) (by decide) (by decide) rfl ?_
        refine g_iinc (lv' := [(2, .int (v2 + 1)), (1, .int (v1 + 1)), (0, .ref (ad 39)), (3, .int v3), (4, .int v4)]) F (dAt dk_X6_parts 32 rfl) 2 rfl (w := 1) (by decide) (by decide) rfl ?_
        refine g_goto (tgt := 4) F (dAt dk_X6_parts 33 rfl) (by decide) ?_
        refine g_sub (lv' := [(0, .ref (ad 39)), (1, .int (v1 + 1)), (2, .int (v2 + 1))]) [2, 1, 0] rfl ?_
        exact ih4 ((v1 + 1), (v2 + 1), u0) h
    · refine g_aload_n F (dAt dk_X6_parts 15 rfl) 0 rfl ?_
      refine gg_Model_far F (gm mw_884 rfl) (dAt dk_X6_parts 16 rfl) ?_
      refine g_bipush (v := 8) F (dAt dk_X6_parts 17 rfl) (by decide) ?_
      refine g_iload_n F (dAt dk_X6_parts 18 rfl) 2 rfl ?_
      refine g_imul F (dAt dk_X6_parts 19 rfl) ?_
      refine g_iload F (dAt dk_X6_parts 20 rfl) 4 rfl ?_
      refine g_iadd F (dAt dk_X6_parts 21 rfl) ?_
      refine g_ck h (fun hi4 h => ?_)
      refine g_ialoadm F am_far (dAt dk_X6_parts 22 rfl) hi4 ?_
      refine g_sipush (v := 10000) F (dAt dk_X6_parts 23 rfl) (by decide) ?_
      refine g_icmp_ge (tgt := 43) F (dAt dk_X6_parts 24 rfl) (by decide) h (fun c5 h => ?_) (fun c5 h => ?_)
      · refine g_iinc (lv' := [(4, .int (v4 + 1)), (0, .ref (ad 39)), (1, .int v1), (2, .int v2), (3, .int v3)]) F (dAt dk_X6_parts 27 rfl) 4 rfl (w := 1) (by decide) (by decide) rfl ?_
        refine g_goto (tgt := 17) F (dAt dk_X6_parts 28 rfl) (by decide) ?_
        refine g_sub (lv' := [(0, .ref (ad 39)), (1, .int v1), (2, .int v2), (3, .int v3), (4, .int (v4 + 1))]) [1, 2, 3, 4, 0] rfl ?_
        exact ih17 (v1, v2, v3, (v4 + 1), u0) h
      · refine g_iconst (v := 0) F (dAt dk_X6_parts 25 rfl) (by decide) ?_
        refine g_istore_n (lv' := [(3, .int 0), (0, .ref (ad 39)), (1, .int v1), (2, .int v2), (4, .int v4)]) F (dAt dk_X6_parts 26 rfl) (by decide) rfl ?_
        refine g_iinc (lv' := [(4, .int (v4 + 1)), (3, .int 0), (0, .ref (ad 39)), (1, .int v1), (2, .int v2)]) F (dAt dk_X6_parts 27 rfl) 4 rfl (w := 1) (by decide) (by decide) rfl ?_
        refine g_goto (tgt := 17) F (dAt dk_X6_parts 28 rfl) (by decide) ?_
        refine g_sub (lv' := [(0, .ref (ad 39)), (1, .int v1), (2, .int v2), (3, .int 0), (4, .int (v4 + 1))]) [2, 3, 4, 1, 0] rfl ?_
        exact ih17 (v1, v2, 0, (v4 + 1), u0) h
  have H4 : ∀ (k : Nat) (s : Int32 × Int32 × Mem), iter (bd_X6_parts_4 n) k s = some (r, u') → G X D ad g t s.2.2 [(0, .ref (ad 39)), (1, .int s.1), (2, .int s.2.1)] 4 [] := by
    refine iter_walk (P := fun (s : Int32 × Int32 × Mem) => G X D ad g t s.2.2 [(0, .ref (ad 39)), (1, .int s.1), (2, .int s.2.1)] 4 []) (fun self4 ih4 s h => ?_)
    obtain ⟨v1, v2, u0⟩ := s
    change G X D ad g t u0 [(0, .ref (ad 39)), (1, .int v1), (2, .int v2)] 4 []
    unfold bd_X6_parts_4 at h; try dsimp only at h
    refine g_iload_n F (dAt dk_X6_parts 4 rfl) 2 rfl ?_
    refine g_aload_n F (dAt dk_X6_parts 5 rfl) 0 rfl ?_
    refine gg_Model_places F (gm mw_867 rfl) (dAt dk_X6_parts 6 rfl) ?_
    refine g_icmp_ge (tgt := 62) F (dAt dk_X6_parts 7 rfl) (by decide) h (fun c1 h => ?_) (fun c1 h => ?_)
    · refine g_iload_n F (dAt dk_X6_parts 34 rfl) 1 rfl ?_
      cases h
      exact E (dAt dk_X6_parts 35 rfl) rfl
    · refine g_iconst (v := 1) F (dAt dk_X6_parts 8 rfl) (by decide) ?_
      refine g_istore_n (lv' := [(3, .int 1), (0, .ref (ad 39)), (1, .int v1), (2, .int v2)]) F (dAt dk_X6_parts 9 rfl) (by decide) rfl ?_
      refine g_iconst (v := 0) F (dAt dk_X6_parts 10 rfl) (by decide) ?_
      refine g_istore (lv' := [(4, .int 0), (3, .int 1), (0, .ref (ad 39)), (1, .int v1), (2, .int v2)]) F (dAt dk_X6_parts 11 rfl) (by decide) rfl ?_
      refine g_sub (lv' := [(0, .ref (ad 39)), (1, .int v1), (2, .int v2), (3, .int 1), (4, .int 0)]) [2, 3, 4, 1, 0] rfl ?_
      exact H17 self4 ih4 n (v1, v2, 1, 0, u0) h
  refine g_lv (lv' := [(0, .ref (ad 39))]) rfl ?_
  unfold f_X6_parts at h
  refine g_iconst (v := 0) F (dAt dk_X6_parts 0 rfl) (by decide) ?_
  refine g_istore_n (lv' := [(1, .int 0), (0, .ref (ad 39))]) F (dAt dk_X6_parts 1 rfl) (by decide) rfl ?_
  refine g_iconst (v := 0) F (dAt dk_X6_parts 2 rfl) (by decide) ?_
  refine g_istore_n (lv' := [(2, .int 0), (1, .int 0), (0, .ref (ad 39))]) F (dAt dk_X6_parts 3 rfl) (by decide) rfl ?_
  refine g_sub (lv' := [(0, .ref (ad 39)), (1, .int 0), (2, .int 0)]) [2, 1, 0] rfl ?_
  exact H4  n (0, 0, u) h
theorem mi_X6_farthest : MI yX6_farthest cX6_farthest 4 (some .int) "MillOfDistancesModel" 1 := ⟨(gm mw_1160 rfl), (gm mw_1159 rfl), (gm mw_54 rfl), (gm mw_75 rfl), by decide +kernel, by decide⟩
theorem c_X6_farthest {l : Launch} {D : va_G} {ad : Nat → Nat} {g : Gv} {t u : Mem} {n : Nat} {x1 : Int32} {u' : Mem} {r : Int32} (hJ : Jad ad) (h : f_X6_farthest n x1 u = some (r, u')) : ConI l yX6_farthest cX6_farthest 4 (some .int) 1 [.ref (ad 39), .int x1] D ad g t u t u' r := by
  refine con_i hJ (by decide) (Nat.le_of_ble_eq_true rfl) rfl (fun X F E => ?_)
  have H4 : ∀ (k : Nat) (s : Int32 × Int32 × Mem), iter (bd_X6_farthest_4 n x1) k s = some (r, u') → G X D ad g t s.2.2 [(0, .ref (ad 39)), (1, .int x1), (2, .int s.1), (3, .int s.2.1)] 4 [] := by
    refine iter_walk (P := fun (s : Int32 × Int32 × Mem) => G X D ad g t s.2.2 [(0, .ref (ad 39)), (1, .int x1), (2, .int s.1), (3, .int s.2.1)] 4 []) (fun self4 ih4 s h => ?_)
    obtain ⟨v2, v3, u0⟩ := s
    change G X D ad g t u0 [(0, .ref (ad 39)), (1, .int x1), (2, .int v2), (3, .int v3)] 4 []
    unfold bd_X6_farthest_4 at h; try dsimp only at h
    refine g_iload_n F (dAt dk_X6_farthest 4 rfl) 3 rfl ?_
    refine g_aload_n F (dAt dk_X6_farthest 5 rfl) 0 rfl ?_
    refine gg_Model_places F (gm mw_867 rfl) (dAt dk_X6_farthest 6 rfl) ?_
    refine g_icmp_ge (tgt := 34) F (dAt dk_X6_farthest 7 rfl) (by decide) h (fun c1 h => ?_) (fun c1 h => ?_)
    · refine g_iload_n F (dAt dk_X6_farthest 21 rfl) 2 rfl ?_
      cases h
      exact E (dAt dk_X6_farthest 22 rfl) rfl
    · refine g_iload_n F (dAt dk_X6_farthest 8 rfl) 2 rfl ?_
      refine g_aload_n F (dAt dk_X6_farthest 9 rfl) 0 rfl ?_
      refine gg_Model_far F (gm mw_884 rfl) (dAt dk_X6_farthest 10 rfl) ?_
      refine g_bipush (v := 8) F (dAt dk_X6_farthest 11 rfl) (by decide) ?_
      refine g_iload_n F (dAt dk_X6_farthest 12 rfl) 1 rfl ?_
      refine g_imul F (dAt dk_X6_farthest 13 rfl) ?_
      refine g_iload_n F (dAt dk_X6_farthest 14 rfl) 3 rfl ?_
      refine g_iadd F (dAt dk_X6_farthest 15 rfl) ?_
      refine g_ck h (fun hi2 h => ?_)
      refine g_ialoadm F am_far (dAt dk_X6_farthest 16 rfl) hi2 ?_
      refine g_mmax F (gm mw_993 rfl) (dAt dk_X6_farthest 17 rfl) (by decide) (Nat.le_of_ble_eq_true rfl) h (fun r3 h => ?_)
      refine g_istore_n (lv' := [(2, .int r3), (0, .ref (ad 39)), (1, .int x1), (3, .int v3)]) F (dAt dk_X6_farthest 18 rfl) (by decide) rfl ?_
      refine g_iinc (lv' := [(3, .int (v3 + 1)), (2, .int r3), (0, .ref (ad 39)), (1, .int x1)]) F (dAt dk_X6_farthest 19 rfl) 3 rfl (w := 1) (by decide) (by decide) rfl ?_
      refine g_goto (tgt := 4) F (dAt dk_X6_farthest 20 rfl) (by decide) ?_
      refine g_sub (lv' := [(0, .ref (ad 39)), (1, .int x1), (2, .int r3), (3, .int (v3 + 1))]) [2, 3, 1, 0] rfl ?_
      exact ih4 (r3, (v3 + 1), u0) h
  refine g_lv (lv' := [(0, .ref (ad 39)), (1, .int x1)]) rfl ?_
  unfold f_X6_farthest at h
  refine g_iconst (v := 0) F (dAt dk_X6_farthest 0 rfl) (by decide) ?_
  refine g_istore_n (lv' := [(2, .int 0), (0, .ref (ad 39)), (1, .int x1)]) F (dAt dk_X6_farthest 1 rfl) (by decide) rfl ?_
  refine g_iconst (v := 0) F (dAt dk_X6_farthest 2 rfl) (by decide) ?_
  refine g_istore_n (lv' := [(3, .int 0), (2, .int 0), (0, .ref (ad 39)), (1, .int x1)]) F (dAt dk_X6_farthest 3 rfl) (by decide) rfl ?_
  refine g_sub (lv' := [(0, .ref (ad 39)), (1, .int x1), (2, .int 0), (3, .int 0)]) [2, 3, 1, 0] rfl ?_
  exact H4  n (0, 0, u) h
theorem mi_X6_keeps : MI yX6_keeps cX6_keeps 7 (some .int) "MillOfDistancesModel" 0 := ⟨(gm mw_1149 rfl), (gm mw_1148 rfl), (gm mw_53 rfl), (gm mw_75 rfl), by decide +kernel, by decide⟩
theorem c_X6_keeps {l : Launch} {D : va_G} {ad : Nat → Nat} {g : Gv} {t u : Mem} {n : Nat}  {u' : Mem} {r : Int32} (hJ : Jad ad) (h : f_X6_keeps n u = some (r, u')) : ConI l yX6_keeps cX6_keeps 7 (some .int) 1 [.ref (ad 39)] D ad g t u t u' r := by
  refine con_i hJ (by decide) (Nat.le_of_ble_eq_true rfl) rfl (fun X F E => ?_)
  have H38 : ∀ (self4 : Int32 × Int32 × Mem → Option (Int32 × Mem)), (∀ s, self4 s = some (r, u') → G X D ad g t s.2.2 [(0, .ref (ad 39)), (1, .int s.1), (2, .int s.2.1)] 4 []) → ∀ (self26 : Int32 × Int32 × Int32 × Int32 × Int32 × Mem → Option (Int32 × Mem)), (∀ s, self26 s = some (r, u') → G X D ad g t s.2.2.2.2.2 [(0, .ref (ad 39)), (1, .int s.1), (2, .int s.2.1), (3, .int s.2.2.1), (4, .int s.2.2.2.1), (5, .int s.2.2.2.2.1)] 26 []) → ∀ (k : Nat) (s : Int32 × Int32 × Int32 × Int32 × Int32 × Int32 × Mem), iter (bd_X6_keeps_38 n self4 self26) k s = some (r, u') → G X D ad g t s.2.2.2.2.2.2 [(0, .ref (ad 39)), (1, .int s.1), (2, .int s.2.1), (3, .int s.2.2.1), (4, .int s.2.2.2.1), (5, .int s.2.2.2.2.1), (6, .int s.2.2.2.2.2.1)] 38 [] := by
    intro self4 ih4 self26 ih26
    refine iter_walk (P := fun (s : Int32 × Int32 × Int32 × Int32 × Int32 × Int32 × Mem) => G X D ad g t s.2.2.2.2.2.2 [(0, .ref (ad 39)), (1, .int s.1), (2, .int s.2.1), (3, .int s.2.2.1), (4, .int s.2.2.2.1), (5, .int s.2.2.2.2.1), (6, .int s.2.2.2.2.2.1)] 38 []) (fun self38 ih38 s h => ?_)
    obtain ⟨v1, v2, v3, v4, v5, v6, u0⟩ := s
    change G X D ad g t u0 [(0, .ref (ad 39)), (1, .int v1), (2, .int v2), (3, .int v3), (4, .int v4), (5, .int v5), (6, .int v6)] 38 []
    unfold bd_X6_keeps_38 at h; try dsimp only at h
    refine g_iload F (dAt dk_X6_keeps 24 rfl) 6 rfl ?_
    refine g_aload_n F (dAt dk_X6_keeps 25 rfl) 0 rfl ?_
    refine gg_Model_places F (gm mw_867 rfl) (dAt dk_X6_keeps 26 rfl) ?_
    refine g_icmp_ge (tgt := 126) F (dAt dk_X6_keeps 27 rfl) (by decide) h (fun c7 h => ?_) (fun c7 h => ?_)
    · refine g_iinc (lv' := [(5, .int (v5 + 1)), (0, .ref (ad 39)), (1, .int v1), (2, .int v2), (3, .int v3), (4, .int v4), (6, .int v6)]) F (dAt dk_X6_keeps 69 rfl) 5 rfl (w := 1) (by decide) (by decide) rfl ?_
      refine g_goto (tgt := 26) F (dAt dk_X6_keeps 70 rfl) (by decide) ?_
      refine g_sub (lv' := [(0, .ref (ad 39)), (1, .int v1), (2, .int v2), (3, .int v3), (4, .int v4), (5, .int (v5 + 1))]) [1, 2, 3, 4, 5, 0] rfl ?_
      exact ih26 (v1, v2, v3, v4, (v5 + 1), u0) h
    · refine g_iload_n F (dAt dk_X6_keeps 28 rfl) 2 rfl ?_
      refine g_iload F (dAt dk_X6_keeps 29 rfl) 5 rfl ?_
      refine g_invS_ip F ms_X6_has (gm mw_1150 rfl) (dAt dk_X6_keeps 30 rfl) [.int v2, .int v5] rfl rfl (by decide) (Nat.le_of_ble_eq_true rfl) h (fun _ hf => c_X6_has hJ hf) (fun r8 h => ?_)
      refine g_if_eq (tgt := 120) F (dAt dk_X6_keeps 31 rfl) (by decide) h (fun c9 h => ?_) (fun c9 h => ?_)
      · refine g_iinc (lv' := [(6, .int (v6 + 1)), (0, .ref (ad 39)), (1, .int v1), (2, .int v2), (3, .int v3), (4, .int v4), (5, .int v5)]) F (dAt dk_X6_keeps 67 rfl) 6 rfl (w := 1) (by decide) (by decide) rfl ?_
        refine g_goto (tgt := 38) F (dAt dk_X6_keeps 68 rfl) (by decide) ?_
        refine g_sub (lv' := [(0, .ref (ad 39)), (1, .int v1), (2, .int v2), (3, .int v3), (4, .int v4), (5, .int v5), (6, .int (v6 + 1))]) [1, 2, 3, 4, 5, 6, 0] rfl ?_
        exact ih38 (v1, v2, v3, v4, v5, (v6 + 1), u0) h
      · refine g_iload_n F (dAt dk_X6_keeps 32 rfl) 2 rfl ?_
        refine g_iload F (dAt dk_X6_keeps 33 rfl) 6 rfl ?_
        refine g_invS_ip F ms_X6_has (gm mw_1150 rfl) (dAt dk_X6_keeps 34 rfl) [.int v2, .int v6] rfl rfl (by decide) (Nat.le_of_ble_eq_true rfl) h (fun _ hf => c_X6_has hJ hf) (fun r10 h => ?_)
        refine g_if_ne (tgt := 120) F (dAt dk_X6_keeps 35 rfl) (by decide) h (fun c11 h => ?_) (fun c11 h => ?_)
        · refine g_iinc (lv' := [(6, .int (v6 + 1)), (0, .ref (ad 39)), (1, .int v1), (2, .int v2), (3, .int v3), (4, .int v4), (5, .int v5)]) F (dAt dk_X6_keeps 67 rfl) 6 rfl (w := 1) (by decide) (by decide) rfl ?_
          refine g_goto (tgt := 38) F (dAt dk_X6_keeps 68 rfl) (by decide) ?_
          refine g_sub (lv' := [(0, .ref (ad 39)), (1, .int v1), (2, .int v2), (3, .int v3), (4, .int v4), (5, .int v5), (6, .int (v6 + 1))]) [1, 2, 3, 4, 5, 6, 0] rfl ?_
          exact ih38 (v1, v2, v3, v4, v5, (v6 + 1), u0) h
        · refine g_aload_n F (dAt dk_X6_keeps 36 rfl) 0 rfl ?_
          refine gg_Model_miles F (gm mw_870 rfl) (dAt dk_X6_keeps 37 rfl) ?_
          refine g_bipush (v := 8) F (dAt dk_X6_keeps 38 rfl) (by decide) ?_
          refine g_iload F (dAt dk_X6_keeps 39 rfl) 5 rfl ?_
          refine g_imul F (dAt dk_X6_keeps 40 rfl) ?_
          refine g_iload F (dAt dk_X6_keeps 41 rfl) 6 rfl ?_
          refine g_iadd F (dAt dk_X6_keeps 42 rfl) ?_
          refine g_ck h (fun hi12 h => ?_)
          refine g_ialoadm F am_miles (dAt dk_X6_keeps 43 rfl) hi12 ?_
          refine g_if_eq (tgt := 120) F (dAt dk_X6_keeps 44 rfl) (by decide) h (fun c13 h => ?_) (fun c13 h => ?_)
          · refine g_iinc (lv' := [(6, .int (v6 + 1)), (0, .ref (ad 39)), (1, .int v1), (2, .int v2), (3, .int v3), (4, .int v4), (5, .int v5)]) F (dAt dk_X6_keeps 67 rfl) 6 rfl (w := 1) (by decide) (by decide) rfl ?_
            refine g_goto (tgt := 38) F (dAt dk_X6_keeps 68 rfl) (by decide) ?_
            refine g_sub (lv' := [(0, .ref (ad 39)), (1, .int v1), (2, .int v2), (3, .int v3), (4, .int v4), (5, .int v5), (6, .int (v6 + 1))]) [1, 2, 3, 4, 5, 6, 0] rfl ?_
            exact ih38 (v1, v2, v3, v4, v5, (v6 + 1), u0) h
          · refine g_aload_n F (dAt dk_X6_keeps 45 rfl) 0 rfl ?_
            refine gg_Model_miles F (gm mw_870 rfl) (dAt dk_X6_keeps 46 rfl) ?_
            refine g_bipush (v := 8) F (dAt dk_X6_keeps 47 rfl) (by decide) ?_
            refine g_iload F (dAt dk_X6_keeps 48 rfl) 5 rfl ?_
            refine g_imul F (dAt dk_X6_keeps 49 rfl) ?_
            refine g_iload F (dAt dk_X6_keeps 50 rfl) 6 rfl ?_
            refine g_iadd F (dAt dk_X6_keeps 51 rfl) ?_
            refine g_ck h (fun hi14 h => ?_)
            refine g_ialoadm F am_miles (dAt dk_X6_keeps 52 rfl) hi14 ?_
            refine g_iload F (dAt dk_X6_keeps 53 rfl) 4 rfl ?_
            refine g_icmp_lt (tgt := 102) F (dAt dk_X6_keeps 54 rfl) (by decide) h (fun c15 h => ?_) (fun c15 h => ?_)
            · refine g_iload F (dAt dk_X6_keeps 56 rfl) 6 rfl ?_
              refine g_istore_n (lv' := [(3, .int v6), (0, .ref (ad 39)), (1, .int v1), (2, .int v2), (4, .int v4), (5, .int v5), (6, .int v6)]) F (dAt dk_X6_keeps 57 rfl) (by decide) rfl ?_
              refine g_aload_n F (dAt dk_X6_keeps 58 rfl) 1 rfl ?_
              refine gg_Model_miles F (gm mw_870 rfl) (dAt dk_X6_keeps 59 rfl) ?_
              refine g_bipush (v := 8) F (dAt dk_X6_keeps 60 rfl) (by decide) ?_
              refine g_iload F (dAt dk_X6_keeps 61 rfl) 5 rfl ?_
              refine g_imul F (dAt dk_X6_keeps 62 rfl) ?_
              refine g_iload F (dAt dk_X6_keeps 63 rfl) 6 rfl ?_
              refine g_iadd F (dAt dk_X6_keeps 64 rfl) ?_
              refine g_ck h (fun hi16 h => ?_)
              refine g_ialoadm F am_miles (dAt dk_X6_keeps 65 rfl) hi16 ?_
              refine g_lti h (fun y17 h => ?_)
              refine g_istore (lv' := [(4, .int y17), (3, .int v6), (0, .ref (ad 39)), (1, .int v1), (2, .int v2), (5, .int v5), (6, .int v6)]) F (dAt dk_X6_keeps 66 rfl) (by decide) rfl ?_
              refine g_iinc (lv' := [(6, .int (v6 + 1)), (4, .int y17), (3, .int v6), (0, .ref (ad 39)), (1, .int v1), (2, .int v2), (5, .int v5)]) F (dAt dk_X6_keeps 67 rfl) 6 rfl (w := 1) (by decide) (by decide) rfl ?_
              refine g_goto (tgt := 38) F (dAt dk_X6_keeps 68 rfl) (by decide) ?_
              refine g_sub (lv' := [(0, .ref (ad 39)), (1, .int v1), (2, .int v2), (3, .int v6), (4, .int y17), (5, .int v5), (6, .int (v6 + 1))]) [3, 4, 5, 2, 1, 6, 0] rfl ?_
              exact ih38 (v1, v2, v6, y17, v5, (v6 + 1), u0) h
            · refine g_goto (tgt := 120) F (dAt dk_X6_keeps 55 rfl) (by decide) ?_
              refine g_iinc (lv' := [(6, .int (v6 + 1)), (0, .ref (ad 39)), (1, .int v1), (2, .int v2), (3, .int v3), (4, .int v4), (5, .int v5)]) F (dAt dk_X6_keeps 67 rfl) 6 rfl (w := 1) (by decide) (by decide) rfl ?_
              refine g_goto (tgt := 38) F (dAt dk_X6_keeps 68 rfl) (by decide) ?_
              refine g_sub (lv' := [(0, .ref (ad 39)), (1, .int v1), (2, .int v2), (3, .int v3), (4, .int v4), (5, .int v5), (6, .int (v6 + 1))]) [1, 2, 3, 4, 5, 6, 0] rfl ?_
              exact ih38 (v1, v2, v3, v4, v5, (v6 + 1), u0) h
  have H26 : ∀ (self4 : Int32 × Int32 × Mem → Option (Int32 × Mem)), (∀ s, self4 s = some (r, u') → G X D ad g t s.2.2 [(0, .ref (ad 39)), (1, .int s.1), (2, .int s.2.1)] 4 []) → ∀ (k : Nat) (s : Int32 × Int32 × Int32 × Int32 × Int32 × Mem), iter (bd_X6_keeps_26 n self4) k s = some (r, u') → G X D ad g t s.2.2.2.2.2 [(0, .ref (ad 39)), (1, .int s.1), (2, .int s.2.1), (3, .int s.2.2.1), (4, .int s.2.2.2.1), (5, .int s.2.2.2.2.1)] 26 [] := by
    intro self4 ih4
    refine iter_walk (P := fun (s : Int32 × Int32 × Int32 × Int32 × Int32 × Mem) => G X D ad g t s.2.2.2.2.2 [(0, .ref (ad 39)), (1, .int s.1), (2, .int s.2.1), (3, .int s.2.2.1), (4, .int s.2.2.2.1), (5, .int s.2.2.2.2.1)] 26 []) (fun self26 ih26 s h => ?_)
    obtain ⟨v1, v2, v3, v4, v5, u0⟩ := s
    change G X D ad g t u0 [(0, .ref (ad 39)), (1, .int v1), (2, .int v2), (3, .int v3), (4, .int v4), (5, .int v5)] 26 []
    unfold bd_X6_keeps_26 at h; try dsimp only at h
    refine g_iload F (dAt dk_X6_keeps 18 rfl) 5 rfl ?_
    refine g_aload_n F (dAt dk_X6_keeps 19 rfl) 0 rfl ?_
    refine gg_Model_places F (gm mw_867 rfl) (dAt dk_X6_keeps 20 rfl) ?_
    refine g_icmp_ge (tgt := 132) F (dAt dk_X6_keeps 21 rfl) (by decide) h (fun c2 h => ?_) (fun c2 h => ?_)
    · refine g_iload_n F (dAt dk_X6_keeps 71 rfl) 3 rfl ?_
      refine g_iconst (v := (-1)) F (dAt dk_X6_keeps 72 rfl) (by decide) ?_
      refine g_icmp_ne (tgt := 151) F (dAt dk_X6_keeps 73 rfl) (by decide) h (fun c3 h => ?_) (fun c3 h => ?_)
      · refine g_iload_n F (dAt dk_X6_keeps 84 rfl) 2 rfl ?_
        refine g_iconst (v := 1) F (dAt dk_X6_keeps 85 rfl) (by decide) ?_
        refine g_iload_n F (dAt dk_X6_keeps 86 rfl) 3 rfl ?_
        refine g_ishl F (dAt dk_X6_keeps 87 rfl) ?_
        refine g_ior F (dAt dk_X6_keeps 88 rfl) ?_
        refine g_lti h (fun y4 h => ?_)
        refine g_istore_n (lv' := [(2, .int y4), (0, .ref (ad 39)), (1, .int v1), (3, .int v3), (4, .int v4), (5, .int v5)]) F (dAt dk_X6_keeps 89 rfl) (by decide) rfl ?_
        refine g_iload_n F (dAt dk_X6_keeps 90 rfl) 2 rfl ?_
        refine g_iload F (dAt dk_X6_keeps 91 rfl) 4 rfl ?_
        refine g_iadd F (dAt dk_X6_keeps 92 rfl) ?_
        refine g_istore_n (lv' := [(1, .int (v1 + v4)), (2, .int y4), (0, .ref (ad 39)), (3, .int v3), (4, .int v4), (5, .int v5)]) F (dAt dk_X6_keeps 93 rfl) (by decide) rfl ?_
        refine g_goto (tgt := 4) F (dAt dk_X6_keeps 94 rfl) (by decide) ?_
        refine g_sub (lv' := [(0, .ref (ad 39)), (1, .int (v1 + v4)), (2, .int y4)]) [2, 0, 1] rfl ?_
        exact ih4 ((v1 + v4), y4, u0) h
      · refine g_iload_n F (dAt dk_X6_keeps 74 rfl) 2 rfl ?_
        refine g_iconst (v := 1) F (dAt dk_X6_keeps 75 rfl) (by decide) ?_
        refine g_iload_n F (dAt dk_X6_keeps 76 rfl) 2 rfl ?_
        refine g_iconst (v := (-1)) F (dAt dk_X6_keeps 77 rfl) (by decide) ?_
        refine g_ixor F (dAt dk_X6_keeps 78 rfl) ?_
        refine g_invS_ip F ms_J6_numberOfTrailingZeros_0f7a4 (gm mw_1153 rfl) (dAt dk_X6_keeps 79 rfl) [.int (v2 ^^^ (-1))] rfl rfl (by decide) (Nat.le_of_ble_eq_true rfl) h (fun _ hf => c_J6_numberOfTrailingZeros_0f7a4 hJ hf) (fun r5 h => ?_)
        refine g_ishl F (dAt dk_X6_keeps 80 rfl) ?_
        refine g_ior F (dAt dk_X6_keeps 81 rfl) ?_
        refine g_lti h (fun y6 h => ?_)
        refine g_istore_n (lv' := [(2, .int y6), (0, .ref (ad 39)), (1, .int v1), (3, .int v3), (4, .int v4), (5, .int v5)]) F (dAt dk_X6_keeps 82 rfl) (by decide) rfl ?_
        refine g_goto (tgt := 4) F (dAt dk_X6_keeps 83 rfl) (by decide) ?_
        refine g_sub (lv' := [(0, .ref (ad 39)), (1, .int v1), (2, .int y6)]) [1, 2, 0] rfl ?_
        exact ih4 (v1, y6, u0) h
    · refine g_iconst (v := 0) F (dAt dk_X6_keeps 22 rfl) (by decide) ?_
      refine g_istore (lv' := [(6, .int 0), (0, .ref (ad 39)), (1, .int v1), (2, .int v2), (3, .int v3), (4, .int v4), (5, .int v5)]) F (dAt dk_X6_keeps 23 rfl) (by decide) rfl ?_
      refine g_sub (lv' := [(0, .ref (ad 39)), (1, .int v1), (2, .int v2), (3, .int v3), (4, .int v4), (5, .int v5), (6, .int 0)]) [1, 2, 3, 4, 5, 6, 0] rfl ?_
      exact H38 self4 ih4 self26 ih26 n (v1, v2, v3, v4, v5, 0, u0) h
  have H4 : ∀ (k : Nat) (s : Int32 × Int32 × Mem), iter (bd_X6_keeps_4 n) k s = some (r, u') → G X D ad g t s.2.2 [(0, .ref (ad 39)), (1, .int s.1), (2, .int s.2.1)] 4 [] := by
    refine iter_walk (P := fun (s : Int32 × Int32 × Mem) => G X D ad g t s.2.2 [(0, .ref (ad 39)), (1, .int s.1), (2, .int s.2.1)] 4 []) (fun self4 ih4 s h => ?_)
    obtain ⟨v1, v2, u0⟩ := s
    change G X D ad g t u0 [(0, .ref (ad 39)), (1, .int v1), (2, .int v2)] 4 []
    unfold bd_X6_keeps_4 at h; try dsimp only at h
    refine g_iload_n F (dAt dk_X6_keeps 4 rfl) 2 rfl ?_
    refine g_iconst (v := 1) F (dAt dk_X6_keeps 5 rfl) (by decide) ?_
    refine g_aload_n F (dAt dk_X6_keeps 6 rfl) 0 rfl ?_
    refine gg_Model_places F (gm mw_867 rfl) (dAt dk_X6_keeps 7 rfl) ?_
    refine g_ishl F (dAt dk_X6_keeps 8 rfl) ?_
    refine g_iconst (v := 1) F (dAt dk_X6_keeps 9 rfl) (by decide) ?_
    refine g_isub F (dAt dk_X6_keeps 10 rfl) ?_
    refine g_icmp_eq (tgt := 165) F (dAt dk_X6_keeps 11 rfl) (by decide) h (fun c1 h => ?_) (fun c1 h => ?_)
    · refine g_iload_n F (dAt dk_X6_keeps 95 rfl) 1 rfl ?_
      cases h
      exact E (dAt dk_X6_keeps 96 rfl) rfl
    · refine g_iconst (v := (-1)) F (dAt dk_X6_keeps 12 rfl) (by decide) ?_
      refine g_istore_n (lv' := [(3, .int (-1)), (0, .ref (ad 39)), (1, .int v1), (2, .int v2)]) F (dAt dk_X6_keeps 13 rfl) (by decide) rfl ?_
      refine g_sipush (v := 10000) F (dAt dk_X6_keeps 14 rfl) (by decide) ?_
      refine g_istore (lv' := [(4, .int 10000), (3, .int (-1)), (0, .ref (ad 39)), (1, .int v1), (2, .int v2)]) F (dAt dk_X6_keeps 15 rfl) (by decide) rfl ?_
      refine g_iconst (v := 0) F (dAt dk_X6_keeps 16 rfl) (by decide) ?_
      refine g_istore (lv' := [(5, .int 0), (4, .int 10000), (3, .int (-1)), (0, .ref (ad 39)), (1, .int v1), (2, .int v2)]) F (dAt dk_X6_keeps 17 rfl) (by decide) rfl ?_
      refine g_sub (lv' := [(0, .ref (ad 39)), (1, .int v1), (2, .int v2), (3, .int (-1)), (4, .int 10000), (5, .int 0)]) [3, 4, 5, 2, 1, 0] rfl ?_
      exact H26 self4 ih4 n (v1, v2, (-1), 10000, 0, u0) h
  refine g_lv (lv' := [(0, .ref (ad 39))]) rfl ?_
  unfold f_X6_keeps at h
  refine g_iconst (v := 0) F (dAt dk_X6_keeps 0 rfl) (by decide) ?_
  refine g_istore_n (lv' := [(1, .int 0), (0, .ref (ad 39))]) F (dAt dk_X6_keeps 1 rfl) (by decide) rfl ?_
  refine g_iconst (v := 0) F (dAt dk_X6_keeps 2 rfl) (by decide) ?_
  refine g_istore_n (lv' := [(2, .int 0), (1, .int 0), (0, .ref (ad 39))]) F (dAt dk_X6_keeps 3 rfl) (by decide) rfl ?_
  refine g_sub (lv' := [(0, .ref (ad 39)), (1, .int 0), (2, .int 0)]) [2, 1, 0] rfl ?_
  exact H4  n (0, 0, u) h
theorem mi_X6_whole : MI yX6_whole cX6_whole 6 (some .int) "MillOfDistancesModel" 1 := ⟨(gm mw_1141 rfl), (gm mw_1139 rfl), (gm mw_1140 rfl), (gm mw_75 rfl), by decide +kernel, by decide⟩
theorem c_X6_whole {l : Launch} {D : va_G} {ad : Nat → Nat} {g : Gv} {t u : Mem} {n : Nat} {x1 : Int32} {u' : Mem} {r : Int32} (hJ : Jad ad) (h : f_X6_whole n x1 u = some (r, u')) : ConI l yX6_whole cX6_whole 6 (some .int) 2 [.ref (ad 39), .int x1] D ad g t u t u' r := by
  refine con_i hJ (by decide) (Nat.le_of_ble_eq_true rfl) rfl (fun X F E => ?_)
  have J21 : ∀ (u0 : Mem), jn_X6_whole_21 n x1 u0 = some (r, u') → G X D ad g t u0 [(0, .ref (ad 39))] 21 [] := by
    intro u0 h
    unfold jn_X6_whole_21 at h
    refine g_aload_n F (dAt dk_X6_whole 11 rfl) 0 rfl ?_
    refine g_bipush (v := (-5)) F (dAt dk_X6_whole 12 rfl) (by decide) ?_
    refine g_invV_im F mi_X6_no (gm mw_938 rfl) (dAt dk_X6_whole 13 rfl) (rcx_of F rc_Model) [.int (-5)] rfl rfl (by decide) (Nat.le_of_ble_eq_true rfl) h (fun _ _ hf => c_X6_no hJ hf) (fun r5 t6 h => ?_)
    cases h
    exact E (dAt dk_X6_whole 14 rfl) rfl
  have H87 : ∀ (self58 : Int32 × Int32 × Int32 × Mem → Option (Int32 × Mem)), (∀ s, self58 s = some (r, u') → G X D ad g t s.2.2.2 [(0, .ref (ad 39)), (1, .int x1), (2, .int s.1), (3, .int s.2.1), (4, .int s.2.2.1)] 58 []) → ∀ (k : Nat) (s : Int32 × Int32 × Int32 × Int32 × Mem), iter (bd_X6_whole_87 n x1 self58) k s = some (r, u') → G X D ad g t s.2.2.2.2 [(0, .ref (ad 39)), (1, .int x1), (2, .int s.1), (3, .int s.2.1), (4, .int s.2.2.1), (5, .int s.2.2.2.1)] 87 [] := by
    intro self58 ih58
    refine iter_walk (P := fun (s : Int32 × Int32 × Int32 × Int32 × Mem) => G X D ad g t s.2.2.2.2 [(0, .ref (ad 39)), (1, .int x1), (2, .int s.1), (3, .int s.2.1), (4, .int s.2.2.1), (5, .int s.2.2.2.1)] 87 []) (fun self87 ih87 s h => ?_)
    obtain ⟨v2, v3, v4, v5, u0⟩ := s
    change G X D ad g t u0 [(0, .ref (ad 39)), (1, .int x1), (2, .int v2), (3, .int v3), (4, .int v4), (5, .int v5)] 87 []
    unfold bd_X6_whole_87 at h; try dsimp only at h
    refine g_iload F (dAt dk_X6_whole 49 rfl) 5 rfl ?_
    refine g_aload_n F (dAt dk_X6_whole 50 rfl) 0 rfl ?_
    refine gg_Model_places F (gm mw_867 rfl) (dAt dk_X6_whole 51 rfl) ?_
    refine g_icmp_ge (tgt := 115) F (dAt dk_X6_whole 52 rfl) (by decide) h (fun c21 h => ?_) (fun c21 h => ?_)
    · refine g_iinc (lv' := [(4, .int (v4 + 1)), (0, .ref (ad 39)), (1, .int x1), (2, .int v2), (3, .int v3), (5, .int v5)]) F (dAt dk_X6_whole 62 rfl) 4 rfl (w := 1) (by decide) (by decide) rfl ?_
      refine g_goto (tgt := 58) F (dAt dk_X6_whole 63 rfl) (by decide) ?_
      refine g_sub (lv' := [(0, .ref (ad 39)), (1, .int x1), (2, .int v2), (3, .int v3), (4, .int (v4 + 1))]) [1, 2, 3, 4, 0] rfl ?_
      exact ih58 (v2, v3, (v4 + 1), u0) h
    · refine g_iload_n F (dAt dk_X6_whole 53 rfl) 3 rfl ?_
      refine g_aload_n F (dAt dk_X6_whole 54 rfl) 0 rfl ?_
      refine g_iload F (dAt dk_X6_whole 55 rfl) 4 rfl ?_
      refine g_iload F (dAt dk_X6_whole 56 rfl) 5 rfl ?_
      refine g_invV_im F mi_X6_farTold (gm mw_1122 rfl) (dAt dk_X6_whole 57 rfl) (rcx_of F rc_Model) [.int v4, .int v5] rfl rfl (by decide) (Nat.le_of_ble_eq_true rfl) h (fun _ _ hf => c_X6_farTold hJ hf) (fun r22 t23 h => ?_)
      refine g_mmax F (gm mw_993 rfl) (dAt dk_X6_whole 58 rfl) (by decide) (Nat.le_of_ble_eq_true rfl) h (fun r24 h => ?_)
      refine g_istore_n (lv' := [(3, .int r24), (0, .ref (ad 39)), (1, .int x1), (2, .int v2), (4, .int v4), (5, .int v5)]) F (dAt dk_X6_whole 59 rfl) (by decide) rfl ?_
      refine g_iinc (lv' := [(5, .int (v5 + 1)), (3, .int r24), (0, .ref (ad 39)), (1, .int x1), (2, .int v2), (4, .int v4)]) F (dAt dk_X6_whole 60 rfl) 5 rfl (w := 1) (by decide) (by decide) rfl ?_
      refine g_goto (tgt := 87) F (dAt dk_X6_whole 61 rfl) (by decide) ?_
      refine g_sub (lv' := [(0, .ref (ad 39)), (1, .int x1), (2, .int v2), (3, .int r24), (4, .int v4), (5, .int (v5 + 1))]) [2, 3, 4, 1, 5, 0] rfl ?_
      exact ih87 (v2, r24, v4, (v5 + 1), t23) h
  have J84 : ∀ (self58 : Int32 × Int32 × Int32 × Mem → Option (Int32 × Mem)), (∀ s, self58 s = some (r, u') → G X D ad g t s.2.2.2 [(0, .ref (ad 39)), (1, .int x1), (2, .int s.1), (3, .int s.2.1), (4, .int s.2.2.1)] 58 []) → ∀ (v2 : Int32) (v3 : Int32) (v4 : Int32) (u0 : Mem), jn_X6_whole_84 n x1 self58 v2 v3 v4 u0 = some (r, u') → G X D ad g t u0 [(0, .ref (ad 39)), (1, .int x1), (2, .int v2), (3, .int v3), (4, .int v4)] 84 [] := by
    intro self58 ih58 v2 v3 v4 u0 h
    unfold jn_X6_whole_84 at h
    refine g_iconst (v := 0) F (dAt dk_X6_whole 47 rfl) (by decide) ?_
    refine g_istore (lv' := [(5, .int 0), (0, .ref (ad 39)), (1, .int x1), (2, .int v2), (3, .int v3), (4, .int v4)]) F (dAt dk_X6_whole 48 rfl) (by decide) rfl ?_
    refine g_sub (lv' := [(0, .ref (ad 39)), (1, .int x1), (2, .int v2), (3, .int v3), (4, .int v4), (5, .int 0)]) [1, 2, 3, 4, 5, 0] rfl ?_
    exact H87 self58 ih58 n (v2, v3, v4, 0, u0) h
  have H58 : ∀ (k : Nat) (s : Int32 × Int32 × Int32 × Mem), iter (bd_X6_whole_58 n x1) k s = some (r, u') → G X D ad g t s.2.2.2 [(0, .ref (ad 39)), (1, .int x1), (2, .int s.1), (3, .int s.2.1), (4, .int s.2.2.1)] 58 [] := by
    refine iter_walk (P := fun (s : Int32 × Int32 × Int32 × Mem) => G X D ad g t s.2.2.2 [(0, .ref (ad 39)), (1, .int x1), (2, .int s.1), (3, .int s.2.1), (4, .int s.2.2.1)] 58 []) (fun self58 ih58 s h => ?_)
    obtain ⟨v2, v3, v4, u0⟩ := s
    change G X D ad g t u0 [(0, .ref (ad 39)), (1, .int x1), (2, .int v2), (3, .int v3), (4, .int v4)] 58 []
    unfold bd_X6_whole_58 at h; try dsimp only at h
    refine g_iload F (dAt dk_X6_whole 34 rfl) 4 rfl ?_
    refine g_aload_n F (dAt dk_X6_whole 35 rfl) 0 rfl ?_
    refine gg_Model_places F (gm mw_867 rfl) (dAt dk_X6_whole 36 rfl) ?_
    refine g_icmp_ge (tgt := 121) F (dAt dk_X6_whole 37 rfl) (by decide) h (fun c14 h => ?_) (fun c14 h => ?_)
    · refine g_iload_n F (dAt dk_X6_whole 64 rfl) 1 rfl ?_
      refine g_iconst (v := 1) F (dAt dk_X6_whole 65 rfl) (by decide) ?_
      refine g_icmp_ne (tgt := 130) F (dAt dk_X6_whole 66 rfl) (by decide) h (fun c15 h => ?_) (fun c15 h => ?_)
      · refine g_iload_n F (dAt dk_X6_whole 69 rfl) 3 rfl ?_
        cases h
        exact E (dAt dk_X6_whole 70 rfl) rfl
      · refine g_iload_n F (dAt dk_X6_whole 67 rfl) 2 rfl ?_
        refine g_goto (tgt := 131) F (dAt dk_X6_whole 68 rfl) (by decide) ?_
        cases h
        exact E (dAt dk_X6_whole 70 rfl) rfl
    · refine g_aload_n F (dAt dk_X6_whole 38 rfl) 0 rfl ?_
      refine g_iload F (dAt dk_X6_whole 39 rfl) 4 rfl ?_
      refine g_invV_im F mi_X6_farthest (gm mw_1157 rfl) (dAt dk_X6_whole 40 rfl) (rcx_of F rc_Model) [.int v4] rfl rfl (by decide) (Nat.le_of_ble_eq_true rfl) h (fun _ _ hf => c_X6_farthest hJ hf) (fun r16 t17 h => ?_)
      refine g_aload_n F (dAt dk_X6_whole 41 rfl) 0 rfl ?_
      refine g_iload_n F (dAt dk_X6_whole 42 rfl) 2 rfl ?_
      refine g_invV_im F mi_X6_farthest (gm mw_1157 rfl) (dAt dk_X6_whole 43 rfl) (rcx_of F rc_Model) [.int v2] rfl rfl (by decide) (Nat.le_of_ble_eq_true rfl) h (fun _ _ hf => c_X6_farthest hJ hf) (fun r18 t19 h => ?_)
      refine g_icmp_ge (tgt := 84) F (dAt dk_X6_whole 44 rfl) (by decide) h (fun c20 h => ?_) (fun c20 h => ?_)
      · refine g_sub (lv' := [(0, .ref (ad 39)), (1, .int x1), (2, .int v2), (3, .int v3), (4, .int v4)]) [0, 1, 2, 3, 4] rfl ?_
        exact J84 self58 ih58 v2 v3 v4 t19 h
      · refine g_iload F (dAt dk_X6_whole 45 rfl) 4 rfl ?_
        refine g_istore_n (lv' := [(2, .int v4), (0, .ref (ad 39)), (1, .int x1), (3, .int v3), (4, .int v4)]) F (dAt dk_X6_whole 46 rfl) (by decide) rfl ?_
        refine g_sub (lv' := [(0, .ref (ad 39)), (1, .int x1), (2, .int v4), (3, .int v3), (4, .int v4)]) [1, 2, 0, 3, 4] rfl ?_
        exact J84 self58 ih58 v4 v3 v4 t19 h
  have J28 : ∀ (u0 : Mem), jn_X6_whole_28 n x1 u0 = some (r, u') → G X D ad g t u0 [(0, .ref (ad 39)), (1, .int x1)] 28 [] := by
    intro u0 h
    unfold jn_X6_whole_28 at h
    refine g_aload_n F (dAt dk_X6_whole 15 rfl) 0 rfl ?_
    refine g_invV_vm F mi_X6_walk (gm mw_1118 rfl) (dAt dk_X6_whole 16 rfl) (rcx_of F rc_Model) [] rfl rfl (by decide) (Nat.le_of_ble_eq_true rfl) h (fun _ _ hf => c_X6_walk hJ hf) (fun _ t7 h => ?_)
    refine g_iload_n F (dAt dk_X6_whole 17 rfl) 1 rfl ?_
    refine g_if_ne (tgt := 41) F (dAt dk_X6_whole 18 rfl) (by decide) h (fun c8 h => ?_) (fun c8 h => ?_)
    · refine g_iload_n F (dAt dk_X6_whole 22 rfl) 1 rfl ?_
      refine g_iconst (v := 3) F (dAt dk_X6_whole 23 rfl) (by decide) ?_
      refine g_icmp_ne (tgt := 51) F (dAt dk_X6_whole 24 rfl) (by decide) h (fun c9 h => ?_) (fun c9 h => ?_)
      · refine g_iconst (v := 0) F (dAt dk_X6_whole 28 rfl) (by decide) ?_
        refine g_istore_n (lv' := [(2, .int 0), (0, .ref (ad 39)), (1, .int x1)]) F (dAt dk_X6_whole 29 rfl) (by decide) rfl ?_
        refine g_iconst (v := 0) F (dAt dk_X6_whole 30 rfl) (by decide) ?_
        refine g_istore_n (lv' := [(3, .int 0), (2, .int 0), (0, .ref (ad 39)), (1, .int x1)]) F (dAt dk_X6_whole 31 rfl) (by decide) rfl ?_
        refine g_iconst (v := 0) F (dAt dk_X6_whole 32 rfl) (by decide) ?_
        refine g_istore (lv' := [(4, .int 0), (3, .int 0), (2, .int 0), (0, .ref (ad 39)), (1, .int x1)]) F (dAt dk_X6_whole 33 rfl) (by decide) rfl ?_
        refine g_sub (lv' := [(0, .ref (ad 39)), (1, .int x1), (2, .int 0), (3, .int 0), (4, .int 0)]) [3, 4, 2, 1, 0] rfl ?_
        exact H58  n (0, 0, 0, t7) h
      · refine g_aload_n F (dAt dk_X6_whole 25 rfl) 0 rfl ?_
        refine g_invV_im F mi_X6_keeps (gm mw_1146 rfl) (dAt dk_X6_whole 26 rfl) (rcx_of F rc_Model) [] rfl rfl (by decide) (Nat.le_of_ble_eq_true rfl) h (fun _ _ hf => c_X6_keeps hJ hf) (fun r10 t11 h => ?_)
        cases h
        exact E (dAt dk_X6_whole 27 rfl) rfl
    · refine g_aload_n F (dAt dk_X6_whole 19 rfl) 0 rfl ?_
      refine g_invV_im F mi_X6_parts (gm mw_1142 rfl) (dAt dk_X6_whole 20 rfl) (rcx_of F rc_Model) [] rfl rfl (by decide) (Nat.le_of_ble_eq_true rfl) h (fun _ _ hf => c_X6_parts hJ hf) (fun r12 t13 h => ?_)
      cases h
      exact E (dAt dk_X6_whole 21 rfl) rfl
  refine g_lv (lv' := [(0, .ref (ad 39)), (1, .int x1)]) rfl ?_
  unfold f_X6_whole at h
  refine g_iload_n F (dAt dk_X6_whole 0 rfl) 1 rfl ?_
  refine g_iconst (v := 0) F (dAt dk_X6_whole 1 rfl) (by decide) ?_
  refine g_iconst (v := 3) F (dAt dk_X6_whole 2 rfl) (by decide) ?_
  refine g_invS_ip F ms_X6_within (gm mw_935 rfl) (dAt dk_X6_whole 3 rfl) [.int x1, .int 0, .int 3] rfl rfl (by decide) (Nat.le_of_ble_eq_true rfl) h (fun _ hf => c_X6_within hJ hf) (fun r1 h => ?_)
  refine g_if_eq (tgt := 21) F (dAt dk_X6_whole 4 rfl) (by decide) h (fun c2 h => ?_) (fun c2 h => ?_)
  · refine g_sub (lv' := [(0, .ref (ad 39))]) [0] rfl ?_
    exact J21  u h
  · refine g_iload_n F (dAt dk_X6_whole 5 rfl) 1 rfl ?_
    refine g_iconst (v := 1) F (dAt dk_X6_whole 6 rfl) (by decide) ?_
    refine g_icmp_ne (tgt := 28) F (dAt dk_X6_whole 7 rfl) (by decide) h (fun c3 h => ?_) (fun c3 h => ?_)
    · refine g_sub (lv' := [(0, .ref (ad 39)), (1, .int x1)]) [0, 1] rfl ?_
      exact J28  u h
    · refine g_aload_n F (dAt dk_X6_whole 8 rfl) 0 rfl ?_
      refine gg_Model_places F (gm mw_867 rfl) (dAt dk_X6_whole 9 rfl) ?_
      refine g_if_ne (tgt := 28) F (dAt dk_X6_whole 10 rfl) (by decide) h (fun c4 h => ?_) (fun c4 h => ?_)
      · refine g_sub (lv' := [(0, .ref (ad 39)), (1, .int x1)]) [0, 1] rfl ?_
        exact J28  u h
      · refine g_sub (lv' := [(0, .ref (ad 39))]) [0] rfl ?_
        exact J21  u h
theorem mi_X6_harmOf : MI yX6_harmOf cX6_harmOf 7 (some .int) "MillOfDistancesModel" 2 := ⟨(gm mw_1168 rfl), (gm mw_1167 rfl), (gm mw_55 rfl), (gm mw_75 rfl), by decide +kernel, by decide⟩
theorem c_X6_harmOf {l : Launch} {D : va_G} {ad : Nat → Nat} {g : Gv} {t u : Mem} {n : Nat} {x1 : Int32} {x2 : Int32} {u' : Mem} {r : Int32} (hJ : Jad ad) (h : f_X6_harmOf n x1 x2 u = some (r, u')) : ConI l yX6_harmOf cX6_harmOf 7 (some .int) 2 [.ref (ad 39), .int x1, .int x2] D ad g t u t u' r := by
  refine con_i hJ (by decide) (Nat.le_of_ble_eq_true rfl) rfl (fun X F E => ?_)
  have H68 : ∀ (self56 : Int32 × Int32 × Mem → Option (Int32 × Mem)), (∀ s, self56 s = some (r, u') → G X D ad g t s.2.2 [(0, .ref (ad 39)), (4, .int s.1), (5, .int s.2.1)] 56 []) → ∀ (k : Nat) (s : Int32 × Int32 × Int32 × Mem), iter (bd_X6_harmOf_68 n x1 x2 self56) k s = some (r, u') → G X D ad g t s.2.2.2 [(0, .ref (ad 39)), (4, .int s.1), (5, .int s.2.1), (6, .int s.2.2.1)] 68 [] := by
    intro self56 ih56
    refine iter_walk (P := fun (s : Int32 × Int32 × Int32 × Mem) => G X D ad g t s.2.2.2 [(0, .ref (ad 39)), (4, .int s.1), (5, .int s.2.1), (6, .int s.2.2.1)] 68 []) (fun self68 ih68 s h => ?_)
    obtain ⟨v4, v5, v6, u0⟩ := s
    change G X D ad g t u0 [(0, .ref (ad 39)), (4, .int v4), (5, .int v5), (6, .int v6)] 68 []
    unfold bd_X6_harmOf_68 at h; try dsimp only at h
    refine g_iload F (dAt dk_X6_harmOf 41 rfl) 3 rfl ?_
    refine g_iload F (dAt dk_X6_harmOf 42 rfl) 2 rfl ?_
    refine g_icmp_ge (tgt := 113) F (dAt dk_X6_harmOf 43 rfl) (by decide) h (fun c12 h => ?_) (fun c12 h => ?_)
    · refine g_iinc (lv' := [(5, .int (v5 + 1)), (0, .ref (ad 39)), (4, .int v4), (6, .int v6)]) F (dAt dk_X6_harmOf 66 rfl) 2 rfl (w := 1) (by decide) (by decide) rfl ?_
      refine g_goto (tgt := 56) F (dAt dk_X6_harmOf 67 rfl) (by decide) ?_
      refine g_sub (lv' := [(0, .ref (ad 39)), (4, .int v4), (5, .int (v5 + 1))]) [1, 2, 0] rfl ?_
      exact ih56 (v4, (v5 + 1), u0) h
    · refine g_iload F (dAt dk_X6_harmOf 44 rfl) 1 rfl ?_
      refine g_aload_n F (dAt dk_X6_harmOf 45 rfl) 0 rfl ?_
      refine gg_Model_far F (gm mw_884 rfl) (dAt dk_X6_harmOf 46 rfl) ?_
      refine g_bipush (v := 8) F (dAt dk_X6_harmOf 47 rfl) (by decide) ?_
      refine g_iload F (dAt dk_X6_harmOf 48 rfl) 2 rfl ?_
      refine g_imul F (dAt dk_X6_harmOf 49 rfl) ?_
      refine g_iload F (dAt dk_X6_harmOf 50 rfl) 3 rfl ?_
      refine g_iadd F (dAt dk_X6_harmOf 51 rfl) ?_
      refine g_ck h (fun hi13 h => ?_)
      refine g_ialoadm F am_far (dAt dk_X6_harmOf 52 rfl) hi13 ?_
      refine g_aload_n F (dAt dk_X6_harmOf 53 rfl) 0 rfl ?_
      refine gg_Model_was F (gm mw_885 rfl) (dAt dk_X6_harmOf 54 rfl) ?_
      refine g_bipush (v := 8) F (dAt dk_X6_harmOf 55 rfl) (by decide) ?_
      refine g_iload F (dAt dk_X6_harmOf 56 rfl) 2 rfl ?_
      refine g_imul F (dAt dk_X6_harmOf 57 rfl) ?_
      refine g_iload F (dAt dk_X6_harmOf 58 rfl) 3 rfl ?_
      refine g_iadd F (dAt dk_X6_harmOf 59 rfl) ?_
      refine g_ck h (fun hi14 h => ?_)
      refine g_ialoadm F am_was (dAt dk_X6_harmOf 60 rfl) hi14 ?_
      refine g_isub F (dAt dk_X6_harmOf 61 rfl) ?_
      refine g_iadd F (dAt dk_X6_harmOf 62 rfl) ?_
      refine g_lti h (fun y15 h => ?_)
      refine g_istore (lv' := [(4, .int y15), (0, .ref (ad 39)), (5, .int v5), (6, .int v6)]) F (dAt dk_X6_harmOf 63 rfl) (by decide) rfl ?_
      refine g_iinc (lv' := [(6, .int (v6 + 1)), (4, .int y15), (0, .ref (ad 39)), (5, .int v5)]) F (dAt dk_X6_harmOf 64 rfl) 3 rfl (w := 1) (by decide) (by decide) rfl ?_
      refine g_goto (tgt := 68) F (dAt dk_X6_harmOf 65 rfl) (by decide) ?_
      refine g_sub (lv' := [(0, .ref (ad 39)), (4, .int y15), (5, .int v5), (6, .int (v6 + 1))]) [2, 1, 3, 0] rfl ?_
      exact ih68 (y15, v5, (v6 + 1), u0) h
  have H56 : ∀ (k : Nat) (s : Int32 × Int32 × Mem), iter (bd_X6_harmOf_56 n x1 x2) k s = some (r, u') → G X D ad g t s.2.2 [(0, .ref (ad 39)), (4, .int s.1), (5, .int s.2.1)] 56 [] := by
    refine iter_walk (P := fun (s : Int32 × Int32 × Mem) => G X D ad g t s.2.2 [(0, .ref (ad 39)), (4, .int s.1), (5, .int s.2.1)] 56 []) (fun self56 ih56 s h => ?_)
    obtain ⟨v4, v5, u0⟩ := s
    change G X D ad g t u0 [(0, .ref (ad 39)), (4, .int v4), (5, .int v5)] 56 []
    unfold bd_X6_harmOf_56 at h; try dsimp only at h
    refine g_iload F (dAt dk_X6_harmOf 35 rfl) 2 rfl ?_
    refine g_aload_n F (dAt dk_X6_harmOf 36 rfl) 0 rfl ?_
    refine gg_Model_places F (gm mw_867 rfl) (dAt dk_X6_harmOf 37 rfl) ?_
    refine g_icmp_ge (tgt := 119) F (dAt dk_X6_harmOf 38 rfl) (by decide) h (fun c11 h => ?_) (fun c11 h => ?_)
    · refine g_iload F (dAt dk_X6_harmOf 68 rfl) 1 rfl ?_
      cases h
      exact E (dAt dk_X6_harmOf 69 rfl) rfl
    · refine g_iconst (v := 0) F (dAt dk_X6_harmOf 39 rfl) (by decide) ?_
      refine g_istore (lv' := [(6, .int 0), (0, .ref (ad 39)), (4, .int v4), (5, .int v5)]) F (dAt dk_X6_harmOf 40 rfl) (by decide) rfl ?_
      refine g_sub (lv' := [(0, .ref (ad 39)), (4, .int v4), (5, .int v5), (6, .int 0)]) [1, 2, 3, 0] rfl ?_
      exact H68 self56 ih56 n (v4, v5, 0, u0) h
  have H6 : ∀ (k : Nat) (s : Int32 × Mem), iter (bd_X6_harmOf_6 n x1 x2) k s = some (r, u') → G X D ad g t s.2 [(0, .ref (ad 39)), (1, .int x1), (2, .int x2), (3, .int s.1)] 6 [] := by
    refine iter_walk (P := fun (s : Int32 × Mem) => G X D ad g t s.2 [(0, .ref (ad 39)), (1, .int x1), (2, .int x2), (3, .int s.1)] 6 []) (fun self6 ih6 s h => ?_)
    obtain ⟨v3, u0⟩ := s
    change G X D ad g t u0 [(0, .ref (ad 39)), (1, .int x1), (2, .int x2), (3, .int v3)] 6 []
    unfold bd_X6_harmOf_6 at h; try dsimp only at h
    refine g_iload_n F (dAt dk_X6_harmOf 4 rfl) 3 rfl ?_
    refine g_bipush (v := 64) F (dAt dk_X6_harmOf 5 rfl) (by decide) ?_
    refine g_icmp_ge (tgt := 30) F (dAt dk_X6_harmOf 6 rfl) (by decide) h (fun c2 h => ?_) (fun c2 h => ?_)
    · refine g_aload_n F (dAt dk_X6_harmOf 17 rfl) 0 rfl ?_
      refine g_iload_n F (dAt dk_X6_harmOf 18 rfl) 1 rfl ?_
      refine g_iload_n F (dAt dk_X6_harmOf 19 rfl) 2 rfl ?_
      refine g_iconst (v := 0) F (dAt dk_X6_harmOf 20 rfl) (by decide) ?_
      refine g_invV_im F mi_X6_lay (gm mw_1010 rfl) (dAt dk_X6_harmOf 21 rfl) (rcx_of F rc_Model) [.int x1, .int x2, .int 0] rfl rfl (by decide) (Nat.le_of_ble_eq_true rfl) h (fun _ _ hf => c_X6_lay hJ hf) (fun r3 t4 h => ?_)
      refine g_istore_n (lv' := [(3, .int r3), (0, .ref (ad 39)), (1, .int x1), (2, .int x2)]) F (dAt dk_X6_harmOf 22 rfl) (by decide) rfl ?_
      refine g_aload_n F (dAt dk_X6_harmOf 23 rfl) 1 rfl ?_
      refine g_invV_vm F mi_X6_walk (gm mw_1118 rfl) (dAt dk_X6_harmOf 24 rfl) (rcx_of F rc_Model) [] rfl rfl (by decide) (Nat.le_of_ble_eq_true rfl) h (fun _ _ hf => c_X6_walk hJ hf) (fun _ t5 h => ?_)
      refine g_aload_n F (dAt dk_X6_harmOf 25 rfl) 1 rfl ?_
      refine g_iload_n F (dAt dk_X6_harmOf 26 rfl) 2 rfl ?_
      refine g_iload_n F (dAt dk_X6_harmOf 27 rfl) 3 rfl ?_
      refine g_iload_n F (dAt dk_X6_harmOf 28 rfl) 0 rfl ?_
      refine g_invV_im F mi_X6_lay (gm mw_1010 rfl) (dAt dk_X6_harmOf 29 rfl) (rcx_of F rc_Model) [.int x1, .int x2, .int r3] rfl rfl (by decide) (Nat.le_of_ble_eq_true rfl) h (fun _ _ hf => c_X6_lay hJ hf) (fun r6 t7 h => ?_)
      refine g_pop F (dAt dk_X6_harmOf 30 rfl) rfl ?_
      refine g_iconst (v := 0) F (dAt dk_X6_harmOf 31 rfl) (by decide) ?_
      refine g_istore (lv' := [(4, .int 0), (3, .int r3), (0, .ref (ad 39)), (1, .int x1), (2, .int x2)]) F (dAt dk_X6_harmOf 32 rfl) (by decide) rfl ?_
      refine g_iconst (v := 0) F (dAt dk_X6_harmOf 33 rfl) (by decide) ?_
      refine g_istore (lv' := [(5, .int 0), (4, .int 0), (3, .int r3), (0, .ref (ad 39)), (1, .int x1), (2, .int x2)]) F (dAt dk_X6_harmOf 34 rfl) (by decide) rfl ?_
      refine g_sub (lv' := [(0, .ref (ad 39)), (4, .int 0), (5, .int 0)]) [3, 1, 0] rfl ?_
      exact H56  n (0, 0, t7) h
    · refine g_aload_n F (dAt dk_X6_harmOf 7 rfl) 0 rfl ?_
      refine gg_Model_was F (gm mw_885 rfl) (dAt dk_X6_harmOf 8 rfl) ?_
      refine g_iload_n F (dAt dk_X6_harmOf 9 rfl) 3 rfl ?_
      refine g_aload_n F (dAt dk_X6_harmOf 10 rfl) 0 rfl ?_
      refine gg_Model_far F (gm mw_884 rfl) (dAt dk_X6_harmOf 11 rfl) ?_
      refine g_iload_n F (dAt dk_X6_harmOf 12 rfl) 3 rfl ?_
      refine g_ck h (fun hi8 h => ?_)
      refine g_ialoadm F am_far (dAt dk_X6_harmOf 13 rfl) hi8 ?_
      refine g_ck h (fun hi9 h => ?_)
      refine g_iastorem F am_was (dAt dk_X6_harmOf 14 rfl) hi9 ?_
      refine g_ltu h (fun t10 h => ?_)
      refine g_iinc (lv' := [(3, .int (v3 + 1)), (0, .ref (ad 39)), (1, .int x1), (2, .int x2)]) F (dAt dk_X6_harmOf 15 rfl) 3 rfl (w := 1) (by decide) (by decide) rfl ?_
      refine g_goto (tgt := 6) F (dAt dk_X6_harmOf 16 rfl) (by decide) ?_
      refine g_sub (lv' := [(0, .ref (ad 39)), (1, .int x1), (2, .int x2), (3, .int (v3 + 1))]) [1, 2, 3, 0] rfl ?_
      exact ih6 ((v3 + 1), t10) h
  refine g_lv (lv' := [(0, .ref (ad 39)), (1, .int x1), (2, .int x2)]) rfl ?_
  unfold f_X6_harmOf at h
  refine g_aload_n F (dAt dk_X6_harmOf 0 rfl) 0 rfl ?_
  refine g_invV_vm F mi_X6_walk (gm mw_1118 rfl) (dAt dk_X6_harmOf 1 rfl) (rcx_of F rc_Model) [] rfl rfl (by decide) (Nat.le_of_ble_eq_true rfl) h (fun _ _ hf => c_X6_walk hJ hf) (fun _ t1 h => ?_)
  refine g_iconst (v := 0) F (dAt dk_X6_harmOf 2 rfl) (by decide) ?_
  refine g_istore_n (lv' := [(3, .int 0), (0, .ref (ad 39)), (1, .int x1), (2, .int x2)]) F (dAt dk_X6_harmOf 3 rfl) (by decide) rfl ?_
  refine g_sub (lv' := [(0, .ref (ad 39)), (1, .int x1), (2, .int x2), (3, .int 0)]) [1, 2, 3, 0] rfl ?_
  exact H6  n (0, t1) h
theorem mi_X6_harm : MI yX6_harm cX6_harm 7 (some .int) "MillOfDistancesModel" 3 := ⟨(gm mw_1164 rfl), (gm mw_1162 rfl), (gm mw_1163 rfl), (gm mw_75 rfl), by decide +kernel, by decide⟩
theorem c_X6_harm {l : Launch} {D : va_G} {ad : Nat → Nat} {g : Gv} {t u : Mem} {n : Nat} {x1 : Int32} {x2 : Int32} {x3 : Int32} {u' : Mem} {r : Int32} (hJ : Jad ad) (h : f_X6_harm n x1 x2 x3 u = some (r, u')) : ConI l yX6_harm cX6_harm 7 (some .int) 3 [.ref (ad 39), .int x1, .int x2, .int x3] D ad g t u t u' r := by
  refine con_i hJ (by decide) (Nat.le_of_ble_eq_true rfl) rfl (fun X F E => ?_)
  have J16 : ∀ (u0 : Mem), jn_X6_harm_16 n x1 x2 x3 u0 = some (r, u') → G X D ad g t u0 [(0, .ref (ad 39))] 16 [] := by
    intro u0 h
    unfold jn_X6_harm_16 at h
    refine g_aload_n F (dAt dk_X6_harm 8 rfl) 0 rfl ?_
    refine g_iconst (v := (-1)) F (dAt dk_X6_harm 9 rfl) (by decide) ?_
    refine g_invV_im F mi_X6_no (gm mw_938 rfl) (dAt dk_X6_harm 10 rfl) (rcx_of F rc_Model) [.int (-1)] rfl rfl (by decide) (Nat.le_of_ble_eq_true rfl) h (fun _ _ hf => c_X6_no hJ hf) (fun r19 t20 h => ?_)
    cases h
    exact E (dAt dk_X6_harm 11 rfl) rfl
  have H75 : ∀ (k : Nat) (s : Int32 × Int32 × Mem), iter (bd_X6_harm_75 n x1 x2 x3) k s = some (r, u') → G X D ad g t s.2.2 [(0, .ref (ad 39)), (1, .int x1), (5, .int s.1), (6, .int s.2.1)] 75 [] := by
    refine iter_walk (P := fun (s : Int32 × Int32 × Mem) => G X D ad g t s.2.2 [(0, .ref (ad 39)), (1, .int x1), (5, .int s.1), (6, .int s.2.1)] 75 []) (fun self75 ih75 s h => ?_)
    obtain ⟨v5, v6, u0⟩ := s
    change G X D ad g t u0 [(0, .ref (ad 39)), (1, .int x1), (5, .int v5), (6, .int v6)] 75 []
    unfold bd_X6_harm_75 at h; try dsimp only at h
    refine g_iload F (dAt dk_X6_harm 43 rfl) 3 rfl ?_
    refine g_aload_n F (dAt dk_X6_harm 44 rfl) 0 rfl ?_
    refine gg_Model_places F (gm mw_867 rfl) (dAt dk_X6_harm 45 rfl) ?_
    refine g_icmp_ge (tgt := 135) F (dAt dk_X6_harm 46 rfl) (by decide) h (fun c21 h => ?_) (fun c21 h => ?_)
    · refine g_iload F (dAt dk_X6_harm 75 rfl) 2 rfl ?_
      cases h
      exact E (dAt dk_X6_harm 76 rfl) rfl
    · refine g_aload_n F (dAt dk_X6_harm 47 rfl) 0 rfl ?_
      refine gg_Model_was F (gm mw_885 rfl) (dAt dk_X6_harm 48 rfl) ?_
      refine g_bipush (v := 8) F (dAt dk_X6_harm 49 rfl) (by decide) ?_
      refine g_iload_n F (dAt dk_X6_harm 50 rfl) 1 rfl ?_
      refine g_imul F (dAt dk_X6_harm 51 rfl) ?_
      refine g_iload F (dAt dk_X6_harm 52 rfl) 3 rfl ?_
      refine g_iadd F (dAt dk_X6_harm 53 rfl) ?_
      refine g_ck h (fun hi22 h => ?_)
      refine g_ialoadm F am_was (dAt dk_X6_harm 54 rfl) hi22 ?_
      refine g_sipush (v := 10000) F (dAt dk_X6_harm 55 rfl) (by decide) ?_
      refine g_icmp_ge (tgt := 129) F (dAt dk_X6_harm 56 rfl) (by decide) h (fun c23 h => ?_) (fun c23 h => ?_)
      · refine g_iinc (lv' := [(6, .int (v6 + 1)), (0, .ref (ad 39)), (1, .int x1), (5, .int v5)]) F (dAt dk_X6_harm 73 rfl) 3 rfl (w := 1) (by decide) (by decide) rfl ?_
        refine g_goto (tgt := 75) F (dAt dk_X6_harm 74 rfl) (by decide) ?_
        refine g_sub (lv' := [(0, .ref (ad 39)), (1, .int x1), (5, .int v5), (6, .int (v6 + 1))]) [1, 2, 3, 0] rfl ?_
        exact ih75 (v5, (v6 + 1), u0) h
      · refine g_aload_n F (dAt dk_X6_harm 57 rfl) 0 rfl ?_
        refine gg_Model_far F (gm mw_884 rfl) (dAt dk_X6_harm 58 rfl) ?_
        refine g_bipush (v := 8) F (dAt dk_X6_harm 59 rfl) (by decide) ?_
        refine g_iload_n F (dAt dk_X6_harm 60 rfl) 1 rfl ?_
        refine g_imul F (dAt dk_X6_harm 61 rfl) ?_
        refine g_iload F (dAt dk_X6_harm 62 rfl) 3 rfl ?_
        refine g_iadd F (dAt dk_X6_harm 63 rfl) ?_
        refine g_ck h (fun hi24 h => ?_)
        refine g_ialoadm F am_far (dAt dk_X6_harm 64 rfl) hi24 ?_
        refine g_sipush (v := 10000) F (dAt dk_X6_harm 65 rfl) (by decide) ?_
        refine g_icmp_ne (tgt := 129) F (dAt dk_X6_harm 66 rfl) (by decide) h (fun c25 h => ?_) (fun c25 h => ?_)
        · refine g_iinc (lv' := [(6, .int (v6 + 1)), (0, .ref (ad 39)), (1, .int x1), (5, .int v5)]) F (dAt dk_X6_harm 73 rfl) 3 rfl (w := 1) (by decide) (by decide) rfl ?_
          refine g_goto (tgt := 75) F (dAt dk_X6_harm 74 rfl) (by decide) ?_
          refine g_sub (lv' := [(0, .ref (ad 39)), (1, .int x1), (5, .int v5), (6, .int (v6 + 1))]) [1, 2, 3, 0] rfl ?_
          exact ih75 (v5, (v6 + 1), u0) h
        · refine g_iload F (dAt dk_X6_harm 67 rfl) 2 rfl ?_
          refine g_iconst (v := 1) F (dAt dk_X6_harm 68 rfl) (by decide) ?_
          refine g_iload F (dAt dk_X6_harm 69 rfl) 3 rfl ?_
          refine g_ishl F (dAt dk_X6_harm 70 rfl) ?_
          refine g_ior F (dAt dk_X6_harm 71 rfl) ?_
          refine g_lti h (fun y26 h => ?_)
          refine g_istore (lv' := [(5, .int y26), (0, .ref (ad 39)), (1, .int x1), (6, .int v6)]) F (dAt dk_X6_harm 72 rfl) (by decide) rfl ?_
          refine g_iinc (lv' := [(6, .int (v6 + 1)), (5, .int y26), (0, .ref (ad 39)), (1, .int x1)]) F (dAt dk_X6_harm 73 rfl) 3 rfl (w := 1) (by decide) (by decide) rfl ?_
          refine g_goto (tgt := 75) F (dAt dk_X6_harm 74 rfl) (by decide) ?_
          refine g_sub (lv' := [(0, .ref (ad 39)), (1, .int x1), (5, .int y26), (6, .int (v6 + 1))]) [2, 3, 1, 0] rfl ?_
          exact ih75 (y26, (v6 + 1), u0) h
  refine g_lv (lv' := [(0, .ref (ad 39)), (1, .int x1), (2, .int x2), (3, .int x3)]) rfl ?_
  unfold f_X6_harm at h
  refine g_aload_n F (dAt dk_X6_harm 0 rfl) 0 rfl ?_
  refine g_iload_n F (dAt dk_X6_harm 1 rfl) 1 rfl ?_
  refine g_invV_im F mi_X6_isPlace (gm mw_966 rfl) (dAt dk_X6_harm 2 rfl) (rcx_of F rc_Model) [.int x1] rfl rfl (by decide) (Nat.le_of_ble_eq_true rfl) h (fun _ _ hf => c_X6_isPlace hJ hf) (fun r1 t2 h => ?_)
  refine g_if_eq (tgt := 16) F (dAt dk_X6_harm 3 rfl) (by decide) h (fun c3 h => ?_) (fun c3 h => ?_)
  · refine g_sub (lv' := [(0, .ref (ad 39))]) [0] rfl ?_
    exact J16  t2 h
  · refine g_aload_n F (dAt dk_X6_harm 4 rfl) 0 rfl ?_
    refine g_iload_n F (dAt dk_X6_harm 5 rfl) 2 rfl ?_
    refine g_invV_im F mi_X6_isPlace (gm mw_966 rfl) (dAt dk_X6_harm 6 rfl) (rcx_of F rc_Model) [.int x2] rfl rfl (by decide) (Nat.le_of_ble_eq_true rfl) h (fun _ _ hf => c_X6_isPlace hJ hf) (fun r4 t5 h => ?_)
    refine g_if_ne (tgt := 22) F (dAt dk_X6_harm 7 rfl) (by decide) h (fun c6 h => ?_) (fun c6 h => ?_)
    · refine g_iload_n F (dAt dk_X6_harm 12 rfl) 3 rfl ?_
      refine g_iconst (v := 0) F (dAt dk_X6_harm 13 rfl) (by decide) ?_
      refine g_iconst (v := 1) F (dAt dk_X6_harm 14 rfl) (by decide) ?_
      refine g_invS_ip F ms_X6_within (gm mw_935 rfl) (dAt dk_X6_harm 15 rfl) [.int x3, .int 0, .int 1] rfl rfl (by decide) (Nat.le_of_ble_eq_true rfl) h (fun _ hf => c_X6_within hJ hf) (fun r7 h => ?_)
      refine g_if_ne (tgt := 38) F (dAt dk_X6_harm 16 rfl) (by decide) h (fun c8 h => ?_) (fun c8 h => ?_)
      · refine g_aload_n F (dAt dk_X6_harm 21 rfl) 0 rfl ?_
        refine g_iload_n F (dAt dk_X6_harm 22 rfl) 1 rfl ?_
        refine g_iload_n F (dAt dk_X6_harm 23 rfl) 2 rfl ?_
        refine g_invV_im F mi_X6_noRoad (gm mw_1084 rfl) (dAt dk_X6_harm 24 rfl) (rcx_of F rc_Model) [.int x1, .int x2] rfl rfl (by decide) (Nat.le_of_ble_eq_true rfl) h (fun _ _ hf => c_X6_noRoad hJ hf) (fun r9 t10 h => ?_)
        refine g_if_eq (tgt := 54) F (dAt dk_X6_harm 25 rfl) (by decide) h (fun c11 h => ?_) (fun c11 h => ?_)
        · refine g_aload_n F (dAt dk_X6_harm 30 rfl) 0 rfl ?_
          refine g_iload_n F (dAt dk_X6_harm 31 rfl) 1 rfl ?_
          refine g_iload_n F (dAt dk_X6_harm 32 rfl) 2 rfl ?_
          refine g_invV_im F mi_X6_harmOf (gm mw_1165 rfl) (dAt dk_X6_harm 33 rfl) (rcx_of F rc_Model) [.int x1, .int x2] rfl rfl (by decide) (Nat.le_of_ble_eq_true rfl) h (fun _ _ hf => c_X6_harmOf hJ hf) (fun r12 t13 h => ?_)
          refine g_istore (lv' := [(4, .int r12), (0, .ref (ad 39)), (1, .int x1), (2, .int x2), (3, .int x3)]) F (dAt dk_X6_harm 34 rfl) (by decide) rfl ?_
          refine g_iload_n F (dAt dk_X6_harm 35 rfl) 4 rfl ?_
          refine g_if_ne (tgt := 69) F (dAt dk_X6_harm 36 rfl) (by decide) h (fun c14 h => ?_) (fun c14 h => ?_)
          · refine g_iconst (v := 0) F (dAt dk_X6_harm 39 rfl) (by decide) ?_
            refine g_istore (lv' := [(5, .int 0), (4, .int r12), (0, .ref (ad 39)), (1, .int x1), (2, .int x2), (3, .int x3)]) F (dAt dk_X6_harm 40 rfl) (by decide) rfl ?_
            refine g_iconst (v := 0) F (dAt dk_X6_harm 41 rfl) (by decide) ?_
            refine g_istore (lv' := [(6, .int 0), (5, .int 0), (4, .int r12), (0, .ref (ad 39)), (1, .int x1), (2, .int x2), (3, .int x3)]) F (dAt dk_X6_harm 42 rfl) (by decide) rfl ?_
            refine g_sub (lv' := [(0, .ref (ad 39)), (1, .int x1), (5, .int 0), (6, .int 0)]) [3, 4, 1, 0] rfl ?_
            exact H75  n (0, 0, t13) h
          · refine g_iload F (dAt dk_X6_harm 37 rfl) 0 rfl ?_
            cases h
            exact E (dAt dk_X6_harm 38 rfl) rfl
        · refine g_aload_n F (dAt dk_X6_harm 26 rfl) 0 rfl ?_
          refine g_bipush (v := (-6)) F (dAt dk_X6_harm 27 rfl) (by decide) ?_
          refine g_invV_im F mi_X6_no (gm mw_938 rfl) (dAt dk_X6_harm 28 rfl) (rcx_of F rc_Model) [.int (-6)] rfl rfl (by decide) (Nat.le_of_ble_eq_true rfl) h (fun _ _ hf => c_X6_no hJ hf) (fun r15 t16 h => ?_)
          cases h
          exact E (dAt dk_X6_harm 29 rfl) rfl
      · refine g_aload_n F (dAt dk_X6_harm 17 rfl) 0 rfl ?_
        refine g_bipush (v := (-5)) F (dAt dk_X6_harm 18 rfl) (by decide) ?_
        refine g_invV_im F mi_X6_no (gm mw_938 rfl) (dAt dk_X6_harm 19 rfl) (rcx_of F rc_Model) [.int (-5)] rfl rfl (by decide) (Nat.le_of_ble_eq_true rfl) h (fun _ _ hf => c_X6_no hJ hf) (fun r17 t18 h => ?_)
        cases h
        exact E (dAt dk_X6_harm 20 rfl) rfl
    · refine g_sub (lv' := [(0, .ref (ad 39))]) [0] rfl ?_
      exact J16  t5 h
theorem mi_X6_leastHarm : MI yX6_leastHarm cX6_leastHarm 6 (some .int) "MillOfDistancesModel" 0 := ⟨(gm mw_1172 rfl), (gm mw_1170 rfl), (gm mw_1171 rfl), (gm mw_75 rfl), by decide +kernel, by decide⟩
theorem c_X6_leastHarm {l : Launch} {D : va_G} {ad : Nat → Nat} {g : Gv} {t u : Mem} {n : Nat}  {u' : Mem} {r : Int32} (hJ : Jad ad) (h : f_X6_leastHarm n u = some (r, u')) : ConI l yX6_leastHarm cX6_leastHarm 6 (some .int) 3 [.ref (ad 39)] D ad g t u t u' r := by
  refine con_i hJ (by decide) (Nat.le_of_ble_eq_true rfl) rfl (fun X F E => ?_)
  have J69 : ∀ (self6 : Int32 × Int32 × Int32 × Mem → Option (Int32 × Mem)), (∀ s, self6 s = some (r, u') → G X D ad g t s.2.2.2 [(0, .ref (ad 39)), (1, .int s.1), (2, .int s.2.1), (3, .int s.2.2.1)] 6 []) → ∀ (self19 : Int32 × Int32 × Int32 × Int32 × Mem → Option (Int32 × Mem)), (∀ s, self19 s = some (r, u') → G X D ad g t s.2.2.2.2 [(0, .ref (ad 39)), (1, .int s.1), (2, .int s.2.1), (3, .int s.2.2.1), (4, .int s.2.2.2.1)] 19 []) → ∀ (v3 : Int32) (v4 : Int32) (v5 : Int32) (u0 : Mem), jn_X6_leastHarm_69 n self6 self19 v3 v4 v5 u0 = some (r, u') → G X D ad g t u0 [(0, .ref (ad 39)), (3, .int v3), (4, .int v4), (5, .int v5)] 69 [] := by
    intro self6 ih6 self19 ih19 v3 v4 v5 u0 h
    unfold jn_X6_leastHarm_69 at h
    refine g_bipush (v := 100) F (dAt dk_X6_leastHarm 40 rfl) (by decide) ?_
    refine g_iload_n F (dAt dk_X6_leastHarm 41 rfl) 1 rfl ?_
    refine g_imul F (dAt dk_X6_leastHarm 42 rfl) ?_
    refine g_iload F (dAt dk_X6_leastHarm 43 rfl) 2 rfl ?_
    refine g_iadd F (dAt dk_X6_leastHarm 44 rfl) ?_
    refine g_istore_n (lv' := [(1, .int ((100 * v3) + v4)), (0, .ref (ad 39)), (3, .int v3), (4, .int v4), (5, .int v5)]) F (dAt dk_X6_leastHarm 45 rfl) (by decide) rfl ?_
    refine g_iload F (dAt dk_X6_leastHarm 46 rfl) 4 rfl ?_
    refine g_istore_n (lv' := [(2, .int v5), (1, .int ((100 * v3) + v4)), (0, .ref (ad 39)), (3, .int v3), (4, .int v4), (5, .int v5)]) F (dAt dk_X6_leastHarm 47 rfl) (by decide) rfl ?_
    refine g_iinc (lv' := [(4, .int (v4 + 1)), (2, .int v5), (1, .int ((100 * v3) + v4)), (0, .ref (ad 39)), (3, .int v3), (5, .int v5)]) F (dAt dk_X6_leastHarm 48 rfl) 4 rfl (w := 1) (by decide) (by decide) rfl ?_
    refine g_goto (tgt := 19) F (dAt dk_X6_leastHarm 49 rfl) (by decide) ?_
    refine g_sub (lv' := [(0, .ref (ad 39)), (1, .int ((100 * v3) + v4)), (2, .int v5), (3, .int v3), (4, .int (v4 + 1))]) [3, 2, 1, 4, 0] rfl ?_
    exact ih19 (((100 * v3) + v4), v5, v3, (v4 + 1), u0) h
  have H19 : ∀ (self6 : Int32 × Int32 × Int32 × Mem → Option (Int32 × Mem)), (∀ s, self6 s = some (r, u') → G X D ad g t s.2.2.2 [(0, .ref (ad 39)), (1, .int s.1), (2, .int s.2.1), (3, .int s.2.2.1)] 6 []) → ∀ (k : Nat) (s : Int32 × Int32 × Int32 × Int32 × Mem), iter (bd_X6_leastHarm_19 n self6) k s = some (r, u') → G X D ad g t s.2.2.2.2 [(0, .ref (ad 39)), (1, .int s.1), (2, .int s.2.1), (3, .int s.2.2.1), (4, .int s.2.2.2.1)] 19 [] := by
    intro self6 ih6
    refine iter_walk (P := fun (s : Int32 × Int32 × Int32 × Int32 × Mem) => G X D ad g t s.2.2.2.2 [(0, .ref (ad 39)), (1, .int s.1), (2, .int s.2.1), (3, .int s.2.2.1), (4, .int s.2.2.2.1)] 19 []) (fun self19 ih19 s h => ?_)
    obtain ⟨v1, v2, v3, v4, u0⟩ := s
    change G X D ad g t u0 [(0, .ref (ad 39)), (1, .int v1), (2, .int v2), (3, .int v3), (4, .int v4)] 19 []
    unfold bd_X6_leastHarm_19 at h; try dsimp only at h
    refine g_iload F (dAt dk_X6_leastHarm 14 rfl) 4 rfl ?_
    refine g_aload_n F (dAt dk_X6_leastHarm 15 rfl) 0 rfl ?_
    refine gg_Model_places F (gm mw_867 rfl) (dAt dk_X6_leastHarm 16 rfl) ?_
    refine g_icmp_ge (tgt := 86) F (dAt dk_X6_leastHarm 17 rfl) (by decide) h (fun c5 h => ?_) (fun c5 h => ?_)
    · refine g_iinc (lv' := [(3, .int (v3 + 1)), (0, .ref (ad 39)), (1, .int v1), (2, .int v2), (4, .int v4)]) F (dAt dk_X6_leastHarm 50 rfl) 3 rfl (w := 1) (by decide) (by decide) rfl ?_
      refine g_goto (tgt := 6) F (dAt dk_X6_leastHarm 51 rfl) (by decide) ?_
      refine g_sub (lv' := [(0, .ref (ad 39)), (1, .int v1), (2, .int v2), (3, .int (v3 + 1))]) [1, 2, 3, 0] rfl ?_
      exact ih6 (v1, v2, (v3 + 1), u0) h
    · refine g_aload_n F (dAt dk_X6_leastHarm 18 rfl) 0 rfl ?_
      refine gg_Model_miles F (gm mw_870 rfl) (dAt dk_X6_leastHarm 19 rfl) ?_
      refine g_bipush (v := 8) F (dAt dk_X6_leastHarm 20 rfl) (by decide) ?_
      refine g_iload_n F (dAt dk_X6_leastHarm 21 rfl) 3 rfl ?_
      refine g_imul F (dAt dk_X6_leastHarm 22 rfl) ?_
      refine g_iload F (dAt dk_X6_leastHarm 23 rfl) 4 rfl ?_
      refine g_iadd F (dAt dk_X6_leastHarm 24 rfl) ?_
      refine g_ck h (fun hi6 h => ?_)
      refine g_ialoadm F am_miles (dAt dk_X6_leastHarm 25 rfl) hi6 ?_
      refine g_if_ne (tgt := 46) F (dAt dk_X6_leastHarm 26 rfl) (by decide) h (fun c7 h => ?_) (fun c7 h => ?_)
      · refine g_aload_n F (dAt dk_X6_leastHarm 28 rfl) 0 rfl ?_
        refine g_iload_n F (dAt dk_X6_leastHarm 29 rfl) 3 rfl ?_
        refine g_iload F (dAt dk_X6_leastHarm 30 rfl) 4 rfl ?_
        refine g_invV_im F mi_X6_harmOf (gm mw_1165 rfl) (dAt dk_X6_leastHarm 31 rfl) (rcx_of F rc_Model) [.int v3, .int v4] rfl rfl (by decide) (Nat.le_of_ble_eq_true rfl) h (fun _ _ hf => c_X6_harmOf hJ hf) (fun r8 t9 h => ?_)
        refine g_istore (lv' := [(5, .int r8), (0, .ref (ad 39)), (1, .int v1), (2, .int v2), (3, .int v3), (4, .int v4)]) F (dAt dk_X6_leastHarm 32 rfl) (by decide) rfl ?_
        refine g_iload_n F (dAt dk_X6_leastHarm 33 rfl) 2 rfl ?_
        refine g_iconst (v := (-1)) F (dAt dk_X6_leastHarm 34 rfl) (by decide) ?_
        refine g_icmp_eq (tgt := 69) F (dAt dk_X6_leastHarm 35 rfl) (by decide) h (fun c10 h => ?_) (fun c10 h => ?_)
        · refine g_sub (lv' := [(0, .ref (ad 39)), (3, .int v3), (4, .int v4), (5, .int r8)]) [1, 4, 5, 0] rfl ?_
          exact J69 self6 ih6 self19 ih19 v3 v4 r8 t9 h
        · refine g_iload F (dAt dk_X6_leastHarm 36 rfl) 0 rfl ?_
          refine g_iload_n F (dAt dk_X6_leastHarm 37 rfl) 3 rfl ?_
          refine g_icmp_lt (tgt := 69) F (dAt dk_X6_leastHarm 38 rfl) (by decide) h (fun c11 h => ?_) (fun c11 h => ?_)
          · refine g_sub (lv' := [(0, .ref (ad 39)), (3, .int v3), (4, .int v4), (5, .int r8)]) [1, 4, 5, 0] rfl ?_
            exact J69 self6 ih6 self19 ih19 v3 v4 r8 t9 h
          · refine g_goto (tgt := 80) F (dAt dk_X6_leastHarm 39 rfl) (by decide) ?_
            refine g_iinc (lv' := [(4, .int (v4 + 1)), (5, .int r8), (0, .ref (ad 39)), (1, .int v1), (2, .int v2), (3, .int v3)]) F (dAt dk_X6_leastHarm 48 rfl) 5 rfl (w := 1) (by decide) (by decide) rfl ?_
            refine g_goto (tgt := 19) F (dAt dk_X6_leastHarm 49 rfl) (by decide) ?_
            refine g_sub (lv' := [(0, .ref (ad 39)), (1, .int v1), (2, .int v2), (3, .int v3), (4, .int (v4 + 1))]) [2, 3, 4, 5, 0] rfl ?_
            exact ih19 (v1, v2, v3, (v4 + 1), t9) h
      · refine g_goto (tgt := 80) F (dAt dk_X6_leastHarm 27 rfl) (by decide) ?_
        refine g_iinc (lv' := [(4, .int (v4 + 1)), (0, .ref (ad 39)), (1, .int v1), (2, .int v2), (3, .int v3)]) F (dAt dk_X6_leastHarm 48 rfl) 4 rfl (w := 1) (by decide) (by decide) rfl ?_
        refine g_goto (tgt := 19) F (dAt dk_X6_leastHarm 49 rfl) (by decide) ?_
        refine g_sub (lv' := [(0, .ref (ad 39)), (1, .int v1), (2, .int v2), (3, .int v3), (4, .int (v4 + 1))]) [1, 2, 3, 4, 0] rfl ?_
        exact ih19 (v1, v2, v3, (v4 + 1), u0) h
  have H6 : ∀ (k : Nat) (s : Int32 × Int32 × Int32 × Mem), iter (bd_X6_leastHarm_6 n) k s = some (r, u') → G X D ad g t s.2.2.2 [(0, .ref (ad 39)), (1, .int s.1), (2, .int s.2.1), (3, .int s.2.2.1)] 6 [] := by
    refine iter_walk (P := fun (s : Int32 × Int32 × Int32 × Mem) => G X D ad g t s.2.2.2 [(0, .ref (ad 39)), (1, .int s.1), (2, .int s.2.1), (3, .int s.2.2.1)] 6 []) (fun self6 ih6 s h => ?_)
    obtain ⟨v1, v2, v3, u0⟩ := s
    change G X D ad g t u0 [(0, .ref (ad 39)), (1, .int v1), (2, .int v2), (3, .int v3)] 6 []
    unfold bd_X6_leastHarm_6 at h; try dsimp only at h
    refine g_iload_n F (dAt dk_X6_leastHarm 6 rfl) 3 rfl ?_
    refine g_aload_n F (dAt dk_X6_leastHarm 7 rfl) 0 rfl ?_
    refine gg_Model_places F (gm mw_867 rfl) (dAt dk_X6_leastHarm 8 rfl) ?_
    refine g_icmp_ge (tgt := 92) F (dAt dk_X6_leastHarm 9 rfl) (by decide) h (fun c1 h => ?_) (fun c1 h => ?_)
    · refine g_iload_n F (dAt dk_X6_leastHarm 52 rfl) 1 rfl ?_
      refine g_iconst (v := (-1)) F (dAt dk_X6_leastHarm 53 rfl) (by decide) ?_
      refine g_icmp_ne (tgt := 106) F (dAt dk_X6_leastHarm 54 rfl) (by decide) h (fun c2 h => ?_) (fun c2 h => ?_)
      · refine g_iload_n F (dAt dk_X6_leastHarm 59 rfl) 1 rfl ?_
        cases h
        exact E (dAt dk_X6_leastHarm 60 rfl) rfl
      · refine g_aload_n F (dAt dk_X6_leastHarm 55 rfl) 0 rfl ?_
        refine g_bipush (v := (-5)) F (dAt dk_X6_leastHarm 56 rfl) (by decide) ?_
        refine g_invV_im F mi_X6_no (gm mw_938 rfl) (dAt dk_X6_leastHarm 57 rfl) (rcx_of F rc_Model) [.int (-5)] rfl rfl (by decide) (Nat.le_of_ble_eq_true rfl) h (fun _ _ hf => c_X6_no hJ hf) (fun r3 t4 h => ?_)
        refine g_goto (tgt := 107) F (dAt dk_X6_leastHarm 58 rfl) (by decide) ?_
        cases h
        exact E (dAt dk_X6_leastHarm 60 rfl) rfl
    · refine g_iload_n F (dAt dk_X6_leastHarm 10 rfl) 3 rfl ?_
      refine g_iconst (v := 1) F (dAt dk_X6_leastHarm 11 rfl) (by decide) ?_
      refine g_iadd F (dAt dk_X6_leastHarm 12 rfl) ?_
      refine g_istore (lv' := [(4, .int (v3 + 1)), (0, .ref (ad 39)), (1, .int v1), (2, .int v2), (3, .int v3)]) F (dAt dk_X6_leastHarm 13 rfl) (by decide) rfl ?_
      refine g_sub (lv' := [(0, .ref (ad 39)), (1, .int v1), (2, .int v2), (3, .int v3), (4, .int (v3 + 1))]) [1, 2, 3, 4, 0] rfl ?_
      exact H19 self6 ih6 n (v1, v2, v3, (v3 + 1), u0) h
  refine g_lv (lv' := [(0, .ref (ad 39))]) rfl ?_
  unfold f_X6_leastHarm at h
  refine g_iconst (v := (-1)) F (dAt dk_X6_leastHarm 0 rfl) (by decide) ?_
  refine g_istore_n (lv' := [(1, .int (-1)), (0, .ref (ad 39))]) F (dAt dk_X6_leastHarm 1 rfl) (by decide) rfl ?_
  refine g_iconst (v := 0) F (dAt dk_X6_leastHarm 2 rfl) (by decide) ?_
  refine g_istore_n (lv' := [(2, .int 0), (1, .int (-1)), (0, .ref (ad 39))]) F (dAt dk_X6_leastHarm 3 rfl) (by decide) rfl ?_
  refine g_iconst (v := 0) F (dAt dk_X6_leastHarm 4 rfl) (by decide) ?_
  refine g_istore_n (lv' := [(3, .int 0), (2, .int 0), (1, .int (-1)), (0, .ref (ad 39))]) F (dAt dk_X6_leastHarm 5 rfl) (by decide) rfl ?_
  refine g_sub (lv' := [(0, .ref (ad 39)), (1, .int (-1)), (2, .int 0), (3, .int 0)]) [3, 2, 1, 0] rfl ?_
  exact H6  n ((-1), 0, 0, u) h
theorem mi_X6_cheapest : MI yX6_cheapest cX6_cheapest 13 (some .int) "MillOfDistancesModel" 4 := ⟨(gm mw_1176 rfl), (gm mw_1174 rfl), (gm mw_1175 rfl), (gm mw_75 rfl), by decide +kernel, by decide⟩
set_option maxRecDepth 20000 in
theorem c_X6_cheapest {l : Launch} {D : va_G} {ad : Nat → Nat} {g : Gv} {t u : Mem} {n : Nat} {x1 : Int32} {x2 : Int32} {x3 : Int32} {x4 : Int32} {u' : Mem} {r : Int32} (hJ : Jad ad) (h : f_X6_cheapest n x1 x2 x3 x4 u = some (r, u')) : ConI l yX6_cheapest cX6_cheapest 13 (some .int) 3 [.ref (ad 39), .int x1, .int x2, .int x3, .int x4] D ad g t u t u' r := by
  refine con_i hJ (by decide) (Nat.le_of_ble_eq_true rfl) rfl (fun X F E => ?_)
  have J16 : ∀ (u0 : Mem), jn_X6_cheapest_16 n x1 x2 x3 x4 u0 = some (r, u') → G X D ad g t u0 [(0, .ref (ad 39))] 16 [] := by
    intro u0 h
    unfold jn_X6_cheapest_16 at h
    refine g_aload_n F (dAt dk_X6_cheapest 8 rfl) 0 rfl ?_
    refine g_iconst (v := (-1)) F (dAt dk_X6_cheapest 9 rfl) (by decide) ?_
    refine g_invV_im F mi_X6_no10 (gm mw_1018 rfl) (dAt dk_X6_cheapest 10 rfl) (rcx_of F rc_Model) [.int (-1)] rfl rfl (by decide) (Nat.le_of_ble_eq_true rfl) h (fun _ _ hf => c_X6_no10 hJ hf) (fun r18 t19 h => ?_)
    cases h
    exact E (dAt dk_X6_cheapest 11 rfl) rfl
  have J55 : ∀ (u0 : Mem), jn_X6_cheapest_55 n x1 x2 x3 x4 u0 = some (r, u') → G X D ad g t u0 [(0, .ref (ad 39))] 55 [] := by
    intro u0 h
    unfold jn_X6_cheapest_55 at h
    refine g_aload_n F (dAt dk_X6_cheapest 29 rfl) 0 rfl ?_
    refine g_bipush (v := (-6)) F (dAt dk_X6_cheapest 30 rfl) (by decide) ?_
    refine g_invV_im F mi_X6_no10 (gm mw_1018 rfl) (dAt dk_X6_cheapest 31 rfl) (rcx_of F rc_Model) [.int (-6)] rfl rfl (by decide) (Nat.le_of_ble_eq_true rfl) h (fun _ _ hf => c_X6_no10 hJ hf) (fun r20 t21 h => ?_)
    cases h
    exact E (dAt dk_X6_cheapest 32 rfl) rfl
  have J277 : ∀ (self104 : Int32 × Int32 × Int32 × Int32 × Mem → Option (Int32 × Mem)), (∀ s, self104 s = some (r, u') → G X D ad g t s.2.2.2.2 [(0, .ref (ad 39)), (1, .int x1), (2, .int x2), (3, .int x3), (4, .int x4), (5, .int s.1), (6, .int s.2.1), (7, .int s.2.2.1), (8, .int s.2.2.2.1)] 104 []) → ∀ (self119 : Int32 × Int32 × Int32 × Int32 × Int32 × Mem → Option (Int32 × Mem)), (∀ s, self119 s = some (r, u') → G X D ad g t s.2.2.2.2.2 [(0, .ref (ad 39)), (1, .int x1), (2, .int x2), (3, .int x3), (4, .int x4), (5, .int s.1), (6, .int s.2.1), (7, .int s.2.2.1), (8, .int s.2.2.2.1), (9, .int s.2.2.2.2.1)] 119 []) → ∀ (self234 : Int32 × Int32 × Int32 × Int32 × Int32 × Int32 × Int32 × Int32 × Mem → Option (Int32 × Mem)), (∀ s, self234 s = some (r, u') → G X D ad g t s.2.2.2.2.2.2.2.2 [(0, .ref (ad 39)), (1, .int x1), (2, .int x2), (3, .int x3), (4, .int x4), (5, .int s.1), (6, .int s.2.1), (7, .int s.2.2.1), (8, .int s.2.2.2.1), (9, .int s.2.2.2.2.1), (10, .int s.2.2.2.2.2.1), (11, .int s.2.2.2.2.2.2.1), (12, .int s.2.2.2.2.2.2.2.1)] 234 []) → ∀ (v8 : Int32) (v9 : Int32) (v10 : Int32) (v11 : Int32) (v12 : Int32) (u0 : Mem), jn_X6_cheapest_277 n x1 x2 x3 x4 self104 self119 self234 v8 v9 v10 v11 v12 u0 = some (r, u') → G X D ad g t u0 [(0, .ref (ad 39)), (1, .int x1), (2, .int x2), (3, .int x3), (4, .int x4), (8, .int v8), (9, .int v9), (10, .int v10), (11, .int v11), (12, .int v12)] 277 [] := by
    intro self104 ih104 self119 ih119 self234 ih234 v8 v9 v10 v11 v12 u0 h
    unfold jn_X6_cheapest_277 at h
    refine g_aload_n F (dAt dk_X6_cheapest 156 rfl) 0 rfl ?_
    refine g_iload F (dAt dk_X6_cheapest 157 rfl) 5 rfl ?_
    refine g_iload F (dAt dk_X6_cheapest 158 rfl) 6 rfl ?_
    refine g_iload F (dAt dk_X6_cheapest 159 rfl) 9 rfl ?_
    refine g_invV_im F mi_X6_costs (gm mw_1089 rfl) (dAt dk_X6_cheapest 160 rfl) (rcx_of F rc_Model) [.int v8, .int v9, .int v12] rfl rfl (by decide) (Nat.le_of_ble_eq_true rfl) h (fun _ _ hf => c_X6_costs hJ hf) (fun r45 t46 h => ?_)
    refine g_istore (lv' := [(5, .int r45), (0, .ref (ad 39)), (1, .int x1), (2, .int x2), (3, .int x3), (4, .int x4), (8, .int v8), (9, .int v9), (10, .int v10), (11, .int v11), (12, .int v12)]) F (dAt dk_X6_cheapest 161 rfl) (by decide) rfl ?_
    refine g_bipush (v := 100) F (dAt dk_X6_cheapest 162 rfl) (by decide) ?_
    refine g_iload F (dAt dk_X6_cheapest 163 rfl) 6 rfl ?_
    refine g_imul F (dAt dk_X6_cheapest 164 rfl) ?_
    refine g_iload F (dAt dk_X6_cheapest 165 rfl) 7 rfl ?_
    refine g_iadd F (dAt dk_X6_cheapest 166 rfl) ?_
    refine g_istore (lv' := [(6, .int ((100 * v8) + v9)), (5, .int r45), (0, .ref (ad 39)), (1, .int x1), (2, .int x2), (3, .int x3), (4, .int x4), (8, .int v8), (9, .int v9), (10, .int v10), (11, .int v11), (12, .int v12)]) F (dAt dk_X6_cheapest 167 rfl) (by decide) rfl ?_
    refine g_iload F (dAt dk_X6_cheapest 168 rfl) 11 rfl ?_
    refine g_istore (lv' := [(7, .int v12), (6, .int ((100 * v8) + v9)), (5, .int r45), (0, .ref (ad 39)), (1, .int x1), (2, .int x2), (3, .int x3), (4, .int x4), (8, .int v8), (9, .int v9), (10, .int v10), (11, .int v11), (12, .int v12)]) F (dAt dk_X6_cheapest 169 rfl) (by decide) rfl ?_
    refine g_iinc (lv' := [(12, .int (v12 + 1)), (7, .int v12), (6, .int ((100 * v8) + v9)), (5, .int r45), (0, .ref (ad 39)), (1, .int x1), (2, .int x2), (3, .int x3), (4, .int x4), (8, .int v8), (9, .int v9), (10, .int v10), (11, .int v11)]) F (dAt dk_X6_cheapest 170 rfl) 12 rfl (w := 1) (by decide) (by decide) rfl ?_
    refine g_goto (tgt := 234) F (dAt dk_X6_cheapest 171 rfl) (by decide) ?_
    refine g_sub (lv' := [(0, .ref (ad 39)), (1, .int x1), (2, .int x2), (3, .int x3), (4, .int x4), (5, .int r45), (6, .int ((100 * v8) + v9)), (7, .int v12), (8, .int v8), (9, .int v9), (10, .int v10), (11, .int v11), (12, .int (v12 + 1))]) [4, 5, 6, 7, 8, 3, 2, 1, 9, 10, 11, 12, 0] rfl ?_
    exact ih234 (r45, ((100 * v8) + v9), v12, v8, v9, v10, v11, (v12 + 1), t46) h
  have H234 : ∀ (self104 : Int32 × Int32 × Int32 × Int32 × Mem → Option (Int32 × Mem)), (∀ s, self104 s = some (r, u') → G X D ad g t s.2.2.2.2 [(0, .ref (ad 39)), (1, .int x1), (2, .int x2), (3, .int x3), (4, .int x4), (5, .int s.1), (6, .int s.2.1), (7, .int s.2.2.1), (8, .int s.2.2.2.1)] 104 []) → ∀ (self119 : Int32 × Int32 × Int32 × Int32 × Int32 × Mem → Option (Int32 × Mem)), (∀ s, self119 s = some (r, u') → G X D ad g t s.2.2.2.2.2 [(0, .ref (ad 39)), (1, .int x1), (2, .int x2), (3, .int x3), (4, .int x4), (5, .int s.1), (6, .int s.2.1), (7, .int s.2.2.1), (8, .int s.2.2.2.1), (9, .int s.2.2.2.2.1)] 119 []) → ∀ (k : Nat) (s : Int32 × Int32 × Int32 × Int32 × Int32 × Int32 × Int32 × Int32 × Mem), iter (bd_X6_cheapest_234 n x1 x2 x3 x4 self104 self119) k s = some (r, u') → G X D ad g t s.2.2.2.2.2.2.2.2 [(0, .ref (ad 39)), (1, .int x1), (2, .int x2), (3, .int x3), (4, .int x4), (5, .int s.1), (6, .int s.2.1), (7, .int s.2.2.1), (8, .int s.2.2.2.1), (9, .int s.2.2.2.2.1), (10, .int s.2.2.2.2.2.1), (11, .int s.2.2.2.2.2.2.1), (12, .int s.2.2.2.2.2.2.2.1)] 234 [] := by
    intro self104 ih104 self119 ih119
    refine iter_walk (P := fun (s : Int32 × Int32 × Int32 × Int32 × Int32 × Int32 × Int32 × Int32 × Mem) => G X D ad g t s.2.2.2.2.2.2.2.2 [(0, .ref (ad 39)), (1, .int x1), (2, .int x2), (3, .int x3), (4, .int x4), (5, .int s.1), (6, .int s.2.1), (7, .int s.2.2.1), (8, .int s.2.2.2.1), (9, .int s.2.2.2.2.1), (10, .int s.2.2.2.2.2.1), (11, .int s.2.2.2.2.2.2.1), (12, .int s.2.2.2.2.2.2.2.1)] 234 []) (fun self234 ih234 s h => ?_)
    obtain ⟨v5, v6, v7, v8, v9, v10, v11, v12, u0⟩ := s
    change G X D ad g t u0 [(0, .ref (ad 39)), (1, .int x1), (2, .int x2), (3, .int x3), (4, .int x4), (5, .int v5), (6, .int v6), (7, .int v7), (8, .int v8), (9, .int v9), (10, .int v10), (11, .int v11), (12, .int v12)] 234 []
    unfold bd_X6_cheapest_234 at h; try dsimp only at h
    refine g_iload F (dAt dk_X6_cheapest 135 rfl) 12 rfl ?_
    refine g_iload F (dAt dk_X6_cheapest 136 rfl) 10 rfl ?_
    refine g_icmp_ge (tgt := 309) F (dAt dk_X6_cheapest 137 rfl) (by decide) h (fun c39 h => ?_) (fun c39 h => ?_)
    · refine g_iinc (lv' := [(9, .int (v9 + 1)), (0, .ref (ad 39)), (1, .int x1), (2, .int x2), (3, .int x3), (4, .int x4), (5, .int v5), (6, .int v6), (7, .int v7), (8, .int v8), (10, .int v10), (11, .int v11), (12, .int v12)]) F (dAt dk_X6_cheapest 172 rfl) 9 rfl (w := 1) (by decide) (by decide) rfl ?_
      refine g_goto (tgt := 119) F (dAt dk_X6_cheapest 173 rfl) (by decide) ?_
      refine g_sub (lv' := [(0, .ref (ad 39)), (1, .int x1), (2, .int x2), (3, .int x3), (4, .int x4), (5, .int v5), (6, .int v6), (7, .int v7), (8, .int v8), (9, .int (v9 + 1))]) [1, 2, 3, 4, 5, 6, 7, 8, 9, 0] rfl ?_
      exact ih119 (v5, v6, v7, v8, (v9 + 1), u0) h
    · refine g_iload F (dAt dk_X6_cheapest 138 rfl) 11 rfl ?_
      refine g_iload F (dAt dk_X6_cheapest 139 rfl) 10 rfl ?_
      refine g_iadd F (dAt dk_X6_cheapest 140 rfl) ?_
      refine g_iload F (dAt dk_X6_cheapest 141 rfl) 12 rfl ?_
      refine g_isub F (dAt dk_X6_cheapest 142 rfl) ?_
      refine g_iload_n F (dAt dk_X6_cheapest 143 rfl) 3 rfl ?_
      refine g_icmp_gt (tgt := 303) F (dAt dk_X6_cheapest 144 rfl) (by decide) h (fun c40 h => ?_) (fun c40 h => ?_)
      · refine g_iinc (lv' := [(12, .int (v12 + 1)), (0, .ref (ad 39)), (1, .int x1), (2, .int x2), (3, .int x3), (4, .int x4), (5, .int v5), (6, .int v6), (7, .int v7), (8, .int v8), (9, .int v9), (10, .int v10), (11, .int v11)]) F (dAt dk_X6_cheapest 170 rfl) 12 rfl (w := 1) (by decide) (by decide) rfl ?_
        refine g_goto (tgt := 234) F (dAt dk_X6_cheapest 171 rfl) (by decide) ?_
        refine g_sub (lv' := [(0, .ref (ad 39)), (1, .int x1), (2, .int x2), (3, .int x3), (4, .int x4), (5, .int v5), (6, .int v6), (7, .int v7), (8, .int v8), (9, .int v9), (10, .int v10), (11, .int v11), (12, .int (v12 + 1))]) [1, 2, 3, 4, 5, 6, 7, 8, 9, 10, 11, 12, 0] rfl ?_
        exact ih234 (v5, v6, v7, v8, v9, v10, v11, (v12 + 1), u0) h
      · refine g_iload F (dAt dk_X6_cheapest 145 rfl) 5 rfl ?_
        refine g_iconst (v := (-1)) F (dAt dk_X6_cheapest 146 rfl) (by decide) ?_
        refine g_icmp_eq (tgt := 277) F (dAt dk_X6_cheapest 147 rfl) (by decide) h (fun c41 h => ?_) (fun c41 h => ?_)
        · refine g_sub (lv' := [(0, .ref (ad 39)), (1, .int x1), (2, .int x2), (3, .int x3), (4, .int x4), (8, .int v8), (9, .int v9), (10, .int v10), (11, .int v11), (12, .int v12)]) [0, 1, 2, 3, 4, 8, 9, 10, 11, 12] rfl ?_
          exact J277 self104 ih104 self119 ih119 self234 ih234 v8 v9 v10 v11 v12 u0 h
        · refine g_aload_n F (dAt dk_X6_cheapest 148 rfl) 0 rfl ?_
          refine g_iload F (dAt dk_X6_cheapest 149 rfl) 8 rfl ?_
          refine g_iload F (dAt dk_X6_cheapest 150 rfl) 9 rfl ?_
          refine g_iload F (dAt dk_X6_cheapest 151 rfl) 12 rfl ?_
          refine g_invV_im F mi_X6_costs (gm mw_1089 rfl) (dAt dk_X6_cheapest 152 rfl) (rcx_of F rc_Model) [.int v8, .int v9, .int v12] rfl rfl (by decide) (Nat.le_of_ble_eq_true rfl) h (fun _ _ hf => c_X6_costs hJ hf) (fun r42 t43 h => ?_)
          refine g_iload F (dAt dk_X6_cheapest 153 rfl) 5 rfl ?_
          refine g_icmp_lt (tgt := 277) F (dAt dk_X6_cheapest 154 rfl) (by decide) h (fun c44 h => ?_) (fun c44 h => ?_)
          · refine g_sub (lv' := [(0, .ref (ad 39)), (1, .int x1), (2, .int x2), (3, .int x3), (4, .int x4), (8, .int v8), (9, .int v9), (10, .int v10), (11, .int v11), (12, .int v12)]) [0, 1, 2, 3, 4, 8, 9, 10, 11, 12] rfl ?_
            exact J277 self104 ih104 self119 ih119 self234 ih234 v8 v9 v10 v11 v12 t43 h
          · refine g_goto (tgt := 303) F (dAt dk_X6_cheapest 155 rfl) (by decide) ?_
            refine g_iinc (lv' := [(12, .int (v12 + 1)), (0, .ref (ad 39)), (1, .int x1), (2, .int x2), (3, .int x3), (4, .int x4), (5, .int v5), (6, .int v6), (7, .int v7), (8, .int v8), (9, .int v9), (10, .int v10), (11, .int v11)]) F (dAt dk_X6_cheapest 170 rfl) 12 rfl (w := 1) (by decide) (by decide) rfl ?_
            refine g_goto (tgt := 234) F (dAt dk_X6_cheapest 171 rfl) (by decide) ?_
            refine g_sub (lv' := [(0, .ref (ad 39)), (1, .int x1), (2, .int x2), (3, .int x3), (4, .int x4), (5, .int v5), (6, .int v6), (7, .int v7), (8, .int v8), (9, .int v9), (10, .int v10), (11, .int v11), (12, .int (v12 + 1))]) [1, 2, 3, 4, 5, 6, 7, 8, 9, 10, 11, 12, 0] rfl ?_
            exact ih234 (v5, v6, v7, v8, v9, v10, v11, (v12 + 1), t43) h
  have H119 : ∀ (self104 : Int32 × Int32 × Int32 × Int32 × Mem → Option (Int32 × Mem)), (∀ s, self104 s = some (r, u') → G X D ad g t s.2.2.2.2 [(0, .ref (ad 39)), (1, .int x1), (2, .int x2), (3, .int x3), (4, .int x4), (5, .int s.1), (6, .int s.2.1), (7, .int s.2.2.1), (8, .int s.2.2.2.1)] 104 []) → ∀ (k : Nat) (s : Int32 × Int32 × Int32 × Int32 × Int32 × Mem), iter (bd_X6_cheapest_119 n x1 x2 x3 x4 self104) k s = some (r, u') → G X D ad g t s.2.2.2.2.2 [(0, .ref (ad 39)), (1, .int x1), (2, .int x2), (3, .int x3), (4, .int x4), (5, .int s.1), (6, .int s.2.1), (7, .int s.2.2.1), (8, .int s.2.2.2.1), (9, .int s.2.2.2.2.1)] 119 [] := by
    intro self104 ih104
    refine iter_walk (P := fun (s : Int32 × Int32 × Int32 × Int32 × Int32 × Mem) => G X D ad g t s.2.2.2.2.2 [(0, .ref (ad 39)), (1, .int x1), (2, .int x2), (3, .int x3), (4, .int x4), (5, .int s.1), (6, .int s.2.1), (7, .int s.2.2.1), (8, .int s.2.2.2.1), (9, .int s.2.2.2.2.1)] 119 []) (fun self119 ih119 s h => ?_)
    obtain ⟨v5, v6, v7, v8, v9, u0⟩ := s
    change G X D ad g t u0 [(0, .ref (ad 39)), (1, .int x1), (2, .int x2), (3, .int x3), (4, .int x4), (5, .int v5), (6, .int v6), (7, .int v7), (8, .int v8), (9, .int v9)] 119 []
    unfold bd_X6_cheapest_119 at h; try dsimp only at h
    refine g_iload F (dAt dk_X6_cheapest 67 rfl) 9 rfl ?_
    refine g_aload_n F (dAt dk_X6_cheapest 68 rfl) 0 rfl ?_
    refine gg_Model_places F (gm mw_867 rfl) (dAt dk_X6_cheapest 69 rfl) ?_
    refine g_icmp_ge (tgt := 315) F (dAt dk_X6_cheapest 70 rfl) (by decide) h (fun c25 h => ?_) (fun c25 h => ?_)
    · refine g_iinc (lv' := [(8, .int (v8 + 1)), (0, .ref (ad 39)), (1, .int x1), (2, .int x2), (3, .int x3), (4, .int x4), (5, .int v5), (6, .int v6), (7, .int v7), (9, .int v9)]) F (dAt dk_X6_cheapest 174 rfl) 8 rfl (w := 1) (by decide) (by decide) rfl ?_
      refine g_goto (tgt := 104) F (dAt dk_X6_cheapest 175 rfl) (by decide) ?_
      refine g_sub (lv' := [(0, .ref (ad 39)), (1, .int x1), (2, .int x2), (3, .int x3), (4, .int x4), (5, .int v5), (6, .int v6), (7, .int v7), (8, .int (v8 + 1))]) [1, 2, 3, 4, 5, 6, 7, 8, 0] rfl ?_
      exact ih104 (v5, v6, v7, (v8 + 1), u0) h
    · refine g_aload_n F (dAt dk_X6_cheapest 71 rfl) 0 rfl ?_
      refine gg_Model_miles F (gm mw_870 rfl) (dAt dk_X6_cheapest 72 rfl) ?_
      refine g_bipush (v := 8) F (dAt dk_X6_cheapest 73 rfl) (by decide) ?_
      refine g_iload F (dAt dk_X6_cheapest 74 rfl) 8 rfl ?_
      refine g_imul F (dAt dk_X6_cheapest 75 rfl) ?_
      refine g_iload F (dAt dk_X6_cheapest 76 rfl) 9 rfl ?_
      refine g_iadd F (dAt dk_X6_cheapest 77 rfl) ?_
      refine g_ck h (fun hi26 h => ?_)
      refine g_ialoadm F am_miles (dAt dk_X6_cheapest 78 rfl) hi26 ?_
      refine g_lti h (fun y27 h => ?_)
      refine g_istore (lv' := [(10, .int y27), (0, .ref (ad 39)), (1, .int x1), (2, .int x2), (3, .int x3), (4, .int x4), (5, .int v5), (6, .int v6), (7, .int v7), (8, .int v8), (9, .int v9)]) F (dAt dk_X6_cheapest 79 rfl) (by decide) rfl ?_
      refine g_iload F (dAt dk_X6_cheapest 80 rfl) 0 rfl ?_
      refine g_if_ne (tgt := 151) F (dAt dk_X6_cheapest 81 rfl) (by decide) h (fun c28 h => ?_) (fun c28 h => ?_)
      · refine g_aload_n F (dAt dk_X6_cheapest 83 rfl) 1 rfl ?_
        refine g_iload F (dAt dk_X6_cheapest 84 rfl) 9 rfl ?_
        refine g_iload F (dAt dk_X6_cheapest 85 rfl) 10 rfl ?_
        refine g_iconst (v := 0) F (dAt dk_X6_cheapest 86 rfl) (by decide) ?_
        refine g_invV_im F mi_X6_lay (gm mw_1010 rfl) (dAt dk_X6_cheapest 87 rfl) (rcx_of F rc_Model) [.int v8, .int v9, .int 0] rfl rfl (by decide) (Nat.le_of_ble_eq_true rfl) h (fun _ _ hf => c_X6_lay hJ hf) (fun r29 t30 h => ?_)
        refine g_pop F (dAt dk_X6_cheapest 88 rfl) rfl ?_
        refine g_aload_n F (dAt dk_X6_cheapest 89 rfl) 1 rfl ?_
        refine g_invV_vm F mi_X6_walk (gm mw_1118 rfl) (dAt dk_X6_cheapest 90 rfl) (rcx_of F rc_Model) [] rfl rfl (by decide) (Nat.le_of_ble_eq_true rfl) h (fun _ _ hf => c_X6_walk hJ hf) (fun _ t31 h => ?_)
        refine g_aload_n F (dAt dk_X6_cheapest 91 rfl) 1 rfl ?_
        refine g_iload F (dAt dk_X6_cheapest 92 rfl) 9 rfl ?_
        refine g_iload F (dAt dk_X6_cheapest 93 rfl) 10 rfl ?_
        refine g_iload F (dAt dk_X6_cheapest 94 rfl) 0 rfl ?_
        refine g_invV_im F mi_X6_lay (gm mw_1010 rfl) (dAt dk_X6_cheapest 95 rfl) (rcx_of F rc_Model) [.int v8, .int v9, .int y27] rfl rfl (by decide) (Nat.le_of_ble_eq_true rfl) h (fun _ _ hf => c_X6_lay hJ hf) (fun r32 t33 h => ?_)
        refine g_pop F (dAt dk_X6_cheapest 96 rfl) rfl ?_
        refine g_aload_n F (dAt dk_X6_cheapest 97 rfl) 1 rfl ?_
        refine gg_Model_far F (gm mw_884 rfl) (dAt dk_X6_cheapest 98 rfl) ?_
        refine g_bipush (v := 8) F (dAt dk_X6_cheapest 99 rfl) (by decide) ?_
        refine g_iload_n F (dAt dk_X6_cheapest 100 rfl) 2 rfl ?_
        refine g_imul F (dAt dk_X6_cheapest 101 rfl) ?_
        refine g_iload F (dAt dk_X6_cheapest 102 rfl) 9 rfl ?_
        refine g_iadd F (dAt dk_X6_cheapest 103 rfl) ?_
        refine g_ck h (fun hi34 h => ?_)
        refine g_ialoadm F am_far (dAt dk_X6_cheapest 104 rfl) hi34 ?_
        refine g_aload_n F (dAt dk_X6_cheapest 105 rfl) 1 rfl ?_
        refine gg_Model_far F (gm mw_884 rfl) (dAt dk_X6_cheapest 106 rfl) ?_
        refine g_bipush (v := 8) F (dAt dk_X6_cheapest 107 rfl) (by decide) ?_
        refine g_iload F (dAt dk_X6_cheapest 108 rfl) 10 rfl ?_
        refine g_imul F (dAt dk_X6_cheapest 109 rfl) ?_
        refine g_iload_n F (dAt dk_X6_cheapest 110 rfl) 3 rfl ?_
        refine g_iadd F (dAt dk_X6_cheapest 111 rfl) ?_
        refine g_ck h (fun hi35 h => ?_)
        refine g_ialoadm F am_far (dAt dk_X6_cheapest 112 rfl) hi35 ?_
        refine g_iadd F (dAt dk_X6_cheapest 113 rfl) ?_
        refine g_aload_n F (dAt dk_X6_cheapest 114 rfl) 1 rfl ?_
        refine gg_Model_far F (gm mw_884 rfl) (dAt dk_X6_cheapest 115 rfl) ?_
        refine g_bipush (v := 8) F (dAt dk_X6_cheapest 116 rfl) (by decide) ?_
        refine g_iload_n F (dAt dk_X6_cheapest 117 rfl) 2 rfl ?_
        refine g_imul F (dAt dk_X6_cheapest 118 rfl) ?_
        refine g_iload F (dAt dk_X6_cheapest 119 rfl) 10 rfl ?_
        refine g_iadd F (dAt dk_X6_cheapest 120 rfl) ?_
        refine g_ck h (fun hi36 h => ?_)
        refine g_ialoadm F am_far (dAt dk_X6_cheapest 121 rfl) hi36 ?_
        refine g_aload_n F (dAt dk_X6_cheapest 122 rfl) 1 rfl ?_
        refine gg_Model_far F (gm mw_884 rfl) (dAt dk_X6_cheapest 123 rfl) ?_
        refine g_bipush (v := 8) F (dAt dk_X6_cheapest 124 rfl) (by decide) ?_
        refine g_iload F (dAt dk_X6_cheapest 125 rfl) 9 rfl ?_
        refine g_imul F (dAt dk_X6_cheapest 126 rfl) ?_
        refine g_iload_n F (dAt dk_X6_cheapest 127 rfl) 3 rfl ?_
        refine g_iadd F (dAt dk_X6_cheapest 128 rfl) ?_
        refine g_ck h (fun hi37 h => ?_)
        refine g_ialoadm F am_far (dAt dk_X6_cheapest 129 rfl) hi37 ?_
        refine g_iadd F (dAt dk_X6_cheapest 130 rfl) ?_
        refine g_mmin F (gm mw_1076 rfl) (dAt dk_X6_cheapest 131 rfl) (by decide) (Nat.le_of_ble_eq_true rfl) h (fun r38 h => ?_)
        refine g_istore (lv' := [(11, .int r38), (10, .int y27), (0, .ref (ad 39)), (1, .int x1), (2, .int x2), (3, .int x3), (4, .int x4), (5, .int v5), (6, .int v6), (7, .int v7), (8, .int v8), (9, .int v9)]) F (dAt dk_X6_cheapest 132 rfl) (by decide) rfl ?_
        refine g_iconst (v := 1) F (dAt dk_X6_cheapest 133 rfl) (by decide) ?_
        refine g_istore (lv' := [(12, .int 1), (11, .int r38), (10, .int y27), (0, .ref (ad 39)), (1, .int x1), (2, .int x2), (3, .int x3), (4, .int x4), (5, .int v5), (6, .int v6), (7, .int v7), (8, .int v8), (9, .int v9)]) F (dAt dk_X6_cheapest 134 rfl) (by decide) rfl ?_
        refine g_sub (lv' := [(0, .ref (ad 39)), (1, .int x1), (2, .int x2), (3, .int x3), (4, .int x4), (5, .int v5), (6, .int v6), (7, .int v7), (8, .int v8), (9, .int v9), (10, .int y27), (11, .int r38), (12, .int 1)]) [3, 4, 5, 6, 7, 8, 9, 10, 11, 12, 2, 1, 0] rfl ?_
        exact H234 self104 ih104 self119 ih119 n (v5, v6, v7, v8, v9, y27, r38, 1, t33) h
      · refine g_goto (tgt := 309) F (dAt dk_X6_cheapest 82 rfl) (by decide) ?_
        refine g_iinc (lv' := [(9, .int (v9 + 1)), (10, .int y27), (0, .ref (ad 39)), (1, .int x1), (2, .int x2), (3, .int x3), (4, .int x4), (5, .int v5), (6, .int v6), (7, .int v7), (8, .int v8)]) F (dAt dk_X6_cheapest 172 rfl) 10 rfl (w := 1) (by decide) (by decide) rfl ?_
        refine g_goto (tgt := 119) F (dAt dk_X6_cheapest 173 rfl) (by decide) ?_
        refine g_sub (lv' := [(0, .ref (ad 39)), (1, .int x1), (2, .int x2), (3, .int x3), (4, .int x4), (5, .int v5), (6, .int v6), (7, .int v7), (8, .int v8), (9, .int (v9 + 1))]) [2, 3, 4, 5, 6, 7, 8, 9, 10, 0] rfl ?_
        exact ih119 (v5, v6, v7, v8, (v9 + 1), u0) h
  have H104 : ∀ (k : Nat) (s : Int32 × Int32 × Int32 × Int32 × Mem), iter (bd_X6_cheapest_104 n x1 x2 x3 x4) k s = some (r, u') → G X D ad g t s.2.2.2.2 [(0, .ref (ad 39)), (1, .int x1), (2, .int x2), (3, .int x3), (4, .int x4), (5, .int s.1), (6, .int s.2.1), (7, .int s.2.2.1), (8, .int s.2.2.2.1)] 104 [] := by
    refine iter_walk (P := fun (s : Int32 × Int32 × Int32 × Int32 × Mem) => G X D ad g t s.2.2.2.2 [(0, .ref (ad 39)), (1, .int x1), (2, .int x2), (3, .int x3), (4, .int x4), (5, .int s.1), (6, .int s.2.1), (7, .int s.2.2.1), (8, .int s.2.2.2.1)] 104 []) (fun self104 ih104 s h => ?_)
    obtain ⟨v5, v6, v7, v8, u0⟩ := s
    change G X D ad g t u0 [(0, .ref (ad 39)), (1, .int x1), (2, .int x2), (3, .int x3), (4, .int x4), (5, .int v5), (6, .int v6), (7, .int v7), (8, .int v8)] 104 []
    unfold bd_X6_cheapest_104 at h; try dsimp only at h
    refine g_iload F (dAt dk_X6_cheapest 59 rfl) 8 rfl ?_
    refine g_aload_n F (dAt dk_X6_cheapest 60 rfl) 0 rfl ?_
    refine gg_Model_places F (gm mw_867 rfl) (dAt dk_X6_cheapest 61 rfl) ?_
    refine g_icmp_ge (tgt := 321) F (dAt dk_X6_cheapest 62 rfl) (by decide) h (fun c22 h => ?_) (fun c22 h => ?_)
    · refine g_iload F (dAt dk_X6_cheapest 176 rfl) 4 rfl ?_
      refine g_if_ne (tgt := 331) F (dAt dk_X6_cheapest 177 rfl) (by decide) h (fun c23 h => ?_) (fun c23 h => ?_)
      · refine g_iload F (dAt dk_X6_cheapest 180 rfl) 4 rfl ?_
        refine g_iconst (v := 1) F (dAt dk_X6_cheapest 181 rfl) (by decide) ?_
        refine g_icmp_ne (tgt := 342) F (dAt dk_X6_cheapest 182 rfl) (by decide) h (fun c24 h => ?_) (fun c24 h => ?_)
        · refine g_iload F (dAt dk_X6_cheapest 185 rfl) 7 rfl ?_
          cases h
          exact E (dAt dk_X6_cheapest 186 rfl) rfl
        · refine g_iload F (dAt dk_X6_cheapest 183 rfl) 6 rfl ?_
          refine g_goto (tgt := 344) F (dAt dk_X6_cheapest 184 rfl) (by decide) ?_
          cases h
          exact E (dAt dk_X6_cheapest 186 rfl) rfl
      · refine g_iload F (dAt dk_X6_cheapest 178 rfl) 5 rfl ?_
        refine g_goto (tgt := 344) F (dAt dk_X6_cheapest 179 rfl) (by decide) ?_
        cases h
        exact E (dAt dk_X6_cheapest 186 rfl) rfl
    · refine g_iload F (dAt dk_X6_cheapest 63 rfl) 8 rfl ?_
      refine g_iconst (v := 1) F (dAt dk_X6_cheapest 64 rfl) (by decide) ?_
      refine g_iadd F (dAt dk_X6_cheapest 65 rfl) ?_
      refine g_istore (lv' := [(9, .int (v8 + 1)), (0, .ref (ad 39)), (1, .int x1), (2, .int x2), (3, .int x3), (4, .int x4), (5, .int v5), (6, .int v6), (7, .int v7), (8, .int v8)]) F (dAt dk_X6_cheapest 66 rfl) (by decide) rfl ?_
      refine g_sub (lv' := [(0, .ref (ad 39)), (1, .int x1), (2, .int x2), (3, .int x3), (4, .int x4), (5, .int v5), (6, .int v6), (7, .int v7), (8, .int v8), (9, .int (v8 + 1))]) [1, 2, 3, 4, 5, 6, 7, 8, 9, 0] rfl ?_
      exact H119 self104 ih104 n (v5, v6, v7, v8, (v8 + 1), u0) h
  refine g_lv (lv' := [(0, .ref (ad 39)), (1, .int x1), (2, .int x2), (3, .int x3), (4, .int x4)]) rfl ?_
  unfold f_X6_cheapest at h
  refine g_aload_n F (dAt dk_X6_cheapest 0 rfl) 0 rfl ?_
  refine g_iload_n F (dAt dk_X6_cheapest 1 rfl) 1 rfl ?_
  refine g_invV_im F mi_X6_isPlace (gm mw_966 rfl) (dAt dk_X6_cheapest 2 rfl) (rcx_of F rc_Model) [.int x1] rfl rfl (by decide) (Nat.le_of_ble_eq_true rfl) h (fun _ _ hf => c_X6_isPlace hJ hf) (fun r1 t2 h => ?_)
  refine g_if_eq (tgt := 16) F (dAt dk_X6_cheapest 3 rfl) (by decide) h (fun c3 h => ?_) (fun c3 h => ?_)
  · refine g_sub (lv' := [(0, .ref (ad 39))]) [0] rfl ?_
    exact J16  t2 h
  · refine g_aload_n F (dAt dk_X6_cheapest 4 rfl) 0 rfl ?_
    refine g_iload_n F (dAt dk_X6_cheapest 5 rfl) 2 rfl ?_
    refine g_invV_im F mi_X6_isPlace (gm mw_966 rfl) (dAt dk_X6_cheapest 6 rfl) (rcx_of F rc_Model) [.int x2] rfl rfl (by decide) (Nat.le_of_ble_eq_true rfl) h (fun _ _ hf => c_X6_isPlace hJ hf) (fun r4 t5 h => ?_)
    refine g_if_ne (tgt := 22) F (dAt dk_X6_cheapest 7 rfl) (by decide) h (fun c6 h => ?_) (fun c6 h => ?_)
    · refine g_iload F (dAt dk_X6_cheapest 12 rfl) 4 rfl ?_
      refine g_iconst (v := 0) F (dAt dk_X6_cheapest 13 rfl) (by decide) ?_
      refine g_iconst (v := 2) F (dAt dk_X6_cheapest 14 rfl) (by decide) ?_
      refine g_invS_ip F ms_X6_within (gm mw_935 rfl) (dAt dk_X6_cheapest 15 rfl) [.int x4, .int 0, .int 2] rfl rfl (by decide) (Nat.le_of_ble_eq_true rfl) h (fun _ hf => c_X6_within hJ hf) (fun r7 h => ?_)
      refine g_if_ne (tgt := 39) F (dAt dk_X6_cheapest 16 rfl) (by decide) h (fun c8 h => ?_) (fun c8 h => ?_)
      · refine g_iload_n F (dAt dk_X6_cheapest 21 rfl) 1 rfl ?_
        refine g_iload_n F (dAt dk_X6_cheapest 22 rfl) 2 rfl ?_
        refine g_icmp_eq (tgt := 55) F (dAt dk_X6_cheapest 23 rfl) (by decide) h (fun c9 h => ?_) (fun c9 h => ?_)
        · refine g_sub (lv' := [(0, .ref (ad 39))]) [0] rfl ?_
          exact J55  t5 h
        · refine g_iload_n F (dAt dk_X6_cheapest 24 rfl) 3 rfl ?_
          refine g_iconst (v := 1) F (dAt dk_X6_cheapest 25 rfl) (by decide) ?_
          refine g_sipush (v := 9999) F (dAt dk_X6_cheapest 26 rfl) (by decide) ?_
          refine g_invS_ip F ms_X6_within (gm mw_935 rfl) (dAt dk_X6_cheapest 27 rfl) [.int x3, .int 1, .int 9999] rfl rfl (by decide) (Nat.le_of_ble_eq_true rfl) h (fun _ hf => c_X6_within hJ hf) (fun r10 h => ?_)
          refine g_if_ne (tgt := 62) F (dAt dk_X6_cheapest 28 rfl) (by decide) h (fun c11 h => ?_) (fun c11 h => ?_)
          · refine g_aload_n F (dAt dk_X6_cheapest 33 rfl) 0 rfl ?_
            refine g_invV_vm F mi_X6_walk (gm mw_1118 rfl) (dAt dk_X6_cheapest 34 rfl) (rcx_of F rc_Model) [] rfl rfl (by decide) (Nat.le_of_ble_eq_true rfl) h (fun _ _ hf => c_X6_walk hJ hf) (fun _ t12 h => ?_)
            refine g_aload_n F (dAt dk_X6_cheapest 35 rfl) 0 rfl ?_
            refine gg_Model_far F (gm mw_884 rfl) (dAt dk_X6_cheapest 36 rfl) ?_
            refine g_bipush (v := 8) F (dAt dk_X6_cheapest 37 rfl) (by decide) ?_
            refine g_iload_n F (dAt dk_X6_cheapest 38 rfl) 1 rfl ?_
            refine g_imul F (dAt dk_X6_cheapest 39 rfl) ?_
            refine g_iload_n F (dAt dk_X6_cheapest 40 rfl) 2 rfl ?_
            refine g_iadd F (dAt dk_X6_cheapest 41 rfl) ?_
            refine g_ck h (fun hi13 h => ?_)
            refine g_ialoadm F am_far (dAt dk_X6_cheapest 42 rfl) hi13 ?_
            refine g_iload_n F (dAt dk_X6_cheapest 43 rfl) 3 rfl ?_
            refine g_icmp_gt (tgt := 92) F (dAt dk_X6_cheapest 44 rfl) (by decide) h (fun c14 h => ?_) (fun c14 h => ?_)
            · refine g_iconst (v := (-1)) F (dAt dk_X6_cheapest 51 rfl) (by decide) ?_
              refine g_istore (lv' := [(5, .int (-1)), (0, .ref (ad 39)), (1, .int x1), (2, .int x2), (3, .int x3), (4, .int x4)]) F (dAt dk_X6_cheapest 52 rfl) (by decide) rfl ?_
              refine g_iconst (v := (-1)) F (dAt dk_X6_cheapest 53 rfl) (by decide) ?_
              refine g_istore (lv' := [(6, .int (-1)), (5, .int (-1)), (0, .ref (ad 39)), (1, .int x1), (2, .int x2), (3, .int x3), (4, .int x4)]) F (dAt dk_X6_cheapest 54 rfl) (by decide) rfl ?_
              refine g_iconst (v := (-1)) F (dAt dk_X6_cheapest 55 rfl) (by decide) ?_
              refine g_istore (lv' := [(7, .int (-1)), (6, .int (-1)), (5, .int (-1)), (0, .ref (ad 39)), (1, .int x1), (2, .int x2), (3, .int x3), (4, .int x4)]) F (dAt dk_X6_cheapest 56 rfl) (by decide) rfl ?_
              refine g_iconst (v := 0) F (dAt dk_X6_cheapest 57 rfl) (by decide) ?_
              refine g_istore (lv' := [(8, .int 0), (7, .int (-1)), (6, .int (-1)), (5, .int (-1)), (0, .ref (ad 39)), (1, .int x1), (2, .int x2), (3, .int x3), (4, .int x4)]) F (dAt dk_X6_cheapest 58 rfl) (by decide) rfl ?_
              refine g_sub (lv' := [(0, .ref (ad 39)), (1, .int x1), (2, .int x2), (3, .int x3), (4, .int x4), (5, .int (-1)), (6, .int (-1)), (7, .int (-1)), (8, .int 0)]) [4, 5, 6, 7, 8, 3, 2, 1, 0] rfl ?_
              exact H104  n ((-1), (-1), (-1), 0, t12) h
            · refine g_iload F (dAt dk_X6_cheapest 45 rfl) 4 rfl ?_
              refine g_if_ne (tgt := 90) F (dAt dk_X6_cheapest 46 rfl) (by decide) h (fun c15 h => ?_) (fun c15 h => ?_)
              · refine g_iconst (v := (-1)) F (dAt dk_X6_cheapest 49 rfl) (by decide) ?_
                cases h
                exact E (dAt dk_X6_cheapest 50 rfl) rfl
              · refine g_iconst (v := 0) F (dAt dk_X6_cheapest 47 rfl) (by decide) ?_
                refine g_goto (tgt := 91) F (dAt dk_X6_cheapest 48 rfl) (by decide) ?_
                cases h
                exact E (dAt dk_X6_cheapest 50 rfl) rfl
          · refine g_sub (lv' := [(0, .ref (ad 39))]) [0] rfl ?_
            exact J55  t5 h
      · refine g_aload_n F (dAt dk_X6_cheapest 17 rfl) 0 rfl ?_
        refine g_bipush (v := (-5)) F (dAt dk_X6_cheapest 18 rfl) (by decide) ?_
        refine g_invV_im F mi_X6_no10 (gm mw_1018 rfl) (dAt dk_X6_cheapest 19 rfl) (rcx_of F rc_Model) [.int (-5)] rfl rfl (by decide) (Nat.le_of_ble_eq_true rfl) h (fun _ _ hf => c_X6_no10 hJ hf) (fun r16 t17 h => ?_)
        cases h
        exact E (dAt dk_X6_cheapest 20 rfl) rfl
    · refine g_sub (lv' := [(0, .ref (ad 39))]) [0] rfl ?_
      exact J16  t5 h
theorem mi_X6_meet : MI yX6_meet cX6_meet 7 (some .int) "MillOfDistancesModel" 2 := ⟨(gm mw_1180 rfl), (gm mw_1178 rfl), (gm mw_1179 rfl), (gm mw_75 rfl), by decide +kernel, by decide⟩
theorem c_X6_meet {l : Launch} {D : va_G} {ad : Nat → Nat} {g : Gv} {t u : Mem} {n : Nat} {x1 : Int32} {x2 : Int32} {u' : Mem} {r : Int32} (hJ : Jad ad) (h : f_X6_meet n x1 x2 u = some (r, u')) : ConI l yX6_meet cX6_meet 7 (some .int) 2 [.ref (ad 39), .int x1, .int x2] D ad g t u t u' r := by
  refine con_i hJ (by decide) (Nat.le_of_ble_eq_true rfl) rfl (fun X F E => ?_)
  have J16 : ∀ (u0 : Mem), jn_X6_meet_16 n x1 x2 u0 = some (r, u') → G X D ad g t u0 [(0, .ref (ad 39))] 16 [] := by
    intro u0 h
    unfold jn_X6_meet_16 at h
    refine g_aload_n F (dAt dk_X6_meet 8 rfl) 0 rfl ?_
    refine g_iconst (v := (-1)) F (dAt dk_X6_meet 9 rfl) (by decide) ?_
    refine g_invV_im F mi_X6_no10 (gm mw_1018 rfl) (dAt dk_X6_meet 10 rfl) (rcx_of F rc_Model) [.int (-1)] rfl rfl (by decide) (Nat.le_of_ble_eq_true rfl) h (fun _ _ hf => c_X6_no10 hJ hf) (fun r8 t9 h => ?_)
    cases h
    exact E (dAt dk_X6_meet 11 rfl) rfl
  have H36 : ∀ (k : Nat) (s : Int32 × Int32 × Int32 × Mem), iter (bd_X6_meet_36 n x1 x2) k s = some (r, u') → G X D ad g t s.2.2.2 [(0, .ref (ad 39)), (1, .int x1), (2, .int x2), (3, .int s.1), (4, .int s.2.1), (5, .int s.2.2.1)] 36 [] := by
    refine iter_walk (P := fun (s : Int32 × Int32 × Int32 × Mem) => G X D ad g t s.2.2.2 [(0, .ref (ad 39)), (1, .int x1), (2, .int x2), (3, .int s.1), (4, .int s.2.1), (5, .int s.2.2.1)] 36 []) (fun self36 ih36 s h => ?_)
    obtain ⟨v3, v4, v5, u0⟩ := s
    change G X D ad g t u0 [(0, .ref (ad 39)), (1, .int x1), (2, .int x2), (3, .int v3), (4, .int v4), (5, .int v5)] 36 []
    unfold bd_X6_meet_36 at h; try dsimp only at h
    refine g_iload F (dAt dk_X6_meet 20 rfl) 5 rfl ?_
    refine g_aload_n F (dAt dk_X6_meet 21 rfl) 0 rfl ?_
    refine gg_Model_places F (gm mw_867 rfl) (dAt dk_X6_meet 22 rfl) ?_
    refine g_icmp_ge (tgt := 97) F (dAt dk_X6_meet 23 rfl) (by decide) h (fun c10 h => ?_) (fun c10 h => ?_)
    · refine g_iload_n F (dAt dk_X6_meet 52 rfl) 3 rfl ?_
      cases h
      exact E (dAt dk_X6_meet 53 rfl) rfl
    · refine g_aload_n F (dAt dk_X6_meet 24 rfl) 0 rfl ?_
      refine gg_Model_far F (gm mw_884 rfl) (dAt dk_X6_meet 25 rfl) ?_
      refine g_bipush (v := 8) F (dAt dk_X6_meet 26 rfl) (by decide) ?_
      refine g_iload_n F (dAt dk_X6_meet 27 rfl) 1 rfl ?_
      refine g_imul F (dAt dk_X6_meet 28 rfl) ?_
      refine g_iload F (dAt dk_X6_meet 29 rfl) 5 rfl ?_
      refine g_iadd F (dAt dk_X6_meet 30 rfl) ?_
      refine g_ck h (fun hi11 h => ?_)
      refine g_ialoadm F am_far (dAt dk_X6_meet 31 rfl) hi11 ?_
      refine g_aload_n F (dAt dk_X6_meet 32 rfl) 0 rfl ?_
      refine gg_Model_far F (gm mw_884 rfl) (dAt dk_X6_meet 33 rfl) ?_
      refine g_bipush (v := 8) F (dAt dk_X6_meet 34 rfl) (by decide) ?_
      refine g_iload_n F (dAt dk_X6_meet 35 rfl) 2 rfl ?_
      refine g_imul F (dAt dk_X6_meet 36 rfl) ?_
      refine g_iload F (dAt dk_X6_meet 37 rfl) 5 rfl ?_
      refine g_iadd F (dAt dk_X6_meet 38 rfl) ?_
      refine g_ck h (fun hi12 h => ?_)
      refine g_ialoadm F am_far (dAt dk_X6_meet 39 rfl) hi12 ?_
      refine g_mmax F (gm mw_993 rfl) (dAt dk_X6_meet 40 rfl) (by decide) (Nat.le_of_ble_eq_true rfl) h (fun r13 h => ?_)
      refine g_istore (lv' := [(6, .int r13), (0, .ref (ad 39)), (1, .int x1), (2, .int x2), (3, .int v3), (4, .int v4), (5, .int v5)]) F (dAt dk_X6_meet 41 rfl) (by decide) rfl ?_
      refine g_iload F (dAt dk_X6_meet 42 rfl) 0 rfl ?_
      refine g_iload F (dAt dk_X6_meet 43 rfl) 5 rfl ?_
      refine g_icmp_lt (tgt := 84) F (dAt dk_X6_meet 44 rfl) (by decide) h (fun c14 h => ?_) (fun c14 h => ?_)
      · refine g_iload F (dAt dk_X6_meet 46 rfl) 0 rfl ?_
        refine g_istore (lv' := [(4, .int r13), (6, .int r13), (0, .ref (ad 39)), (1, .int x1), (2, .int x2), (3, .int v3), (5, .int v5)]) F (dAt dk_X6_meet 47 rfl) (by decide) rfl ?_
        refine g_iload F (dAt dk_X6_meet 48 rfl) 6 rfl ?_
        refine g_istore_n (lv' := [(3, .int v5), (4, .int r13), (6, .int r13), (0, .ref (ad 39)), (1, .int x1), (2, .int x2), (5, .int v5)]) F (dAt dk_X6_meet 49 rfl) (by decide) rfl ?_
        refine g_iinc (lv' := [(5, .int (v5 + 1)), (3, .int v5), (4, .int r13), (6, .int r13), (0, .ref (ad 39)), (1, .int x1), (2, .int x2)]) F (dAt dk_X6_meet 50 rfl) 6 rfl (w := 1) (by decide) (by decide) rfl ?_
        refine g_goto (tgt := 36) F (dAt dk_X6_meet 51 rfl) (by decide) ?_
        refine g_sub (lv' := [(0, .ref (ad 39)), (1, .int x1), (2, .int x2), (3, .int v5), (4, .int r13), (5, .int (v5 + 1))]) [4, 5, 6, 1, 2, 0] rfl ?_
        exact ih36 (v5, r13, (v5 + 1), u0) h
      · refine g_goto (tgt := 91) F (dAt dk_X6_meet 45 rfl) (by decide) ?_
        refine g_iinc (lv' := [(5, .int (v5 + 1)), (6, .int r13), (0, .ref (ad 39)), (1, .int x1), (2, .int x2), (3, .int v3), (4, .int v4)]) F (dAt dk_X6_meet 50 rfl) 6 rfl (w := 1) (by decide) (by decide) rfl ?_
        refine g_goto (tgt := 36) F (dAt dk_X6_meet 51 rfl) (by decide) ?_
        refine g_sub (lv' := [(0, .ref (ad 39)), (1, .int x1), (2, .int x2), (3, .int v3), (4, .int v4), (5, .int (v5 + 1))]) [2, 3, 4, 5, 6, 0] rfl ?_
        exact ih36 (v3, v4, (v5 + 1), u0) h
  refine g_lv (lv' := [(0, .ref (ad 39)), (1, .int x1), (2, .int x2)]) rfl ?_
  unfold f_X6_meet at h
  refine g_aload_n F (dAt dk_X6_meet 0 rfl) 0 rfl ?_
  refine g_iload_n F (dAt dk_X6_meet 1 rfl) 1 rfl ?_
  refine g_invV_im F mi_X6_isPlace (gm mw_966 rfl) (dAt dk_X6_meet 2 rfl) (rcx_of F rc_Model) [.int x1] rfl rfl (by decide) (Nat.le_of_ble_eq_true rfl) h (fun _ _ hf => c_X6_isPlace hJ hf) (fun r1 t2 h => ?_)
  refine g_if_eq (tgt := 16) F (dAt dk_X6_meet 3 rfl) (by decide) h (fun c3 h => ?_) (fun c3 h => ?_)
  · refine g_sub (lv' := [(0, .ref (ad 39))]) [0] rfl ?_
    exact J16  t2 h
  · refine g_aload_n F (dAt dk_X6_meet 4 rfl) 0 rfl ?_
    refine g_iload_n F (dAt dk_X6_meet 5 rfl) 2 rfl ?_
    refine g_invV_im F mi_X6_isPlace (gm mw_966 rfl) (dAt dk_X6_meet 6 rfl) (rcx_of F rc_Model) [.int x2] rfl rfl (by decide) (Nat.le_of_ble_eq_true rfl) h (fun _ _ hf => c_X6_isPlace hJ hf) (fun r4 t5 h => ?_)
    refine g_if_ne (tgt := 22) F (dAt dk_X6_meet 7 rfl) (by decide) h (fun c6 h => ?_) (fun c6 h => ?_)
    · refine g_aload_n F (dAt dk_X6_meet 12 rfl) 0 rfl ?_
      refine g_invV_vm F mi_X6_walk (gm mw_1118 rfl) (dAt dk_X6_meet 13 rfl) (rcx_of F rc_Model) [] rfl rfl (by decide) (Nat.le_of_ble_eq_true rfl) h (fun _ _ hf => c_X6_walk hJ hf) (fun _ t7 h => ?_)
      refine g_iconst (v := (-1)) F (dAt dk_X6_meet 14 rfl) (by decide) ?_
      refine g_istore_n (lv' := [(3, .int (-1)), (0, .ref (ad 39)), (1, .int x1), (2, .int x2)]) F (dAt dk_X6_meet 15 rfl) (by decide) rfl ?_
      refine g_sipush (v := 10000) F (dAt dk_X6_meet 16 rfl) (by decide) ?_
      refine g_istore (lv' := [(4, .int 10000), (3, .int (-1)), (0, .ref (ad 39)), (1, .int x1), (2, .int x2)]) F (dAt dk_X6_meet 17 rfl) (by decide) rfl ?_
      refine g_iconst (v := 0) F (dAt dk_X6_meet 18 rfl) (by decide) ?_
      refine g_istore (lv' := [(5, .int 0), (4, .int 10000), (3, .int (-1)), (0, .ref (ad 39)), (1, .int x1), (2, .int x2)]) F (dAt dk_X6_meet 19 rfl) (by decide) rfl ?_
      refine g_sub (lv' := [(0, .ref (ad 39)), (1, .int x1), (2, .int x2), (3, .int (-1)), (4, .int 10000), (5, .int 0)]) [3, 4, 5, 2, 1, 0] rfl ?_
      exact H36  n ((-1), 10000, 0, t7) h
    · refine g_sub (lv' := [(0, .ref (ad 39))]) [0] rfl ?_
      exact J16  t5 h
theorem mi_X6_told : MI yX6_told cX6_told 3 (some .int) "MillOfDistancesModel" 2 := ⟨(gm mw_1193 rfl), (gm mw_1192 rfl), (gm mw_57 rfl), (gm mw_75 rfl), by decide +kernel, by decide⟩
theorem c_X6_told {l : Launch} {D : va_G} {ad : Nat → Nat} {g : Gv} {t u : Mem} {x1 : Int32} {x2 : Int32} {u' : Mem} {r : Int32} (hJ : Jad ad) (h : f_X6_told x1 x2 u = some (r, u')) : ConI l yX6_told cX6_told 3 (some .int) 0 [.ref (ad 39), .int x1, .int x2] D ad g t u t u' r := by
  refine con_i hJ (by decide) (Nat.le_of_ble_eq_true rfl) rfl (fun X F E => ?_)
  refine g_lv (lv' := [(0, .ref (ad 39)), (1, .int x1), (2, .int x2)]) rfl ?_
  unfold f_X6_told at h
  refine g_aload_n F (dAt dk_X6_told 0 rfl) 0 rfl ?_
  refine gg_Model_rowOf F (gm mw_866 rfl) (dAt dk_X6_told 1 rfl) ?_
  refine g_sipush (v := 160) F (dAt dk_X6_told 2 rfl) (by decide) ?_
  refine g_iload_n F (dAt dk_X6_told 3 rfl) 1 rfl ?_
  refine g_imul F (dAt dk_X6_told 4 rfl) ?_
  refine g_iload_n F (dAt dk_X6_told 5 rfl) 2 rfl ?_
  refine g_iadd F (dAt dk_X6_told 6 rfl) ?_
  refine g_ck h (fun hi1 h => ?_)
  refine g_laloadm F am_rowOf (dAt dk_X6_told 7 rfl) hi1 ?_
  refine g_l2i F (dAt dk_X6_told 8 rfl) ?_
  cases h
  exact E (dAt dk_X6_told 9 rfl) rfl
theorem mi_X6_noJourney : MI yX6_noJourney cX6_noJourney 7 (some .int) "MillOfDistancesModel" 2 := ⟨(gm mw_1188 rfl), (gm mw_1187 rfl), (gm mw_56 rfl), (gm mw_75 rfl), by decide +kernel, by decide⟩
theorem c_X6_noJourney {l : Launch} {D : va_G} {ad : Nat → Nat} {g : Gv} {t u : Mem} {n : Nat} {x1 : Int32} {x2 : Int32} {u' : Mem} {r : Int32} (hJ : Jad ad) (h : f_X6_noJourney n x1 x2 u = some (r, u')) : ConI l yX6_noJourney cX6_noJourney 7 (some .int) 2 [.ref (ad 39), .int x1, .int x2] D ad g t u t u' r := by
  refine con_i hJ (by decide) (Nat.le_of_ble_eq_true rfl) rfl (fun X F E => ?_)
  have J147 : ∀ (self51 : Int32 × Mem → Option (Int32 × Mem)), (∀ s, self51 s = some (r, u') → G X D ad g t s.2 [(0, .ref (ad 39)), (1, .int x1), (2, .int x2), (4, .int s.1)] 51 []) → ∀ (v4 : Int32) (w0 : Int32) (w1 : Int32) (u0 : Mem), jn_X6_noJourney_147 n x1 x2 self51 v4 w0 w1 u0 = some (r, u') → G X D ad g t u0 [(0, .ref (ad 39)), (1, .int x1), (2, .int x2), (4, .int v4)] 147 [.int w0, .int w1] := by
    intro self51 ih51 v4 w0 w1 u0 h
    unfold jn_X6_noJourney_147 at h
    refine g_icmp_ge (tgt := 153) F (dAt dk_X6_noJourney 85 rfl) (by decide) h (fun c30 h => ?_) (fun c30 h => ?_)
    · refine g_iinc (lv' := [(4, .int (v4 + 4)), (0, .ref (ad 39)), (1, .int x1), (2, .int x2)]) F (dAt dk_X6_noJourney 88 rfl) 3 rfl (w := 4) (by decide) (by decide) rfl ?_
      refine g_goto (tgt := 51) F (dAt dk_X6_noJourney 89 rfl) (by decide) ?_
      refine g_sub (lv' := [(0, .ref (ad 39)), (1, .int x1), (2, .int x2), (4, .int (v4 + 4))]) [1, 2, 3, 0] rfl ?_
      exact ih51 ((v4 + 4), u0) h
    · refine g_bipush (v := (-6)) F (dAt dk_X6_noJourney 86 rfl) (by decide) ?_
      cases h
      exact E (dAt dk_X6_noJourney 87 rfl) rfl
  have H51 : ∀ (k : Nat) (s : Int32 × Mem), iter (bd_X6_noJourney_51 n x1 x2) k s = some (r, u') → G X D ad g t s.2 [(0, .ref (ad 39)), (1, .int x1), (2, .int x2), (4, .int s.1)] 51 [] := by
    refine iter_walk (P := fun (s : Int32 × Mem) => G X D ad g t s.2 [(0, .ref (ad 39)), (1, .int x1), (2, .int x2), (4, .int s.1)] 51 []) (fun self51 ih51 s h => ?_)
    obtain ⟨v4, u0⟩ := s
    change G X D ad g t u0 [(0, .ref (ad 39)), (1, .int x1), (2, .int x2), (4, .int v4)] 51 []
    unfold bd_X6_noJourney_51 at h; try dsimp only at h
    refine g_iload F (dAt dk_X6_noJourney 32 rfl) 3 rfl ?_
    refine g_iconst (v := 4) F (dAt dk_X6_noJourney 33 rfl) (by decide) ?_
    refine g_iload_n F (dAt dk_X6_noJourney 34 rfl) 2 rfl ?_
    refine g_imul F (dAt dk_X6_noJourney 35 rfl) ?_
    refine g_icmp_ge (tgt := 159) F (dAt dk_X6_noJourney 36 rfl) (by decide) h (fun c8 h => ?_) (fun c8 h => ?_)
    · refine g_iconst (v := 0) F (dAt dk_X6_noJourney 90 rfl) (by decide) ?_
      cases h
      exact E (dAt dk_X6_noJourney 91 rfl) rfl
    · refine g_aload_n F (dAt dk_X6_noJourney 37 rfl) 0 rfl ?_
      refine g_iload_n F (dAt dk_X6_noJourney 38 rfl) 1 rfl ?_
      refine g_iload F (dAt dk_X6_noJourney 39 rfl) 3 rfl ?_
      refine g_invV_im F mi_X6_told (gm mw_1190 rfl) (dAt dk_X6_noJourney 40 rfl) (rcx_of F rc_Model) [.int x1, .int v4] rfl rfl (by decide) (Nat.le_of_ble_eq_true rfl) h (fun _ _ hf => c_X6_told hJ hf) (fun r9 t10 h => ?_)
      refine g_istore (lv' := [(5, .int r9), (0, .ref (ad 39)), (1, .int x1), (2, .int x2), (4, .int v4)]) F (dAt dk_X6_noJourney 41 rfl) (by decide) rfl ?_
      refine g_aload_n F (dAt dk_X6_noJourney 42 rfl) 1 rfl ?_
      refine g_iload_n F (dAt dk_X6_noJourney 43 rfl) 2 rfl ?_
      refine g_iload F (dAt dk_X6_noJourney 44 rfl) 4 rfl ?_
      refine g_iconst (v := 1) F (dAt dk_X6_noJourney 45 rfl) (by decide) ?_
      refine g_iadd F (dAt dk_X6_noJourney 46 rfl) ?_
      refine g_invV_im F mi_X6_told (gm mw_1190 rfl) (dAt dk_X6_noJourney 47 rfl) (rcx_of F rc_Model) [.int x1, .int (v4 + 1)] rfl rfl (by decide) (Nat.le_of_ble_eq_true rfl) h (fun _ _ hf => c_X6_told hJ hf) (fun r11 t12 h => ?_)
      refine g_istore (lv' := [(6, .int r11), (5, .int r9), (0, .ref (ad 39)), (1, .int x1), (2, .int x2), (4, .int v4)]) F (dAt dk_X6_noJourney 48 rfl) (by decide) rfl ?_
      refine g_aload_n F (dAt dk_X6_noJourney 49 rfl) 2 rfl ?_
      refine g_iload F (dAt dk_X6_noJourney 50 rfl) 1 rfl ?_
      refine g_invV_im F mi_X6_isPlace (gm mw_966 rfl) (dAt dk_X6_noJourney 51 rfl) (rcx_of F rc_Model) [.int r9] rfl rfl (by decide) (Nat.le_of_ble_eq_true rfl) h (fun _ _ hf => c_X6_isPlace hJ hf) (fun r13 t14 h => ?_)
      refine g_if_eq (tgt := 150) F (dAt dk_X6_noJourney 52 rfl) (by decide) h (fun c15 h => ?_) (fun c15 h => ?_)
      · refine g_bipush (v := (-6)) F (dAt dk_X6_noJourney 86 rfl) (by decide) ?_
        cases h
        exact E (dAt dk_X6_noJourney 87 rfl) rfl
      · refine g_aload_n F (dAt dk_X6_noJourney 53 rfl) 2 rfl ?_
        refine g_iload F (dAt dk_X6_noJourney 54 rfl) 0 rfl ?_
        refine g_invV_im F mi_X6_isPlace (gm mw_966 rfl) (dAt dk_X6_noJourney 55 rfl) (rcx_of F rc_Model) [.int r11] rfl rfl (by decide) (Nat.le_of_ble_eq_true rfl) h (fun _ _ hf => c_X6_isPlace hJ hf) (fun r16 t17 h => ?_)
        refine g_if_eq (tgt := 150) F (dAt dk_X6_noJourney 56 rfl) (by decide) h (fun c18 h => ?_) (fun c18 h => ?_)
        · refine g_bipush (v := (-6)) F (dAt dk_X6_noJourney 86 rfl) (by decide) ?_
          cases h
          exact E (dAt dk_X6_noJourney 87 rfl) rfl
        · refine g_aload_n F (dAt dk_X6_noJourney 57 rfl) 2 rfl ?_
          refine g_iload F (dAt dk_X6_noJourney 58 rfl) 1 rfl ?_
          refine g_iload F (dAt dk_X6_noJourney 59 rfl) 0 rfl ?_
          refine g_invV_im F mi_X6_noRoad (gm mw_1084 rfl) (dAt dk_X6_noJourney 60 rfl) (rcx_of F rc_Model) [.int r9, .int r11] rfl rfl (by decide) (Nat.le_of_ble_eq_true rfl) h (fun _ _ hf => c_X6_noRoad hJ hf) (fun r19 t20 h => ?_)
          refine g_if_ne (tgt := 150) F (dAt dk_X6_noJourney 61 rfl) (by decide) h (fun c21 h => ?_) (fun c21 h => ?_)
          · refine g_bipush (v := (-6)) F (dAt dk_X6_noJourney 86 rfl) (by decide) ?_
            cases h
            exact E (dAt dk_X6_noJourney 87 rfl) rfl
          · refine g_aload_n F (dAt dk_X6_noJourney 62 rfl) 2 rfl ?_
            refine g_iload_n F (dAt dk_X6_noJourney 63 rfl) 3 rfl ?_
            refine g_iload F (dAt dk_X6_noJourney 64 rfl) 5 rfl ?_
            refine g_iconst (v := 2) F (dAt dk_X6_noJourney 65 rfl) (by decide) ?_
            refine g_iadd F (dAt dk_X6_noJourney 66 rfl) ?_
            refine g_invV_im F mi_X6_told (gm mw_1190 rfl) (dAt dk_X6_noJourney 67 rfl) (rcx_of F rc_Model) [.int x1, .int (v4 + 2)] rfl rfl (by decide) (Nat.le_of_ble_eq_true rfl) h (fun _ _ hf => c_X6_told hJ hf) (fun r22 t23 h => ?_)
            refine g_if_eq (tgt := 150) F (dAt dk_X6_noJourney 68 rfl) (by decide) h (fun c24 h => ?_) (fun c24 h => ?_)
            · refine g_bipush (v := (-6)) F (dAt dk_X6_noJourney 86 rfl) (by decide) ?_
              cases h
              exact E (dAt dk_X6_noJourney 87 rfl) rfl
            · refine g_aload_n F (dAt dk_X6_noJourney 69 rfl) 2 rfl ?_
              refine g_iload_n F (dAt dk_X6_noJourney 70 rfl) 3 rfl ?_
              refine g_iload F (dAt dk_X6_noJourney 71 rfl) 5 rfl ?_
              refine g_iconst (v := 3) F (dAt dk_X6_noJourney 72 rfl) (by decide) ?_
              refine g_iadd F (dAt dk_X6_noJourney 73 rfl) ?_
              refine g_invV_im F mi_X6_told (gm mw_1190 rfl) (dAt dk_X6_noJourney 74 rfl) (rcx_of F rc_Model) [.int x1, .int (v4 + 3)] rfl rfl (by decide) (Nat.le_of_ble_eq_true rfl) h (fun _ _ hf => c_X6_told hJ hf) (fun r25 t26 h => ?_)
              refine g_iload F (dAt dk_X6_noJourney 75 rfl) 5 rfl ?_
              refine g_if_ne (tgt := 138) F (dAt dk_X6_noJourney 76 rfl) (by decide) h (fun c27 h => ?_) (fun c27 h => ?_)
              · refine g_aload_n F (dAt dk_X6_noJourney 79 rfl) 2 rfl ?_
                refine g_iload_n F (dAt dk_X6_noJourney 80 rfl) 3 rfl ?_
                refine g_iload F (dAt dk_X6_noJourney 81 rfl) 5 rfl ?_
                refine g_iconst (v := 1) F (dAt dk_X6_noJourney 82 rfl) (by decide) ?_
                refine g_isub F (dAt dk_X6_noJourney 83 rfl) ?_
                refine g_invV_im F mi_X6_told (gm mw_1190 rfl) (dAt dk_X6_noJourney 84 rfl) (rcx_of F rc_Model) [.int x1, .int (v4 - 1)] rfl rfl (by decide) (Nat.le_of_ble_eq_true rfl) h (fun _ _ hf => c_X6_told hJ hf) (fun r28 t29 h => ?_)
                refine g_sub (lv' := [(0, .ref (ad 39)), (1, .int x1), (2, .int x2), (4, .int v4)]) [2, 3, 4, 5] rfl ?_
                exact J147 self51 ih51 v4 r28 r25 t29 h
              · refine g_iconst (v := 0) F (dAt dk_X6_noJourney 77 rfl) (by decide) ?_
                refine g_goto (tgt := 147) F (dAt dk_X6_noJourney 78 rfl) (by decide) ?_
                refine g_sub (lv' := [(0, .ref (ad 39)), (1, .int x1), (2, .int x2), (4, .int v4)]) [2, 3, 4, 5] rfl ?_
                exact J147 self51 ih51 v4 0 r25 t26 h
  refine g_lv (lv' := [(0, .ref (ad 39)), (1, .int x1), (2, .int x2)]) rfl ?_
  unfold f_X6_noJourney at h
  refine g_aload_n F (dAt dk_X6_noJourney 0 rfl) 0 rfl ?_
  refine g_iload_n F (dAt dk_X6_noJourney 1 rfl) 1 rfl ?_
  refine g_invV_im F mi_X6_noRow (gm mw_946 rfl) (dAt dk_X6_noJourney 2 rfl) (rcx_of F rc_Model) [.int x1] rfl rfl (by decide) (Nat.le_of_ble_eq_true rfl) h (fun _ _ hf => c_X6_noRow hJ hf) (fun r1 t2 h => ?_)
  refine g_istore_n (lv' := [(3, .int r1), (0, .ref (ad 39)), (1, .int x1), (2, .int x2)]) F (dAt dk_X6_noJourney 3 rfl) (by decide) rfl ?_
  refine g_iload_n F (dAt dk_X6_noJourney 4 rfl) 0 rfl ?_
  refine g_if_ge (tgt := 12) F (dAt dk_X6_noJourney 5 rfl) (by decide) h (fun c3 h => ?_) (fun c3 h => ?_)
  · refine g_iload_n F (dAt dk_X6_noJourney 8 rfl) 3 rfl ?_
    refine g_if_ge (tgt := 19) F (dAt dk_X6_noJourney 9 rfl) (by decide) h (fun c4 h => ?_) (fun c4 h => ?_)
    · refine g_ldc2 (v := 4) F (dAt dk_X6_noJourney 12 rfl) (gm mw_1189 rfl) ?_
      refine g_iload_n F (dAt dk_X6_noJourney 13 rfl) 3 rfl ?_
      refine g_i2l F (dAt dk_X6_noJourney 14 rfl) ?_
      refine g_lmul F (dAt dk_X6_noJourney 15 rfl) ?_
      refine g_aload_n F (dAt dk_X6_noJourney 16 rfl) 1 rfl ?_
      refine gg_Model_rowLength F (gm mw_865 rfl) (dAt dk_X6_noJourney 17 rfl) ?_
      refine g_iload_n F (dAt dk_X6_noJourney 18 rfl) 2 rfl ?_
      refine g_ck h (fun hi5 h => ?_)
      refine g_ialoadm F am_rowLength (dAt dk_X6_noJourney 19 rfl) hi5 ?_
      refine g_i2l F (dAt dk_X6_noJourney 20 rfl) ?_
      refine g_lcmp F (dAt dk_X6_noJourney 21 rfl) ?_
      refine g_if_le (tgt := 39) F (dAt dk_X6_noJourney 22 rfl) (by decide) h (fun c6 h => ?_) (fun c6 h => ?_)
      · refine g_iload_n F (dAt dk_X6_noJourney 25 rfl) 3 rfl ?_
        refine g_bipush (v := 10) F (dAt dk_X6_noJourney 26 rfl) (by decide) ?_
        refine g_icmp_le (tgt := 48) F (dAt dk_X6_noJourney 27 rfl) (by decide) h (fun c7 h => ?_) (fun c7 h => ?_)
        · refine g_iconst (v := 0) F (dAt dk_X6_noJourney 30 rfl) (by decide) ?_
          refine g_istore (lv' := [(4, .int 0), (3, .int r1), (0, .ref (ad 39)), (1, .int x1), (2, .int x2)]) F (dAt dk_X6_noJourney 31 rfl) (by decide) rfl ?_
          refine g_sub (lv' := [(0, .ref (ad 39)), (1, .int x1), (2, .int x2), (4, .int 0)]) [2, 3, 4, 0] rfl ?_
          exact H51  n (0, t2) h
        · refine g_bipush (v := (-6)) F (dAt dk_X6_noJourney 28 rfl) (by decide) ?_
          cases h
          exact E (dAt dk_X6_noJourney 29 rfl) rfl
      · refine g_bipush (v := (-5)) F (dAt dk_X6_noJourney 23 rfl) (by decide) ?_
        cases h
        exact E (dAt dk_X6_noJourney 24 rfl) rfl
    · refine g_bipush (v := (-4)) F (dAt dk_X6_noJourney 10 rfl) (by decide) ?_
      cases h
      exact E (dAt dk_X6_noJourney 11 rfl) rfl
  · refine g_iload_n F (dAt dk_X6_noJourney 6 rfl) 0 rfl ?_
    cases h
    exact E (dAt dk_X6_noJourney 7 rfl) rfl
theorem mi_X6_journey : MI yX6_journey cX6_journey 12 (some .int) "MillOfDistancesModel" 4 := ⟨(gm mw_1184 rfl), (gm mw_1182 rfl), (gm mw_1183 rfl), (gm mw_75 rfl), by decide +kernel, by decide⟩
set_option maxRecDepth 20000 in
theorem c_X6_journey {l : Launch} {D : va_G} {ad : Nat → Nat} {g : Gv} {t u : Mem} {n : Nat} {x1 : Int32} {x2 : Int32} {x3 : Int32} {x4 : Int32} {u' : Mem} {r : Int32} (hJ : Jad ad) (h : f_X6_journey n x1 x2 x3 x4 u = some (r, u')) : ConI l yX6_journey cX6_journey 12 (some .int) 3 [.ref (ad 39), .int x1, .int x2, .int x3, .int x4] D ad g t u t u' r := by
  refine con_i hJ (by decide) (Nat.le_of_ble_eq_true rfl) rfl (fun X F E => ?_)
  have J16 : ∀ (u0 : Mem), jn_X6_journey_16 n x1 x2 x3 x4 u0 = some (r, u') → G X D ad g t u0 [(0, .ref (ad 39))] 16 [] := by
    intro u0 h
    unfold jn_X6_journey_16 at h
    refine g_aload_n F (dAt dk_X6_journey 8 rfl) 0 rfl ?_
    refine g_iconst (v := (-1)) F (dAt dk_X6_journey 9 rfl) (by decide) ?_
    refine g_invV_im F mi_X6_no10 (gm mw_1018 rfl) (dAt dk_X6_journey 10 rfl) (rcx_of F rc_Model) [.int (-1)] rfl rfl (by decide) (Nat.le_of_ble_eq_true rfl) h (fun _ _ hf => c_X6_no10 hJ hf) (fun r13 t14 h => ?_)
    cases h
    exact E (dAt dk_X6_journey 11 rfl) rfl
  have J168 : ∀ (self63 : Int32 × Int32 × Int32 × Int32 × Mem → Option (Int32 × Mem)), (∀ s, self63 s = some (r, u') → G X D ad g t s.2.2.2.2 [(0, .ref (ad 39)), (2, .int x2), (3, .int x3), (4, .int x4), (6, .int s.1), (7, .int s.2.1), (8, .int s.2.2.1), (9, .int s.2.2.2.1)] 63 []) → ∀ (v6 : Int32) (v7 : Int32) (v8 : Int32) (v9 : Int32) (u0 : Mem), jn_X6_journey_168 n x1 x2 x3 x4 self63 v6 v7 v8 v9 u0 = some (r, u') → G X D ad g t u0 [(0, .ref (ad 39)), (2, .int x2), (3, .int x3), (4, .int x4), (6, .int v6), (7, .int v7), (8, .int v8), (9, .int v9)] 168 [] := by
    intro self63 ih63 v6 v7 v8 v9 u0 h
    unfold jn_X6_journey_168 at h
    refine g_aload_n F (dAt dk_X6_journey 97 rfl) 0 rfl ?_
    refine g_invV_vm F mi_X6_walk (gm mw_1118 rfl) (dAt dk_X6_journey 98 rfl) (rcx_of F rc_Model) [] rfl rfl (by decide) (Nat.le_of_ble_eq_true rfl) h (fun _ _ hf => c_X6_walk hJ hf) (fun _ t33 h => ?_)
    refine g_iload F (dAt dk_X6_journey 99 rfl) 4 rfl ?_
    refine g_sipush (v := 9999) F (dAt dk_X6_journey 100 rfl) (by decide) ?_
    refine g_icmp_le (tgt := 187) F (dAt dk_X6_journey 101 rfl) (by decide) h (fun c34 h => ?_) (fun c34 h => ?_)
    · refine g_iload F (dAt dk_X6_journey 105 rfl) 5 rfl ?_
      refine g_iload_n F (dAt dk_X6_journey 106 rfl) 1 rfl ?_
      refine g_icmp_ne (tgt := 199) F (dAt dk_X6_journey 107 rfl) (by decide) h (fun c35 h => ?_) (fun c35 h => ?_)
      · refine g_aload_n F (dAt dk_X6_journey 111 rfl) 0 rfl ?_
        refine gg_Model_far F (gm mw_884 rfl) (dAt dk_X6_journey 112 rfl) ?_
        refine g_bipush (v := 8) F (dAt dk_X6_journey 113 rfl) (by decide) ?_
        refine g_iload F (dAt dk_X6_journey 114 rfl) 5 rfl ?_
        refine g_imul F (dAt dk_X6_journey 115 rfl) ?_
        refine g_iload_n F (dAt dk_X6_journey 116 rfl) 1 rfl ?_
        refine g_iadd F (dAt dk_X6_journey 117 rfl) ?_
        refine g_ck h (fun hi36 h => ?_)
        refine g_ialoadm F am_far (dAt dk_X6_journey 118 rfl) hi36 ?_
        refine g_sipush (v := 10000) F (dAt dk_X6_journey 119 rfl) (by decide) ?_
        refine g_icmp_ne (tgt := 223) F (dAt dk_X6_journey 120 rfl) (by decide) h (fun c37 h => ?_) (fun c37 h => ?_)
        · refine g_aload_n F (dAt dk_X6_journey 124 rfl) 0 rfl ?_
          refine g_iload F (dAt dk_X6_journey 125 rfl) 5 rfl ?_
          refine g_iload_n F (dAt dk_X6_journey 126 rfl) 1 rfl ?_
          refine g_invV_im F mi_X6_next (gm mw_1130 rfl) (dAt dk_X6_journey 127 rfl) (rcx_of F rc_Model) [.int v7, .int x2] rfl rfl (by decide) (Nat.le_of_ble_eq_true rfl) h (fun _ _ hf => c_X6_next hJ hf) (fun r38 t39 h => ?_)
          refine g_istore (lv' := [(10, .int r38), (0, .ref (ad 39)), (2, .int x2), (3, .int x3), (4, .int x4), (6, .int v6), (7, .int v7), (8, .int v8), (9, .int v9)]) F (dAt dk_X6_journey 128 rfl) (by decide) rfl ?_
          refine g_iload F (dAt dk_X6_journey 129 rfl) 5 rfl ?_
          refine g_aload_n F (dAt dk_X6_journey 130 rfl) 1 rfl ?_
          refine gg_Model_miles F (gm mw_870 rfl) (dAt dk_X6_journey 131 rfl) ?_
          refine g_bipush (v := 8) F (dAt dk_X6_journey 132 rfl) (by decide) ?_
          refine g_iload F (dAt dk_X6_journey 133 rfl) 6 rfl ?_
          refine g_imul F (dAt dk_X6_journey 134 rfl) ?_
          refine g_iload F (dAt dk_X6_journey 135 rfl) 0 rfl ?_
          refine g_iadd F (dAt dk_X6_journey 136 rfl) ?_
          refine g_ck h (fun hi40 h => ?_)
          refine g_ialoadm F am_miles (dAt dk_X6_journey 137 rfl) hi40 ?_
          refine g_iadd F (dAt dk_X6_journey 138 rfl) ?_
          refine g_lti h (fun y41 h => ?_)
          refine g_istore (lv' := [(6, .int y41), (10, .int r38), (0, .ref (ad 39)), (2, .int x2), (3, .int x3), (4, .int x4), (7, .int v7), (8, .int v8), (9, .int v9)]) F (dAt dk_X6_journey 139 rfl) (by decide) rfl ?_
          refine g_iload F (dAt dk_X6_journey 140 rfl) 1 rfl ?_
          refine g_istore (lv' := [(7, .int r38), (6, .int y41), (10, .int r38), (0, .ref (ad 39)), (2, .int x2), (3, .int x3), (4, .int x4), (8, .int v8), (9, .int v9)]) F (dAt dk_X6_journey 141 rfl) (by decide) rfl ?_
          refine g_goto (tgt := 63) F (dAt dk_X6_journey 142 rfl) (by decide) ?_
          refine g_sub (lv' := [(0, .ref (ad 39)), (2, .int x2), (3, .int x3), (4, .int x4), (6, .int y41), (7, .int r38), (8, .int v8), (9, .int v9)]) [3, 4, 5, 6, 1, 0, 7, 8] rfl ?_
          exact ih63 (y41, r38, v8, v9, t39) h
        · refine g_iconst (v := (-1)) F (dAt dk_X6_journey 121 rfl) (by decide) ?_
          refine g_istore (lv' := [(9, .int (-1)), (0, .ref (ad 39)), (2, .int x2), (3, .int x3), (4, .int x4), (6, .int v6), (7, .int v7), (8, .int v8)]) F (dAt dk_X6_journey 122 rfl) (by decide) rfl ?_
          refine g_goto (tgt := 63) F (dAt dk_X6_journey 123 rfl) (by decide) ?_
          refine g_sub (lv' := [(0, .ref (ad 39)), (2, .int x2), (3, .int x3), (4, .int x4), (6, .int v6), (7, .int v7), (8, .int v8), (9, .int (-1))]) [1, 2, 3, 4, 5, 6, 7, 0] rfl ?_
          exact ih63 (v6, v7, v8, (-1), t33) h
      · refine g_iconst (v := 1) F (dAt dk_X6_journey 108 rfl) (by decide) ?_
        refine g_istore (lv' := [(9, .int 1), (0, .ref (ad 39)), (2, .int x2), (3, .int x3), (4, .int x4), (6, .int v6), (7, .int v7), (8, .int v8)]) F (dAt dk_X6_journey 109 rfl) (by decide) rfl ?_
        refine g_goto (tgt := 63) F (dAt dk_X6_journey 110 rfl) (by decide) ?_
        refine g_sub (lv' := [(0, .ref (ad 39)), (2, .int x2), (3, .int x3), (4, .int x4), (6, .int v6), (7, .int v7), (8, .int v8), (9, .int 1)]) [1, 2, 3, 4, 5, 6, 7, 0] rfl ?_
        exact ih63 (v6, v7, v8, 1, t33) h
    · refine g_bipush (v := (-2)) F (dAt dk_X6_journey 102 rfl) (by decide) ?_
      refine g_istore (lv' := [(9, .int (-2)), (0, .ref (ad 39)), (2, .int x2), (3, .int x3), (4, .int x4), (6, .int v6), (7, .int v7), (8, .int v8)]) F (dAt dk_X6_journey 103 rfl) (by decide) rfl ?_
      refine g_goto (tgt := 63) F (dAt dk_X6_journey 104 rfl) (by decide) ?_
      refine g_sub (lv' := [(0, .ref (ad 39)), (2, .int x2), (3, .int x3), (4, .int x4), (6, .int v6), (7, .int v7), (8, .int v8), (9, .int (-2))]) [1, 2, 3, 4, 5, 6, 7, 0] rfl ?_
      exact ih63 (v6, v7, v8, (-2), t33) h
  have H68 : ∀ (self63 : Int32 × Int32 × Int32 × Int32 × Mem → Option (Int32 × Mem)), (∀ s, self63 s = some (r, u') → G X D ad g t s.2.2.2.2 [(0, .ref (ad 39)), (2, .int x2), (3, .int x3), (4, .int x4), (6, .int s.1), (7, .int s.2.1), (8, .int s.2.2.1), (9, .int s.2.2.2.1)] 63 []) → ∀ (k : Nat) (s : Int32 × Int32 × Int32 × Int32 × Mem), iter (bd_X6_journey_68 n x1 x2 x3 x4 self63) k s = some (r, u') → G X D ad g t s.2.2.2.2 [(0, .ref (ad 39)), (2, .int x2), (3, .int x3), (4, .int x4), (6, .int s.1), (7, .int s.2.1), (8, .int s.2.2.1), (9, .int s.2.2.2.1)] 68 [] := by
    intro self63 ih63
    refine iter_walk (P := fun (s : Int32 × Int32 × Int32 × Int32 × Mem) => G X D ad g t s.2.2.2.2 [(0, .ref (ad 39)), (2, .int x2), (3, .int x3), (4, .int x4), (6, .int s.1), (7, .int s.2.1), (8, .int s.2.2.1), (9, .int s.2.2.2.1)] 68 []) (fun self68 ih68 s h => ?_)
    obtain ⟨v6, v7, v8, v9, u0⟩ := s
    change G X D ad g t u0 [(0, .ref (ad 39)), (2, .int x2), (3, .int x3), (4, .int x4), (6, .int v6), (7, .int v7), (8, .int v8), (9, .int v9)] 68 []
    unfold bd_X6_journey_68 at h; try dsimp only at h
    refine g_iload F (dAt dk_X6_journey 37 rfl) 6 rfl ?_
    refine g_iload F (dAt dk_X6_journey 38 rfl) 3 rfl ?_
    refine g_icmp_ge (tgt := 168) F (dAt dk_X6_journey 39 rfl) (by decide) h (fun c18 h => ?_) (fun c18 h => ?_)
    · refine g_sub (lv' := [(0, .ref (ad 39)), (2, .int x2), (3, .int x3), (4, .int x4), (6, .int v6), (7, .int v7), (8, .int v8), (9, .int v9)]) [0, 1, 2, 3, 4, 5, 6, 7] rfl ?_
      exact J168 self63 ih63 v6 v7 v8 v9 u0 h
    · refine g_aload_n F (dAt dk_X6_journey 40 rfl) 0 rfl ?_
      refine g_iload_n F (dAt dk_X6_journey 41 rfl) 2 rfl ?_
      refine g_iconst (v := 4) F (dAt dk_X6_journey 42 rfl) (by decide) ?_
      refine g_iload F (dAt dk_X6_journey 43 rfl) 6 rfl ?_
      refine g_imul F (dAt dk_X6_journey 44 rfl) ?_
      refine g_iconst (v := 3) F (dAt dk_X6_journey 45 rfl) (by decide) ?_
      refine g_iadd F (dAt dk_X6_journey 46 rfl) ?_
      refine g_invV_im F mi_X6_told (gm mw_1190 rfl) (dAt dk_X6_journey 47 rfl) (rcx_of F rc_Model) [.int x3, .int ((4 * v8) + 3)] rfl rfl (by decide) (Nat.le_of_ble_eq_true rfl) h (fun _ _ hf => c_X6_told hJ hf) (fun r19 t20 h => ?_)
      refine g_iload F (dAt dk_X6_journey 48 rfl) 4 rfl ?_
      refine g_icmp_gt (tgt := 168) F (dAt dk_X6_journey 49 rfl) (by decide) h (fun c21 h => ?_) (fun c21 h => ?_)
      · refine g_sub (lv' := [(0, .ref (ad 39)), (2, .int x2), (3, .int x3), (4, .int x4), (6, .int v6), (7, .int v7), (8, .int v8), (9, .int v9)]) [0, 1, 2, 3, 4, 5, 6, 7] rfl ?_
        exact J168 self63 ih63 v6 v7 v8 v9 t20 h
      · refine g_aload_n F (dAt dk_X6_journey 50 rfl) 0 rfl ?_
        refine g_iload_n F (dAt dk_X6_journey 51 rfl) 2 rfl ?_
        refine g_iconst (v := 4) F (dAt dk_X6_journey 52 rfl) (by decide) ?_
        refine g_iload F (dAt dk_X6_journey 53 rfl) 6 rfl ?_
        refine g_imul F (dAt dk_X6_journey 54 rfl) ?_
        refine g_invV_im F mi_X6_told (gm mw_1190 rfl) (dAt dk_X6_journey 55 rfl) (rcx_of F rc_Model) [.int x3, .int (4 * v8)] rfl rfl (by decide) (Nat.le_of_ble_eq_true rfl) h (fun _ _ hf => c_X6_told hJ hf) (fun r22 t23 h => ?_)
        refine g_istore (lv' := [(10, .int r22), (0, .ref (ad 39)), (2, .int x2), (3, .int x3), (4, .int x4), (6, .int v6), (7, .int v7), (8, .int v8), (9, .int v9)]) F (dAt dk_X6_journey 56 rfl) (by decide) rfl ?_
        refine g_aload_n F (dAt dk_X6_journey 57 rfl) 1 rfl ?_
        refine g_iload_n F (dAt dk_X6_journey 58 rfl) 3 rfl ?_
        refine g_iconst (v := 4) F (dAt dk_X6_journey 59 rfl) (by decide) ?_
        refine g_iload F (dAt dk_X6_journey 60 rfl) 7 rfl ?_
        refine g_imul F (dAt dk_X6_journey 61 rfl) ?_
        refine g_iconst (v := 1) F (dAt dk_X6_journey 62 rfl) (by decide) ?_
        refine g_iadd F (dAt dk_X6_journey 63 rfl) ?_
        refine g_invV_im F mi_X6_told (gm mw_1190 rfl) (dAt dk_X6_journey 64 rfl) (rcx_of F rc_Model) [.int x3, .int ((4 * v8) + 1)] rfl rfl (by decide) (Nat.le_of_ble_eq_true rfl) h (fun _ _ hf => c_X6_told hJ hf) (fun r24 t25 h => ?_)
        refine g_istore (lv' := [(11, .int r24), (10, .int r22), (0, .ref (ad 39)), (2, .int x2), (3, .int x3), (4, .int x4), (6, .int v6), (7, .int v7), (8, .int v8), (9, .int v9)]) F (dAt dk_X6_journey 65 rfl) (by decide) rfl ?_
        refine g_aload_n F (dAt dk_X6_journey 66 rfl) 2 rfl ?_
        refine g_iload F (dAt dk_X6_journey 67 rfl) 1 rfl ?_
        refine g_iload F (dAt dk_X6_journey 68 rfl) 0 rfl ?_
        refine g_lconst (v := 1) F (dAt dk_X6_journey 69 rfl) (by decide) ?_
        refine g_ldc2 (v := 999) F (dAt dk_X6_journey 70 rfl) (gm mw_1194 rfl) ?_
        refine g_aload_n F (dAt dk_X6_journey 71 rfl) 2 rfl ?_
        refine gg_Model_miles F (gm mw_870 rfl) (dAt dk_X6_journey 72 rfl) ?_
        refine g_bipush (v := 8) F (dAt dk_X6_journey 73 rfl) (by decide) ?_
        refine g_iload F (dAt dk_X6_journey 74 rfl) 1 rfl ?_
        refine g_imul F (dAt dk_X6_journey 75 rfl) ?_
        refine g_iload F (dAt dk_X6_journey 76 rfl) 0 rfl ?_
        refine g_iadd F (dAt dk_X6_journey 77 rfl) ?_
        refine g_ck h (fun hi26 h => ?_)
        refine g_ialoadm F am_miles (dAt dk_X6_journey 78 rfl) hi26 ?_
        refine g_i2l F (dAt dk_X6_journey 79 rfl) ?_
        refine g_aload_n F (dAt dk_X6_journey 80 rfl) 2 rfl ?_
        refine g_iload_n F (dAt dk_X6_journey 81 rfl) 4 rfl ?_
        refine g_iconst (v := 4) F (dAt dk_X6_journey 82 rfl) (by decide) ?_
        refine g_iload F (dAt dk_X6_journey 83 rfl) 8 rfl ?_
        refine g_imul F (dAt dk_X6_journey 84 rfl) ?_
        refine g_iconst (v := 2) F (dAt dk_X6_journey 85 rfl) (by decide) ?_
        refine g_iadd F (dAt dk_X6_journey 86 rfl) ?_
        refine g_invVW_im F mi_X6_told (gm mw_1190 rfl) (dAt dk_X6_journey 87 rfl) (rcx_of F rc_Model) [.int x3, .int ((4 * v8) + 2)] rfl rfl (by decide) (by decide) (Nat.le_of_ble_eq_true rfl) h (fun _ _ hf => c_X6_told hJ hf) (fun r27 t28 h => ?_)
        refine g_i2l F (dAt dk_X6_journey 88 rfl) ?_
        refine g_ladd F (dAt dk_X6_journey 89 rfl) ?_
        refine g_lmin F (gm mw_1195 rfl) (dAt dk_X6_journey 90 rfl) (by decide) (Nat.le_of_ble_eq_true rfl) h (fun r29 h => ?_)
        refine g_lmax F (gm mw_1196 rfl) (dAt dk_X6_journey 91 rfl) (by decide) (Nat.le_of_ble_eq_true rfl) h (fun r30 h => ?_)
        refine g_l2i F (dAt dk_X6_journey 92 rfl) ?_
        refine g_invV_im F mi_X6_lay (gm mw_1010 rfl) (dAt dk_X6_journey 93 rfl) (rcx_of F rc_Model) [.int r22, .int r24, .int r30.toInt32] rfl rfl (by decide) (Nat.le_of_ble_eq_true rfl) h (fun _ _ hf => c_X6_lay hJ hf) (fun r31 t32 h => ?_)
        refine g_pop F (dAt dk_X6_journey 94 rfl) rfl ?_
        refine g_iinc (lv' := [(8, .int (v8 + 1)), (11, .int r24), (10, .int r22), (0, .ref (ad 39)), (2, .int x2), (3, .int x3), (4, .int x4), (6, .int v6), (7, .int v7), (9, .int v9)]) F (dAt dk_X6_journey 95 rfl) 8 rfl (w := 1) (by decide) (by decide) rfl ?_
        refine g_goto (tgt := 68) F (dAt dk_X6_journey 96 rfl) (by decide) ?_
        refine g_sub (lv' := [(0, .ref (ad 39)), (2, .int x2), (3, .int x3), (4, .int x4), (6, .int v6), (7, .int v7), (8, .int (v8 + 1)), (9, .int v9)]) [3, 4, 5, 6, 7, 8, 0, 9] rfl ?_
        exact ih68 (v6, v7, (v8 + 1), v9, t32) h
  have H63 : ∀ (k : Nat) (s : Int32 × Int32 × Int32 × Int32 × Mem), iter (bd_X6_journey_63 n x1 x2 x3 x4) k s = some (r, u') → G X D ad g t s.2.2.2.2 [(0, .ref (ad 39)), (2, .int x2), (3, .int x3), (4, .int x4), (6, .int s.1), (7, .int s.2.1), (8, .int s.2.2.1), (9, .int s.2.2.2.1)] 63 [] := by
    refine iter_walk (P := fun (s : Int32 × Int32 × Int32 × Int32 × Mem) => G X D ad g t s.2.2.2.2 [(0, .ref (ad 39)), (2, .int x2), (3, .int x3), (4, .int x4), (6, .int s.1), (7, .int s.2.1), (8, .int s.2.2.1), (9, .int s.2.2.2.1)] 63 []) (fun self63 ih63 s h => ?_)
    obtain ⟨v6, v7, v8, v9, u0⟩ := s
    change G X D ad g t u0 [(0, .ref (ad 39)), (2, .int x2), (3, .int x3), (4, .int x4), (6, .int v6), (7, .int v7), (8, .int v8), (9, .int v9)] 63 []
    unfold bd_X6_journey_63 at h; try dsimp only at h
    refine g_iload F (dAt dk_X6_journey 35 rfl) 7 rfl ?_
    refine g_if_ne (tgt := 257) F (dAt dk_X6_journey 36 rfl) (by decide) h (fun c15 h => ?_) (fun c15 h => ?_)
    · refine g_aload_n F (dAt dk_X6_journey 143 rfl) 0 rfl ?_
      refine g_aload_n F (dAt dk_X6_journey 144 rfl) 0 rfl ?_
      refine gg_Model_ahead F (gm mw_880 rfl) (dAt dk_X6_journey 145 rfl) ?_
      refine g_invV_vm F mi_X6_again (gm mw_1098 rfl) (dAt dk_X6_journey 146 rfl) (rcx_of F rc_Model) [.ref (ad (oKp 1))] rfl rfl (by decide) (Nat.le_of_ble_eq_true rfl) h (fun _ _ hf => c_X6_again hJ hf) (fun _ t16 h => ?_)
      refine g_iload F (dAt dk_X6_journey 147 rfl) 7 rfl ?_
      refine g_iconst (v := 1) F (dAt dk_X6_journey 148 rfl) (by decide) ?_
      refine g_icmp_ne (tgt := 276) F (dAt dk_X6_journey 149 rfl) (by decide) h (fun c17 h => ?_) (fun c17 h => ?_)
      · refine g_iload F (dAt dk_X6_journey 152 rfl) 7 rfl ?_
        cases h
        exact E (dAt dk_X6_journey 153 rfl) rfl
      · refine g_iload F (dAt dk_X6_journey 150 rfl) 4 rfl ?_
        refine g_goto (tgt := 278) F (dAt dk_X6_journey 151 rfl) (by decide) ?_
        cases h
        exact E (dAt dk_X6_journey 153 rfl) rfl
    · refine g_sub (lv' := [(0, .ref (ad 39)), (2, .int x2), (3, .int x3), (4, .int x4), (6, .int v6), (7, .int v7), (8, .int v8), (9, .int v9)]) [0, 1, 2, 3, 4, 5, 6, 7] rfl ?_
      exact H68 self63 ih63 n (v6, v7, v8, v9, u0) h
  refine g_lv (lv' := [(0, .ref (ad 39)), (1, .int x1), (2, .int x2), (3, .int x3), (4, .int x4)]) rfl ?_
  unfold f_X6_journey at h
  refine g_aload_n F (dAt dk_X6_journey 0 rfl) 0 rfl ?_
  refine g_iload_n F (dAt dk_X6_journey 1 rfl) 1 rfl ?_
  refine g_invV_im F mi_X6_isPlace (gm mw_966 rfl) (dAt dk_X6_journey 2 rfl) (rcx_of F rc_Model) [.int x1] rfl rfl (by decide) (Nat.le_of_ble_eq_true rfl) h (fun _ _ hf => c_X6_isPlace hJ hf) (fun r1 t2 h => ?_)
  refine g_if_eq (tgt := 16) F (dAt dk_X6_journey 3 rfl) (by decide) h (fun c3 h => ?_) (fun c3 h => ?_)
  · refine g_sub (lv' := [(0, .ref (ad 39))]) [0] rfl ?_
    exact J16  t2 h
  · refine g_aload_n F (dAt dk_X6_journey 4 rfl) 0 rfl ?_
    refine g_iload_n F (dAt dk_X6_journey 5 rfl) 2 rfl ?_
    refine g_invV_im F mi_X6_isPlace (gm mw_966 rfl) (dAt dk_X6_journey 6 rfl) (rcx_of F rc_Model) [.int x2] rfl rfl (by decide) (Nat.le_of_ble_eq_true rfl) h (fun _ _ hf => c_X6_isPlace hJ hf) (fun r4 t5 h => ?_)
    refine g_if_ne (tgt := 22) F (dAt dk_X6_journey 7 rfl) (by decide) h (fun c6 h => ?_) (fun c6 h => ?_)
    · refine g_aload_n F (dAt dk_X6_journey 12 rfl) 0 rfl ?_
      refine g_iload_n F (dAt dk_X6_journey 13 rfl) 3 rfl ?_
      refine g_iload F (dAt dk_X6_journey 14 rfl) 4 rfl ?_
      refine g_invV_im F mi_X6_noJourney (gm mw_1185 rfl) (dAt dk_X6_journey 15 rfl) (rcx_of F rc_Model) [.int x3, .int x4] rfl rfl (by decide) (Nat.le_of_ble_eq_true rfl) h (fun _ _ hf => c_X6_noJourney hJ hf) (fun r7 t8 h => ?_)
      refine g_istore (lv' := [(5, .int r7), (0, .ref (ad 39)), (1, .int x1), (2, .int x2), (3, .int x3), (4, .int x4)]) F (dAt dk_X6_journey 16 rfl) (by decide) rfl ?_
      refine g_iload F (dAt dk_X6_journey 17 rfl) 0 rfl ?_
      refine g_if_ge (tgt := 43) F (dAt dk_X6_journey 18 rfl) (by decide) h (fun c9 h => ?_) (fun c9 h => ?_)
      · refine g_aload_n F (dAt dk_X6_journey 23 rfl) 1 rfl ?_
        refine g_aload_n F (dAt dk_X6_journey 24 rfl) 1 rfl ?_
        refine gg_Model_ahead F (gm mw_880 rfl) (dAt dk_X6_journey 25 rfl) ?_
        refine g_invV_vm F mi_X6_keep (gm mw_1031 rfl) (dAt dk_X6_journey 26 rfl) (rcx_of F rc_Model) [.ref (ad (oKp 1))] rfl rfl (by decide) (Nat.le_of_ble_eq_true rfl) h (fun _ _ hf => c_X6_keep hJ hf) (fun _ t10 h => ?_)
        refine g_iconst (v := 0) F (dAt dk_X6_journey 27 rfl) (by decide) ?_
        refine g_istore (lv' := [(6, .int 0), (5, .int r7), (0, .ref (ad 39)), (1, .int x1), (2, .int x2), (3, .int x3), (4, .int x4)]) F (dAt dk_X6_journey 28 rfl) (by decide) rfl ?_
        refine g_iload_n F (dAt dk_X6_journey 29 rfl) 3 rfl ?_
        refine g_istore (lv' := [(7, .int x1), (6, .int 0), (5, .int r7), (0, .ref (ad 39)), (1, .int x1), (2, .int x2), (3, .int x3), (4, .int x4)]) F (dAt dk_X6_journey 30 rfl) (by decide) rfl ?_
        refine g_iconst (v := 0) F (dAt dk_X6_journey 31 rfl) (by decide) ?_
        refine g_istore (lv' := [(8, .int 0), (7, .int x1), (6, .int 0), (5, .int r7), (0, .ref (ad 39)), (1, .int x1), (2, .int x2), (3, .int x3), (4, .int x4)]) F (dAt dk_X6_journey 32 rfl) (by decide) rfl ?_
        refine g_iconst (v := 0) F (dAt dk_X6_journey 33 rfl) (by decide) ?_
        refine g_istore (lv' := [(9, .int 0), (8, .int 0), (7, .int x1), (6, .int 0), (5, .int r7), (0, .ref (ad 39)), (1, .int x1), (2, .int x2), (3, .int x3), (4, .int x4)]) F (dAt dk_X6_journey 34 rfl) (by decide) rfl ?_
        refine g_sub (lv' := [(0, .ref (ad 39)), (2, .int x2), (3, .int x3), (4, .int x4), (6, .int 0), (7, .int x1), (8, .int 0), (9, .int 0)]) [5, 7, 8, 9, 3, 2, 1, 0] rfl ?_
        exact H63  n (0, x1, 0, 0, t10) h
      · refine g_aload_n F (dAt dk_X6_journey 19 rfl) 1 rfl ?_
        refine g_iload F (dAt dk_X6_journey 20 rfl) 0 rfl ?_
        refine g_invV_im F mi_X6_no10 (gm mw_1018 rfl) (dAt dk_X6_journey 21 rfl) (rcx_of F rc_Model) [.int r7] rfl rfl (by decide) (Nat.le_of_ble_eq_true rfl) h (fun _ _ hf => c_X6_no10 hJ hf) (fun r11 t12 h => ?_)
        cases h
        exact E (dAt dk_X6_journey 22 rfl) rfl
    · refine g_sub (lv' := [(0, .ref (ad 39))]) [0] rfl ?_
      exact J16  t5 h
theorem mi_X6_pairs : MI yX6_pairs cX6_pairs 1 (some .int) "MillOfDistancesModel" 0 := ⟨(gm mw_1208 rfl), (gm mw_1207 rfl), (gm mw_59 rfl), (gm mw_75 rfl), by decide +kernel, by decide⟩
theorem c_X6_pairs {l : Launch} {D : va_G} {ad : Nat → Nat} {g : Gv} {t u : Mem}  {u' : Mem} {r : Int32} (hJ : Jad ad) (h : f_X6_pairs u = some (r, u')) : ConI l yX6_pairs cX6_pairs 1 (some .int) 0 [.ref (ad 39)] D ad g t u t u' r := by
  refine con_i hJ (by decide) (Nat.le_of_ble_eq_true rfl) rfl (fun X F E => ?_)
  refine g_lv (lv' := [(0, .ref (ad 39))]) rfl ?_
  unfold f_X6_pairs at h
  refine g_aload_n F (dAt dk_X6_pairs 0 rfl) 0 rfl ?_
  refine gg_Model_places F (gm mw_867 rfl) (dAt dk_X6_pairs 1 rfl) ?_
  refine g_aload_n F (dAt dk_X6_pairs 2 rfl) 0 rfl ?_
  refine gg_Model_places F (gm mw_867 rfl) (dAt dk_X6_pairs 3 rfl) ?_
  refine g_iconst (v := 1) F (dAt dk_X6_pairs 4 rfl) (by decide) ?_
  refine g_isub F (dAt dk_X6_pairs 5 rfl) ?_
  refine g_imul F (dAt dk_X6_pairs 6 rfl) ?_
  refine g_iconst (v := 2) F (dAt dk_X6_pairs 7 rfl) (by decide) ?_
  refine g_idiv F (dAt dk_X6_pairs 8 rfl) (by decide) ?_
  cases h
  exact E (dAt dk_X6_pairs 9 rfl) rfl
theorem mi_X6_noTable : MI yX6_noTable cX6_noTable 3 (some .int) "MillOfDistancesModel" 1 := ⟨(gm mw_1204 rfl), (gm mw_1203 rfl), (gm mw_58 rfl), (gm mw_75 rfl), by decide +kernel, by decide⟩
theorem c_X6_noTable {l : Launch} {D : va_G} {ad : Nat → Nat} {g : Gv} {t u : Mem} {x1 : Int32} {u' : Mem} {r : Int32} (hJ : Jad ad) (h : f_X6_noTable x1 u = some (r, u')) : ConI l yX6_noTable cX6_noTable 3 (some .int) 2 [.ref (ad 39), .int x1] D ad g t u t u' r := by
  refine con_i hJ (by decide) (Nat.le_of_ble_eq_true rfl) rfl (fun X F E => ?_)
  refine g_lv (lv' := [(0, .ref (ad 39)), (1, .int x1)]) rfl ?_
  unfold f_X6_noTable at h
  refine g_aload_n F (dAt dk_X6_noTable 0 rfl) 0 rfl ?_
  refine g_iload_n F (dAt dk_X6_noTable 1 rfl) 1 rfl ?_
  refine g_invV_im F mi_X6_noRow (gm mw_946 rfl) (dAt dk_X6_noTable 2 rfl) (rcx_of F rc_Model) [.int x1] rfl rfl (by decide) (Nat.le_of_ble_eq_true rfl) h (fun _ _ hf => c_X6_noRow hJ hf) (fun r1 t2 h => ?_)
  refine g_istore_n (lv' := [(2, .int r1), (0, .ref (ad 39)), (1, .int x1)]) F (dAt dk_X6_noTable 3 rfl) (by decide) rfl ?_
  refine g_iload_n F (dAt dk_X6_noTable 4 rfl) 0 rfl ?_
  refine g_if_ge (tgt := 14) F (dAt dk_X6_noTable 5 rfl) (by decide) h (fun c3 h => ?_) (fun c3 h => ?_)
  · refine g_aload_n F (dAt dk_X6_noTable 8 rfl) 1 rfl ?_
    refine gg_Model_rowLength F (gm mw_865 rfl) (dAt dk_X6_noTable 9 rfl) ?_
    refine g_iload_n F (dAt dk_X6_noTable 10 rfl) 2 rfl ?_
    refine g_ck h (fun hi4 h => ?_)
    refine g_ialoadm F am_rowLength (dAt dk_X6_noTable 11 rfl) hi4 ?_
    refine g_aload_n F (dAt dk_X6_noTable 12 rfl) 1 rfl ?_
    refine g_invV_im F mi_X6_pairs (gm mw_1205 rfl) (dAt dk_X6_noTable 13 rfl) (rcx_of F rc_Model) [] rfl rfl (by decide) (Nat.le_of_ble_eq_true rfl) h (fun _ _ hf => c_X6_pairs hJ hf) (fun r5 t6 h => ?_)
    refine g_icmp_ge (tgt := 32) F (dAt dk_X6_noTable 14 rfl) (by decide) h (fun c7 h => ?_) (fun c7 h => ?_)
    · refine g_iconst (v := 0) F (dAt dk_X6_noTable 17 rfl) (by decide) ?_
      cases h
      exact E (dAt dk_X6_noTable 18 rfl) rfl
    · refine g_bipush (v := (-5)) F (dAt dk_X6_noTable 15 rfl) (by decide) ?_
      refine g_goto (tgt := 33) F (dAt dk_X6_noTable 16 rfl) (by decide) ?_
      cases h
      exact E (dAt dk_X6_noTable 18 rfl) rfl
  · refine g_iload_n F (dAt dk_X6_noTable 6 rfl) 0 rfl ?_
    refine g_goto (tgt := 33) F (dAt dk_X6_noTable 7 rfl) (by decide) ?_
    cases h
    exact E (dAt dk_X6_noTable 18 rfl) rfl
theorem mi_X6_pair : MI yX6_pair cX6_pair 5 (some .int) "MillOfDistancesModel" 2 := ⟨(gm mw_1212 rfl), (gm mw_1211 rfl), (gm mw_60 rfl), (gm mw_75 rfl), by decide +kernel, by decide⟩
theorem c_X6_pair {l : Launch} {D : va_G} {ad : Nat → Nat} {g : Gv} {t u : Mem} {x1 : Int32} {x2 : Int32} {u' : Mem} {r : Int32} (hJ : Jad ad) (h : f_X6_pair x1 x2 u = some (r, u')) : ConI l yX6_pair cX6_pair 5 (some .int) 1 [.ref (ad 39), .int x1, .int x2] D ad g t u t u' r := by
  refine con_i hJ (by decide) (Nat.le_of_ble_eq_true rfl) rfl (fun X F E => ?_)
  refine g_lv (lv' := [(0, .ref (ad 39)), (1, .int x1), (2, .int x2)]) rfl ?_
  unfold f_X6_pair at h
  refine g_iload_n F (dAt dk_X6_pair 0 rfl) 1 rfl ?_
  refine g_iload_n F (dAt dk_X6_pair 1 rfl) 2 rfl ?_
  refine g_mmin F (gm mw_1076 rfl) (dAt dk_X6_pair 2 rfl) (by decide) (Nat.le_of_ble_eq_true rfl) h (fun r1 h => ?_)
  refine g_istore_n (lv' := [(3, .int r1), (0, .ref (ad 39)), (1, .int x1), (2, .int x2)]) F (dAt dk_X6_pair 3 rfl) (by decide) rfl ?_
  refine g_iload_n F (dAt dk_X6_pair 4 rfl) 2 rfl ?_
  refine g_iload_n F (dAt dk_X6_pair 5 rfl) 3 rfl ?_
  refine g_mmax F (gm mw_993 rfl) (dAt dk_X6_pair 6 rfl) (by decide) (Nat.le_of_ble_eq_true rfl) h (fun r2 h => ?_)
  refine g_istore (lv' := [(4, .int r2), (3, .int r1), (0, .ref (ad 39)), (1, .int x1), (2, .int x2)]) F (dAt dk_X6_pair 7 rfl) (by decide) rfl ?_
  refine g_iload_n F (dAt dk_X6_pair 8 rfl) 1 rfl ?_
  refine g_iconst (v := 2) F (dAt dk_X6_pair 9 rfl) (by decide) ?_
  refine g_aload_n F (dAt dk_X6_pair 10 rfl) 2 rfl ?_
  refine gg_Model_places F (gm mw_867 rfl) (dAt dk_X6_pair 11 rfl) ?_
  refine g_imul F (dAt dk_X6_pair 12 rfl) ?_
  refine g_iload_n F (dAt dk_X6_pair 13 rfl) 1 rfl ?_
  refine g_isub F (dAt dk_X6_pair 14 rfl) ?_
  refine g_iconst (v := 1) F (dAt dk_X6_pair 15 rfl) (by decide) ?_
  refine g_isub F (dAt dk_X6_pair 16 rfl) ?_
  refine g_imul F (dAt dk_X6_pair 17 rfl) ?_
  refine g_iconst (v := 2) F (dAt dk_X6_pair 18 rfl) (by decide) ?_
  refine g_idiv F (dAt dk_X6_pair 19 rfl) (by decide) ?_
  refine g_iload F (dAt dk_X6_pair 20 rfl) 0 rfl ?_
  refine g_iadd F (dAt dk_X6_pair 21 rfl) ?_
  refine g_iload_n F (dAt dk_X6_pair 22 rfl) 1 rfl ?_
  refine g_isub F (dAt dk_X6_pair 23 rfl) ?_
  refine g_iconst (v := 1) F (dAt dk_X6_pair 24 rfl) (by decide) ?_
  refine g_isub F (dAt dk_X6_pair 25 rfl) ?_
  cases h
  exact E (dAt dk_X6_pair 26 rfl) rfl
theorem mi_X6_judge : MI yX6_judge cX6_judge 8 (some .int) "MillOfDistancesModel" 1 := ⟨(gm mw_1200 rfl), (gm mw_1198 rfl), (gm mw_1199 rfl), (gm mw_75 rfl), by decide +kernel, by decide⟩
theorem c_X6_judge {l : Launch} {D : va_G} {ad : Nat → Nat} {g : Gv} {t u : Mem} {n : Nat} {x1 : Int32} {u' : Mem} {r : Int32} (hJ : Jad ad) (h : f_X6_judge n x1 u = some (r, u')) : ConI l yX6_judge cX6_judge 8 (some .int) 3 [.ref (ad 39), .int x1] D ad g t u t u' r := by
  refine con_i hJ (by decide) (Nat.le_of_ble_eq_true rfl) rfl (fun X F E => ?_)
  have H73 : ∀ (self18 : Int32 × Mem → Option (Int32 × Mem)), (∀ s, self18 s = some (r, u') → G X D ad g t s.2 [(0, .ref (ad 39)), (1, .int x1), (3, .int s.1)] 18 []) → ∀ (self31 : Int32 × Int32 × Mem → Option (Int32 × Mem)), (∀ s, self31 s = some (r, u') → G X D ad g t s.2.2 [(0, .ref (ad 39)), (1, .int x1), (3, .int s.1), (4, .int s.2.1)] 31 []) → ∀ (k : Nat) (s : Int32 × Int32 × Int64 × Int32 × Mem), iter (bd_X6_judge_73 n x1 self18 self31) k s = some (r, u') → G X D ad g t s.2.2.2.2 [(0, .ref (ad 39)), (1, .int x1), (3, .int s.1), (4, .int s.2.1), (5, .long s.2.2.1), (7, .int s.2.2.2.1)] 73 [] := by
    intro self18 ih18 self31 ih31
    refine iter_walk (P := fun (s : Int32 × Int32 × Int64 × Int32 × Mem) => G X D ad g t s.2.2.2.2 [(0, .ref (ad 39)), (1, .int x1), (3, .int s.1), (4, .int s.2.1), (5, .long s.2.2.1), (7, .int s.2.2.2.1)] 73 []) (fun self73 ih73 s h => ?_)
    obtain ⟨v3, v4, v5, v7, u0⟩ := s
    change G X D ad g t u0 [(0, .ref (ad 39)), (1, .int x1), (3, .int v3), (4, .int v4), (5, .long v5), (7, .int v7)] 73 []
    unfold bd_X6_judge_73 at h; try dsimp only at h
    refine g_iload F (dAt dk_X6_judge 44 rfl) 5 rfl ?_
    refine g_aload_n F (dAt dk_X6_judge 45 rfl) 0 rfl ?_
    refine gg_Model_places F (gm mw_867 rfl) (dAt dk_X6_judge 46 rfl) ?_
    refine g_icmp_ge (tgt := 143) F (dAt dk_X6_judge 47 rfl) (by decide) h (fun c15 h => ?_) (fun c15 h => ?_)
    · refine g_iinc (lv' := [(4, .int (v4 + 1)), (0, .ref (ad 39)), (1, .int x1), (3, .int v3), (5, .long v5), (7, .int v7)]) F (dAt dk_X6_judge 81 rfl) 3 rfl (w := 1) (by decide) (by decide) rfl ?_
      refine g_goto (tgt := 31) F (dAt dk_X6_judge 82 rfl) (by decide) ?_
      refine g_sub (lv' := [(0, .ref (ad 39)), (1, .int x1), (3, .int v3), (4, .int (v4 + 1))]) [1, 2, 3, 0] rfl ?_
      exact ih31 (v3, (v4 + 1), u0) h
    · refine g_iload F (dAt dk_X6_judge 48 rfl) 5 rfl ?_
      refine g_iload_n F (dAt dk_X6_judge 49 rfl) 2 rfl ?_
      refine g_icmp_eq (tgt := 137) F (dAt dk_X6_judge 50 rfl) (by decide) h (fun c16 h => ?_) (fun c16 h => ?_)
      · refine g_iinc (lv' := [(7, .int (v7 + 1)), (0, .ref (ad 39)), (1, .int x1), (3, .int v3), (4, .int v4), (5, .long v5)]) F (dAt dk_X6_judge 79 rfl) 5 rfl (w := 1) (by decide) (by decide) rfl ?_
        refine g_goto (tgt := 73) F (dAt dk_X6_judge 80 rfl) (by decide) ?_
        refine g_sub (lv' := [(0, .ref (ad 39)), (1, .int x1), (3, .int v3), (4, .int v4), (5, .long v5), (7, .int (v7 + 1))]) [1, 2, 3, 4, 5, 0] rfl ?_
        exact ih73 (v3, v4, v5, (v7 + 1), u0) h
      · refine g_iload F (dAt dk_X6_judge 51 rfl) 5 rfl ?_
        refine g_iload F (dAt dk_X6_judge 52 rfl) 3 rfl ?_
        refine g_icmp_eq (tgt := 137) F (dAt dk_X6_judge 53 rfl) (by decide) h (fun c17 h => ?_) (fun c17 h => ?_)
        · refine g_iinc (lv' := [(7, .int (v7 + 1)), (0, .ref (ad 39)), (1, .int x1), (3, .int v3), (4, .int v4), (5, .long v5)]) F (dAt dk_X6_judge 79 rfl) 5 rfl (w := 1) (by decide) (by decide) rfl ?_
          refine g_goto (tgt := 73) F (dAt dk_X6_judge 80 rfl) (by decide) ?_
          refine g_sub (lv' := [(0, .ref (ad 39)), (1, .int x1), (3, .int v3), (4, .int v4), (5, .long v5), (7, .int (v7 + 1))]) [1, 2, 3, 4, 5, 0] rfl ?_
          exact ih73 (v3, v4, v5, (v7 + 1), u0) h
        · refine g_lload F (dAt dk_X6_judge 54 rfl) 4 rfl ?_
          refine g_aload_n F (dAt dk_X6_judge 55 rfl) 0 rfl ?_
          refine g_iload_n F (dAt dk_X6_judge 56 rfl) 1 rfl ?_
          refine g_aload_n F (dAt dk_X6_judge 57 rfl) 0 rfl ?_
          refine g_iload_n F (dAt dk_X6_judge 58 rfl) 2 rfl ?_
          refine g_iload F (dAt dk_X6_judge 59 rfl) 5 rfl ?_
          refine g_invV_im F mi_X6_pair (gm mw_1209 rfl) (dAt dk_X6_judge 60 rfl) (rcx_of F rc_Model) [.int v3, .int v7] rfl rfl (by decide) (Nat.le_of_ble_eq_true rfl) h (fun _ _ hf => c_X6_pair hJ hf) (fun r18 t19 h => ?_)
          refine g_invV_im F mi_X6_told (gm mw_1190 rfl) (dAt dk_X6_judge 61 rfl) (rcx_of F rc_Model) [.int x1, .int r18] rfl rfl (by decide) (Nat.le_of_ble_eq_true rfl) h (fun _ _ hf => c_X6_told hJ hf) (fun r20 t21 h => ?_)
          refine g_i2l F (dAt dk_X6_judge 62 rfl) ?_
          refine g_aload_n F (dAt dk_X6_judge 63 rfl) 0 rfl ?_
          refine g_iload_n F (dAt dk_X6_judge 64 rfl) 1 rfl ?_
          refine g_aload_n F (dAt dk_X6_judge 65 rfl) 0 rfl ?_
          refine g_iload F (dAt dk_X6_judge 66 rfl) 5 rfl ?_
          refine g_iload F (dAt dk_X6_judge 67 rfl) 3 rfl ?_
          refine g_invV_im F mi_X6_pair (gm mw_1209 rfl) (dAt dk_X6_judge 68 rfl) (rcx_of F rc_Model) [.int v7, .int v4] rfl rfl (by decide) (Nat.le_of_ble_eq_true rfl) h (fun _ _ hf => c_X6_pair hJ hf) (fun r22 t23 h => ?_)
          refine g_invV_im F mi_X6_told (gm mw_1190 rfl) (dAt dk_X6_judge 69 rfl) (rcx_of F rc_Model) [.int x1, .int r22] rfl rfl (by decide) (Nat.le_of_ble_eq_true rfl) h (fun _ _ hf => c_X6_told hJ hf) (fun r24 t25 h => ?_)
          refine g_i2l F (dAt dk_X6_judge 70 rfl) ?_
          refine g_ladd F (dAt dk_X6_judge 71 rfl) ?_
          refine g_lcmp F (dAt dk_X6_judge 72 rfl) ?_
          refine g_if_le (tgt := 137) F (dAt dk_X6_judge 73 rfl) (by decide) h (fun c26 h => ?_) (fun c26 h => ?_)
          · refine g_iinc (lv' := [(7, .int (v7 + 1)), (0, .ref (ad 39)), (1, .int x1), (3, .int v3), (4, .int v4), (5, .long v5)]) F (dAt dk_X6_judge 79 rfl) 5 rfl (w := 1) (by decide) (by decide) rfl ?_
            refine g_goto (tgt := 73) F (dAt dk_X6_judge 80 rfl) (by decide) ?_
            refine g_sub (lv' := [(0, .ref (ad 39)), (1, .int x1), (3, .int v3), (4, .int v4), (5, .long v5), (7, .int (v7 + 1))]) [1, 2, 3, 4, 5, 0] rfl ?_
            exact ih73 (v3, v4, v5, (v7 + 1), t25) h
          · refine g_aload_n F (dAt dk_X6_judge 74 rfl) 0 rfl ?_
            refine g_iload_n F (dAt dk_X6_judge 75 rfl) 2 rfl ?_
            refine g_iload F (dAt dk_X6_judge 76 rfl) 3 rfl ?_
            refine g_invV_im F mi_X6_pair (gm mw_1209 rfl) (dAt dk_X6_judge 77 rfl) (rcx_of F rc_Model) [.int v3, .int v4] rfl rfl (by decide) (Nat.le_of_ble_eq_true rfl) h (fun _ _ hf => c_X6_pair hJ hf) (fun r27 t28 h => ?_)
            cases h
            exact E (dAt dk_X6_judge 78 rfl) rfl
  have H31 : ∀ (self18 : Int32 × Mem → Option (Int32 × Mem)), (∀ s, self18 s = some (r, u') → G X D ad g t s.2 [(0, .ref (ad 39)), (1, .int x1), (3, .int s.1)] 18 []) → ∀ (k : Nat) (s : Int32 × Int32 × Mem), iter (bd_X6_judge_31 n x1 self18) k s = some (r, u') → G X D ad g t s.2.2 [(0, .ref (ad 39)), (1, .int x1), (3, .int s.1), (4, .int s.2.1)] 31 [] := by
    intro self18 ih18
    refine iter_walk (P := fun (s : Int32 × Int32 × Mem) => G X D ad g t s.2.2 [(0, .ref (ad 39)), (1, .int x1), (3, .int s.1), (4, .int s.2.1)] 31 []) (fun self31 ih31 s h => ?_)
    obtain ⟨v3, v4, u0⟩ := s
    change G X D ad g t u0 [(0, .ref (ad 39)), (1, .int x1), (3, .int v3), (4, .int v4)] 31 []
    unfold bd_X6_judge_31 at h; try dsimp only at h
    refine g_iload F (dAt dk_X6_judge 20 rfl) 3 rfl ?_
    refine g_aload_n F (dAt dk_X6_judge 21 rfl) 0 rfl ?_
    refine gg_Model_places F (gm mw_867 rfl) (dAt dk_X6_judge 22 rfl) ?_
    refine g_icmp_ge (tgt := 149) F (dAt dk_X6_judge 23 rfl) (by decide) h (fun c7 h => ?_) (fun c7 h => ?_)
    · refine g_iinc (lv' := [(3, .int (v3 + 1)), (0, .ref (ad 39)), (1, .int x1), (4, .int v4)]) F (dAt dk_X6_judge 83 rfl) 2 rfl (w := 1) (by decide) (by decide) rfl ?_
      refine g_goto (tgt := 18) F (dAt dk_X6_judge 84 rfl) (by decide) ?_
      refine g_sub (lv' := [(0, .ref (ad 39)), (1, .int x1), (3, .int (v3 + 1))]) [1, 2, 0] rfl ?_
      exact ih18 ((v3 + 1), u0) h
    · refine g_aload_n F (dAt dk_X6_judge 24 rfl) 0 rfl ?_
      refine g_iload_n F (dAt dk_X6_judge 25 rfl) 1 rfl ?_
      refine g_aload_n F (dAt dk_X6_judge 26 rfl) 0 rfl ?_
      refine g_iload_n F (dAt dk_X6_judge 27 rfl) 2 rfl ?_
      refine g_iload F (dAt dk_X6_judge 28 rfl) 3 rfl ?_
      refine g_invV_im F mi_X6_pair (gm mw_1209 rfl) (dAt dk_X6_judge 29 rfl) (rcx_of F rc_Model) [.int v3, .int v4] rfl rfl (by decide) (Nat.le_of_ble_eq_true rfl) h (fun _ _ hf => c_X6_pair hJ hf) (fun r8 t9 h => ?_)
      refine g_invV_im F mi_X6_told (gm mw_1190 rfl) (dAt dk_X6_judge 30 rfl) (rcx_of F rc_Model) [.int x1, .int r8] rfl rfl (by decide) (Nat.le_of_ble_eq_true rfl) h (fun _ _ hf => c_X6_told hJ hf) (fun r10 t11 h => ?_)
      refine g_i2l F (dAt dk_X6_judge 31 rfl) ?_
      refine g_lstore (lv' := [(5, .long r10.toInt64), (0, .ref (ad 39)), (1, .int x1), (3, .int v3), (4, .int v4)]) F (dAt dk_X6_judge 32 rfl) (by decide) rfl ?_
      refine g_lload F (dAt dk_X6_judge 33 rfl) 0 rfl ?_
      refine g_lconst (v := 1) F (dAt dk_X6_judge 34 rfl) (by decide) ?_
      refine g_lcmp F (dAt dk_X6_judge 35 rfl) ?_
      refine g_if_ge (tgt := 70) F (dAt dk_X6_judge 36 rfl) (by decide) h (fun c12 h => ?_) (fun c12 h => ?_)
      · refine g_iconst (v := 0) F (dAt dk_X6_judge 42 rfl) (by decide) ?_
        refine g_istore (lv' := [(7, .int 0), (5, .long r10.toInt64), (0, .ref (ad 39)), (1, .int x1), (3, .int v3), (4, .int v4)]) F (dAt dk_X6_judge 43 rfl) (by decide) rfl ?_
        refine g_sub (lv' := [(0, .ref (ad 39)), (1, .int x1), (3, .int v3), (4, .int v4), (5, .long r10.toInt64), (7, .int 0)]) [2, 3, 4, 5, 1, 0] rfl ?_
        exact H73 self18 ih18 self31 ih31 n (v3, v4, r10.toInt64, 0, t11) h
      · refine g_aload_n F (dAt dk_X6_judge 37 rfl) 1 rfl ?_
        refine g_iload_n F (dAt dk_X6_judge 38 rfl) 3 rfl ?_
        refine g_iload F (dAt dk_X6_judge 39 rfl) 4 rfl ?_
        refine g_invV_im F mi_X6_pair (gm mw_1209 rfl) (dAt dk_X6_judge 40 rfl) (rcx_of F rc_Model) [.int v3, .int v4] rfl rfl (by decide) (Nat.le_of_ble_eq_true rfl) h (fun _ _ hf => c_X6_pair hJ hf) (fun r13 t14 h => ?_)
        cases h
        exact E (dAt dk_X6_judge 41 rfl) rfl
  have H18 : ∀ (k : Nat) (s : Int32 × Mem), iter (bd_X6_judge_18 n x1) k s = some (r, u') → G X D ad g t s.2 [(0, .ref (ad 39)), (1, .int x1), (3, .int s.1)] 18 [] := by
    refine iter_walk (P := fun (s : Int32 × Mem) => G X D ad g t s.2 [(0, .ref (ad 39)), (1, .int x1), (3, .int s.1)] 18 []) (fun self18 ih18 s h => ?_)
    obtain ⟨v3, u0⟩ := s
    change G X D ad g t u0 [(0, .ref (ad 39)), (1, .int x1), (3, .int v3)] 18 []
    unfold bd_X6_judge_18 at h; try dsimp only at h
    refine g_iload_n F (dAt dk_X6_judge 12 rfl) 2 rfl ?_
    refine g_aload_n F (dAt dk_X6_judge 13 rfl) 0 rfl ?_
    refine gg_Model_places F (gm mw_867 rfl) (dAt dk_X6_judge 14 rfl) ?_
    refine g_icmp_ge (tgt := 155) F (dAt dk_X6_judge 15 rfl) (by decide) h (fun c6 h => ?_) (fun c6 h => ?_)
    · refine g_iconst (v := (-1)) F (dAt dk_X6_judge 85 rfl) (by decide) ?_
      cases h
      exact E (dAt dk_X6_judge 86 rfl) rfl
    · refine g_iload_n F (dAt dk_X6_judge 16 rfl) 2 rfl ?_
      refine g_iconst (v := 1) F (dAt dk_X6_judge 17 rfl) (by decide) ?_
      refine g_iadd F (dAt dk_X6_judge 18 rfl) ?_
      refine g_istore (lv' := [(4, .int (v3 + 1)), (0, .ref (ad 39)), (1, .int x1), (3, .int v3)]) F (dAt dk_X6_judge 19 rfl) (by decide) rfl ?_
      refine g_sub (lv' := [(0, .ref (ad 39)), (1, .int x1), (3, .int v3), (4, .int (v3 + 1))]) [1, 2, 3, 0] rfl ?_
      exact H31 self18 ih18 n (v3, (v3 + 1), u0) h
  refine g_lv (lv' := [(0, .ref (ad 39)), (1, .int x1)]) rfl ?_
  unfold f_X6_judge at h
  refine g_aload_n F (dAt dk_X6_judge 0 rfl) 0 rfl ?_
  refine g_iload_n F (dAt dk_X6_judge 1 rfl) 1 rfl ?_
  refine g_invV_im F mi_X6_noTable (gm mw_1201 rfl) (dAt dk_X6_judge 2 rfl) (rcx_of F rc_Model) [.int x1] rfl rfl (by decide) (Nat.le_of_ble_eq_true rfl) h (fun _ _ hf => c_X6_noTable hJ hf) (fun r1 t2 h => ?_)
  refine g_istore_n (lv' := [(2, .int r1), (0, .ref (ad 39)), (1, .int x1)]) F (dAt dk_X6_judge 3 rfl) (by decide) rfl ?_
  refine g_iload_n F (dAt dk_X6_judge 4 rfl) 0 rfl ?_
  refine g_if_ge (tgt := 16) F (dAt dk_X6_judge 5 rfl) (by decide) h (fun c3 h => ?_) (fun c3 h => ?_)
  · refine g_iconst (v := 0) F (dAt dk_X6_judge 10 rfl) (by decide) ?_
    refine g_istore_n (lv' := [(3, .int 0), (2, .int r1), (0, .ref (ad 39)), (1, .int x1)]) F (dAt dk_X6_judge 11 rfl) (by decide) rfl ?_
    refine g_sub (lv' := [(0, .ref (ad 39)), (1, .int x1), (3, .int 0)]) [2, 3, 0] rfl ?_
    exact H18  n (0, t2) h
  · refine g_aload_n F (dAt dk_X6_judge 6 rfl) 1 rfl ?_
    refine g_iload_n F (dAt dk_X6_judge 7 rfl) 0 rfl ?_
    refine g_invV_im F mi_X6_no10 (gm mw_1018 rfl) (dAt dk_X6_judge 8 rfl) (rcx_of F rc_Model) [.int r1] rfl rfl (by decide) (Nat.le_of_ble_eq_true rfl) h (fun _ _ hf => c_X6_no10 hJ hf) (fun r4 t5 h => ?_)
    cases h
    exact E (dAt dk_X6_judge 9 rfl) rfl
theorem mi_X6_mend : MI yX6_mend cX6_mend 6 (some .int) "MillOfDistancesModel" 1 := ⟨(gm mw_1216 rfl), (gm mw_1214 rfl), (gm mw_1215 rfl), (gm mw_75 rfl), by decide +kernel, by decide⟩
theorem c_X6_mend {l : Launch} {D : va_G} {ad : Nat → Nat} {g : Gv} {t u : Mem} {n : Nat} {x1 : Int32} {u' : Mem} {r : Int32} (hJ : Jad ad) (h : f_X6_mend n x1 u = some (r, u')) : ConI l yX6_mend cX6_mend 6 (some .int) 3 [.ref (ad 39), .int x1] D ad g t u t u' r := by
  refine con_i hJ (by decide) (Nat.le_of_ble_eq_true rfl) rfl (fun X F E => ?_)
  have H148 : ∀ (self133 : Int32 × Int32 × Mem → Option (Int32 × Mem)), (∀ s, self133 s = some (r, u') → G X D ad g t s.2.2 [(0, .ref (ad 39)), (3, .int s.1), (4, .int s.2.1)] 133 []) → ∀ (k : Nat) (s : Int32 × Int32 × Int32 × Mem), iter (bd_X6_mend_148 n x1 self133) k s = some (r, u') → G X D ad g t s.2.2.2 [(0, .ref (ad 39)), (3, .int s.1), (4, .int s.2.1), (5, .int s.2.2.1)] 148 [] := by
    intro self133 ih133
    refine iter_walk (P := fun (s : Int32 × Int32 × Int32 × Mem) => G X D ad g t s.2.2.2 [(0, .ref (ad 39)), (3, .int s.1), (4, .int s.2.1), (5, .int s.2.2.1)] 148 []) (fun self148 ih148 s h => ?_)
    obtain ⟨v3, v4, v5, u0⟩ := s
    change G X D ad g t u0 [(0, .ref (ad 39)), (3, .int v3), (4, .int v4), (5, .int v5)] 148 []
    unfold bd_X6_mend_148 at h; try dsimp only at h
    refine g_iload F (dAt dk_X6_mend 78 rfl) 3 rfl ?_
    refine g_aload_n F (dAt dk_X6_mend 79 rfl) 0 rfl ?_
    refine gg_Model_places F (gm mw_867 rfl) (dAt dk_X6_mend 80 rfl) ?_
    refine g_icmp_ge (tgt := 193) F (dAt dk_X6_mend 81 rfl) (by decide) h (fun c27 h => ?_) (fun c27 h => ?_)
    · refine g_iinc (lv' := [(4, .int (v4 + 1)), (0, .ref (ad 39)), (3, .int v3), (5, .int v5)]) F (dAt dk_X6_mend 104 rfl) 2 rfl (w := 1) (by decide) (by decide) rfl ?_
      refine g_goto (tgt := 133) F (dAt dk_X6_mend 105 rfl) (by decide) ?_
      refine g_sub (lv' := [(0, .ref (ad 39)), (3, .int v3), (4, .int (v4 + 1))]) [1, 2, 0] rfl ?_
      exact ih133 (v3, (v4 + 1), u0) h
    · refine g_iload_n F (dAt dk_X6_mend 82 rfl) 1 rfl ?_
      refine g_aload_n F (dAt dk_X6_mend 83 rfl) 0 rfl ?_
      refine gg_Model_miles F (gm mw_870 rfl) (dAt dk_X6_mend 84 rfl) ?_
      refine g_bipush (v := 8) F (dAt dk_X6_mend 85 rfl) (by decide) ?_
      refine g_iload F (dAt dk_X6_mend 86 rfl) 2 rfl ?_
      refine g_imul F (dAt dk_X6_mend 87 rfl) ?_
      refine g_iload F (dAt dk_X6_mend 88 rfl) 3 rfl ?_
      refine g_iadd F (dAt dk_X6_mend 89 rfl) ?_
      refine g_ck h (fun hi28 h => ?_)
      refine g_ialoadm F am_miles (dAt dk_X6_mend 90 rfl) hi28 ?_
      refine g_aload_n F (dAt dk_X6_mend 91 rfl) 0 rfl ?_
      refine gg_Model_far F (gm mw_884 rfl) (dAt dk_X6_mend 92 rfl) ?_
      refine g_bipush (v := 8) F (dAt dk_X6_mend 93 rfl) (by decide) ?_
      refine g_iload F (dAt dk_X6_mend 94 rfl) 2 rfl ?_
      refine g_imul F (dAt dk_X6_mend 95 rfl) ?_
      refine g_iload F (dAt dk_X6_mend 96 rfl) 3 rfl ?_
      refine g_iadd F (dAt dk_X6_mend 97 rfl) ?_
      refine g_ck h (fun hi29 h => ?_)
      refine g_ialoadm F am_far (dAt dk_X6_mend 98 rfl) hi29 ?_
      refine g_isub F (dAt dk_X6_mend 99 rfl) ?_
      refine g_iadd F (dAt dk_X6_mend 100 rfl) ?_
      refine g_lti h (fun y30 h => ?_)
      refine g_istore_n (lv' := [(3, .int y30), (0, .ref (ad 39)), (4, .int v4), (5, .int v5)]) F (dAt dk_X6_mend 101 rfl) (by decide) rfl ?_
      refine g_iinc (lv' := [(5, .int (v5 + 1)), (3, .int y30), (0, .ref (ad 39)), (4, .int v4)]) F (dAt dk_X6_mend 102 rfl) 3 rfl (w := 1) (by decide) (by decide) rfl ?_
      refine g_goto (tgt := 148) F (dAt dk_X6_mend 103 rfl) (by decide) ?_
      refine g_sub (lv' := [(0, .ref (ad 39)), (3, .int y30), (4, .int v4), (5, .int (v5 + 1))]) [2, 1, 3, 0] rfl ?_
      exact ih148 (y30, v4, (v5 + 1), u0) h
  have H133 : ∀ (k : Nat) (s : Int32 × Int32 × Mem), iter (bd_X6_mend_133 n x1) k s = some (r, u') → G X D ad g t s.2.2 [(0, .ref (ad 39)), (3, .int s.1), (4, .int s.2.1)] 133 [] := by
    refine iter_walk (P := fun (s : Int32 × Int32 × Mem) => G X D ad g t s.2.2 [(0, .ref (ad 39)), (3, .int s.1), (4, .int s.2.1)] 133 []) (fun self133 ih133 s h => ?_)
    obtain ⟨v3, v4, u0⟩ := s
    change G X D ad g t u0 [(0, .ref (ad 39)), (3, .int v3), (4, .int v4)] 133 []
    unfold bd_X6_mend_133 at h; try dsimp only at h
    refine g_iload F (dAt dk_X6_mend 70 rfl) 2 rfl ?_
    refine g_aload_n F (dAt dk_X6_mend 71 rfl) 0 rfl ?_
    refine gg_Model_places F (gm mw_867 rfl) (dAt dk_X6_mend 72 rfl) ?_
    refine g_icmp_ge (tgt := 199) F (dAt dk_X6_mend 73 rfl) (by decide) h (fun c18 h => ?_) (fun c18 h => ?_)
    · refine g_aload_n F (dAt dk_X6_mend 106 rfl) 0 rfl ?_
      refine g_aload_n F (dAt dk_X6_mend 107 rfl) 0 rfl ?_
      refine gg_Model_ahead F (gm mw_880 rfl) (dAt dk_X6_mend 108 rfl) ?_
      refine g_invV_vm F mi_X6_again (gm mw_1098 rfl) (dAt dk_X6_mend 109 rfl) (rcx_of F rc_Model) [.ref (ad (oKp 1))] rfl rfl (by decide) (Nat.le_of_ble_eq_true rfl) h (fun _ _ hf => c_X6_again hJ hf) (fun _ t19 h => ?_)
      refine g_iload_n F (dAt dk_X6_mend 110 rfl) 1 rfl ?_
      cases h
      exact E (dAt dk_X6_mend 111 rfl) rfl
    · refine g_iload F (dAt dk_X6_mend 74 rfl) 2 rfl ?_
      refine g_iconst (v := 1) F (dAt dk_X6_mend 75 rfl) (by decide) ?_
      refine g_iadd F (dAt dk_X6_mend 76 rfl) ?_
      refine g_istore (lv' := [(5, .int (v4 + 1)), (0, .ref (ad 39)), (3, .int v3), (4, .int v4)]) F (dAt dk_X6_mend 77 rfl) (by decide) rfl ?_
      refine g_sub (lv' := [(0, .ref (ad 39)), (3, .int v3), (4, .int v4), (5, .int (v4 + 1))]) [1, 2, 3, 0] rfl ?_
      exact H148 self133 ih133 n (v3, v4, (v4 + 1), u0) h
  have H83 : ∀ (self68 : Int32 × Int32 × Mem → Option (Int32 × Mem)), (∀ s, self68 s = some (r, u') → G X D ad g t s.2.2 [(0, .ref (ad 39)), (1, .int x1), (3, .int s.1), (4, .int s.2.1)] 68 []) → ∀ (k : Nat) (s : Int32 × Int32 × Int32 × Mem), iter (bd_X6_mend_83 n x1 self68) k s = some (r, u') → G X D ad g t s.2.2.2 [(0, .ref (ad 39)), (1, .int x1), (3, .int s.1), (4, .int s.2.1), (5, .int s.2.2.1)] 83 [] := by
    intro self68 ih68
    refine iter_walk (P := fun (s : Int32 × Int32 × Int32 × Mem) => G X D ad g t s.2.2.2 [(0, .ref (ad 39)), (1, .int x1), (3, .int s.1), (4, .int s.2.1), (5, .int s.2.2.1)] 83 []) (fun self83 ih83 s h => ?_)
    obtain ⟨v3, v4, v5, u0⟩ := s
    change G X D ad g t u0 [(0, .ref (ad 39)), (1, .int x1), (3, .int v3), (4, .int v4), (5, .int v5)] 83 []
    unfold bd_X6_mend_83 at h; try dsimp only at h
    refine g_iload F (dAt dk_X6_mend 46 rfl) 4 rfl ?_
    refine g_aload_n F (dAt dk_X6_mend 47 rfl) 0 rfl ?_
    refine gg_Model_places F (gm mw_867 rfl) (dAt dk_X6_mend 48 rfl) ?_
    refine g_icmp_ge (tgt := 120) F (dAt dk_X6_mend 49 rfl) (by decide) h (fun c20 h => ?_) (fun c20 h => ?_)
    · refine g_iinc (lv' := [(4, .int (v4 + 1)), (0, .ref (ad 39)), (1, .int x1), (3, .int v3), (5, .int v5)]) F (dAt dk_X6_mend 64 rfl) 3 rfl (w := 1) (by decide) (by decide) rfl ?_
      refine g_goto (tgt := 68) F (dAt dk_X6_mend 65 rfl) (by decide) ?_
      refine g_sub (lv' := [(0, .ref (ad 39)), (1, .int x1), (3, .int v3), (4, .int (v4 + 1))]) [1, 2, 3, 0] rfl ?_
      exact ih68 (v3, (v4 + 1), u0) h
    · refine g_aload_n F (dAt dk_X6_mend 50 rfl) 0 rfl ?_
      refine g_iload F (dAt dk_X6_mend 51 rfl) 3 rfl ?_
      refine g_iload F (dAt dk_X6_mend 52 rfl) 4 rfl ?_
      refine g_aload_n F (dAt dk_X6_mend 53 rfl) 0 rfl ?_
      refine g_iload_n F (dAt dk_X6_mend 54 rfl) 1 rfl ?_
      refine g_aload_n F (dAt dk_X6_mend 55 rfl) 0 rfl ?_
      refine g_iload F (dAt dk_X6_mend 56 rfl) 3 rfl ?_
      refine g_iload F (dAt dk_X6_mend 57 rfl) 4 rfl ?_
      refine g_invV_im F mi_X6_pair (gm mw_1209 rfl) (dAt dk_X6_mend 58 rfl) (rcx_of F rc_Model) [.int v4, .int v5] rfl rfl (by decide) (Nat.le_of_ble_eq_true rfl) h (fun _ _ hf => c_X6_pair hJ hf) (fun r21 t22 h => ?_)
      refine g_invV_im F mi_X6_told (gm mw_1190 rfl) (dAt dk_X6_mend 59 rfl) (rcx_of F rc_Model) [.int x1, .int r21] rfl rfl (by decide) (Nat.le_of_ble_eq_true rfl) h (fun _ _ hf => c_X6_told hJ hf) (fun r23 t24 h => ?_)
      refine g_invV_im F mi_X6_lay (gm mw_1010 rfl) (dAt dk_X6_mend 60 rfl) (rcx_of F rc_Model) [.int v4, .int v5, .int r23] rfl rfl (by decide) (Nat.le_of_ble_eq_true rfl) h (fun _ _ hf => c_X6_lay hJ hf) (fun r25 t26 h => ?_)
      refine g_pop F (dAt dk_X6_mend 61 rfl) rfl ?_
      refine g_iinc (lv' := [(5, .int (v5 + 1)), (0, .ref (ad 39)), (1, .int x1), (3, .int v3), (4, .int v4)]) F (dAt dk_X6_mend 62 rfl) 4 rfl (w := 1) (by decide) (by decide) rfl ?_
      refine g_goto (tgt := 83) F (dAt dk_X6_mend 63 rfl) (by decide) ?_
      refine g_sub (lv' := [(0, .ref (ad 39)), (1, .int x1), (3, .int v3), (4, .int v4), (5, .int (v5 + 1))]) [1, 2, 3, 4, 0] rfl ?_
      exact ih83 (v3, v4, (v5 + 1), t26) h
  have H68 : ∀ (k : Nat) (s : Int32 × Int32 × Mem), iter (bd_X6_mend_68 n x1) k s = some (r, u') → G X D ad g t s.2.2 [(0, .ref (ad 39)), (1, .int x1), (3, .int s.1), (4, .int s.2.1)] 68 [] := by
    refine iter_walk (P := fun (s : Int32 × Int32 × Mem) => G X D ad g t s.2.2 [(0, .ref (ad 39)), (1, .int x1), (3, .int s.1), (4, .int s.2.1)] 68 []) (fun self68 ih68 s h => ?_)
    obtain ⟨v3, v4, u0⟩ := s
    change G X D ad g t u0 [(0, .ref (ad 39)), (1, .int x1), (3, .int v3), (4, .int v4)] 68 []
    unfold bd_X6_mend_68 at h; try dsimp only at h
    refine g_iload F (dAt dk_X6_mend 38 rfl) 3 rfl ?_
    refine g_aload_n F (dAt dk_X6_mend 39 rfl) 0 rfl ?_
    refine gg_Model_places F (gm mw_867 rfl) (dAt dk_X6_mend 40 rfl) ?_
    refine g_icmp_ge (tgt := 126) F (dAt dk_X6_mend 41 rfl) (by decide) h (fun c16 h => ?_) (fun c16 h => ?_)
    · refine g_aload_n F (dAt dk_X6_mend 66 rfl) 0 rfl ?_
      refine g_invV_vm F mi_X6_walk (gm mw_1118 rfl) (dAt dk_X6_mend 67 rfl) (rcx_of F rc_Model) [] rfl rfl (by decide) (Nat.le_of_ble_eq_true rfl) h (fun _ _ hf => c_X6_walk hJ hf) (fun _ t17 h => ?_)
      refine g_iconst (v := 0) F (dAt dk_X6_mend 68 rfl) (by decide) ?_
      refine g_istore (lv' := [(4, .int 0), (0, .ref (ad 39)), (1, .int x1), (3, .int v3)]) F (dAt dk_X6_mend 69 rfl) (by decide) rfl ?_
      refine g_sub (lv' := [(0, .ref (ad 39)), (3, .int v3), (4, .int 0)]) [1, 3, 0] rfl ?_
      exact H133  n (v3, 0, t17) h
    · refine g_iload F (dAt dk_X6_mend 42 rfl) 3 rfl ?_
      refine g_iconst (v := 1) F (dAt dk_X6_mend 43 rfl) (by decide) ?_
      refine g_iadd F (dAt dk_X6_mend 44 rfl) ?_
      refine g_istore (lv' := [(5, .int (v4 + 1)), (0, .ref (ad 39)), (1, .int x1), (3, .int v3), (4, .int v4)]) F (dAt dk_X6_mend 45 rfl) (by decide) rfl ?_
      refine g_sub (lv' := [(0, .ref (ad 39)), (1, .int x1), (3, .int v3), (4, .int v4), (5, .int (v4 + 1))]) [1, 2, 3, 4, 0] rfl ?_
      exact H83 self68 ih68 n (v3, v4, (v4 + 1), u0) h
  have H18 : ∀ (k : Nat) (s : Int32 × Mem), iter (bd_X6_mend_18 n x1) k s = some (r, u') → G X D ad g t s.2 [(0, .ref (ad 39)), (1, .int x1), (3, .int s.1)] 18 [] := by
    refine iter_walk (P := fun (s : Int32 × Mem) => G X D ad g t s.2 [(0, .ref (ad 39)), (1, .int x1), (3, .int s.1)] 18 []) (fun self18 ih18 s h => ?_)
    obtain ⟨v3, u0⟩ := s
    change G X D ad g t u0 [(0, .ref (ad 39)), (1, .int x1), (3, .int v3)] 18 []
    unfold bd_X6_mend_18 at h; try dsimp only at h
    refine g_iload_n F (dAt dk_X6_mend 12 rfl) 2 rfl ?_
    refine g_aload_n F (dAt dk_X6_mend 13 rfl) 0 rfl ?_
    refine g_invV_im F mi_X6_pairs (gm mw_1205 rfl) (dAt dk_X6_mend 14 rfl) (rcx_of F rc_Model) [] rfl rfl (by decide) (Nat.le_of_ble_eq_true rfl) h (fun _ _ hf => c_X6_pairs hJ hf) (fun r6 t7 h => ?_)
    refine g_icmp_ge (tgt := 55) F (dAt dk_X6_mend 15 rfl) (by decide) h (fun c8 h => ?_) (fun c8 h => ?_)
    · refine g_aload_n F (dAt dk_X6_mend 30 rfl) 0 rfl ?_
      refine g_aload_n F (dAt dk_X6_mend 31 rfl) 0 rfl ?_
      refine gg_Model_ahead F (gm mw_880 rfl) (dAt dk_X6_mend 32 rfl) ?_
      refine g_invV_vm F mi_X6_keep (gm mw_1031 rfl) (dAt dk_X6_mend 33 rfl) (rcx_of F rc_Model) [.ref (ad (oKp 1))] rfl rfl (by decide) (Nat.le_of_ble_eq_true rfl) h (fun _ _ hf => c_X6_keep hJ hf) (fun _ t9 h => ?_)
      refine g_iconst (v := 0) F (dAt dk_X6_mend 34 rfl) (by decide) ?_
      refine g_istore_n (lv' := [(3, .int 0), (0, .ref (ad 39)), (1, .int x1)]) F (dAt dk_X6_mend 35 rfl) (by decide) rfl ?_
      refine g_iconst (v := 0) F (dAt dk_X6_mend 36 rfl) (by decide) ?_
      refine g_istore (lv' := [(4, .int 0), (3, .int 0), (0, .ref (ad 39)), (1, .int x1)]) F (dAt dk_X6_mend 37 rfl) (by decide) rfl ?_
      refine g_sub (lv' := [(0, .ref (ad 39)), (1, .int x1), (3, .int 0), (4, .int 0)]) [2, 3, 1, 0] rfl ?_
      exact H68  n (0, 0, t9) h
    · refine g_aload_n F (dAt dk_X6_mend 16 rfl) 0 rfl ?_
      refine g_iload_n F (dAt dk_X6_mend 17 rfl) 1 rfl ?_
      refine g_iload_n F (dAt dk_X6_mend 18 rfl) 2 rfl ?_
      refine g_invV_im F mi_X6_told (gm mw_1190 rfl) (dAt dk_X6_mend 19 rfl) (rcx_of F rc_Model) [.int x1, .int v3] rfl rfl (by decide) (Nat.le_of_ble_eq_true rfl) h (fun _ _ hf => c_X6_told hJ hf) (fun r10 t11 h => ?_)
      refine g_iconst (v := 1) F (dAt dk_X6_mend 20 rfl) (by decide) ?_
      refine g_sipush (v := 9999) F (dAt dk_X6_mend 21 rfl) (by decide) ?_
      refine g_invS_ip F ms_X6_within (gm mw_935 rfl) (dAt dk_X6_mend 22 rfl) [.int r10, .int 1, .int 9999] rfl rfl (by decide) (Nat.le_of_ble_eq_true rfl) h (fun _ hf => c_X6_within hJ hf) (fun r12 h => ?_)
      refine g_if_ne (tgt := 49) F (dAt dk_X6_mend 23 rfl) (by decide) h (fun c13 h => ?_) (fun c13 h => ?_)
      · refine g_iinc (lv' := [(3, .int (v3 + 1)), (0, .ref (ad 39)), (1, .int x1)]) F (dAt dk_X6_mend 28 rfl) 2 rfl (w := 1) (by decide) (by decide) rfl ?_
        refine g_goto (tgt := 18) F (dAt dk_X6_mend 29 rfl) (by decide) ?_
        refine g_sub (lv' := [(0, .ref (ad 39)), (1, .int x1), (3, .int (v3 + 1))]) [1, 2, 0] rfl ?_
        exact ih18 ((v3 + 1), t11) h
      · refine g_aload_n F (dAt dk_X6_mend 24 rfl) 0 rfl ?_
        refine g_bipush (v := (-6)) F (dAt dk_X6_mend 25 rfl) (by decide) ?_
        refine g_invV_im F mi_X6_no (gm mw_938 rfl) (dAt dk_X6_mend 26 rfl) (rcx_of F rc_Model) [.int (-6)] rfl rfl (by decide) (Nat.le_of_ble_eq_true rfl) h (fun _ _ hf => c_X6_no hJ hf) (fun r14 t15 h => ?_)
        cases h
        exact E (dAt dk_X6_mend 27 rfl) rfl
  refine g_lv (lv' := [(0, .ref (ad 39)), (1, .int x1)]) rfl ?_
  unfold f_X6_mend at h
  refine g_aload_n F (dAt dk_X6_mend 0 rfl) 0 rfl ?_
  refine g_iload_n F (dAt dk_X6_mend 1 rfl) 1 rfl ?_
  refine g_invV_im F mi_X6_noTable (gm mw_1201 rfl) (dAt dk_X6_mend 2 rfl) (rcx_of F rc_Model) [.int x1] rfl rfl (by decide) (Nat.le_of_ble_eq_true rfl) h (fun _ _ hf => c_X6_noTable hJ hf) (fun r1 t2 h => ?_)
  refine g_istore_n (lv' := [(2, .int r1), (0, .ref (ad 39)), (1, .int x1)]) F (dAt dk_X6_mend 3 rfl) (by decide) rfl ?_
  refine g_iload_n F (dAt dk_X6_mend 4 rfl) 0 rfl ?_
  refine g_if_ge (tgt := 16) F (dAt dk_X6_mend 5 rfl) (by decide) h (fun c3 h => ?_) (fun c3 h => ?_)
  · refine g_iconst (v := 0) F (dAt dk_X6_mend 10 rfl) (by decide) ?_
    refine g_istore_n (lv' := [(3, .int 0), (2, .int r1), (0, .ref (ad 39)), (1, .int x1)]) F (dAt dk_X6_mend 11 rfl) (by decide) rfl ?_
    refine g_sub (lv' := [(0, .ref (ad 39)), (1, .int x1), (3, .int 0)]) [2, 3, 0] rfl ?_
    exact H18  n (0, t2) h
  · refine g_aload_n F (dAt dk_X6_mend 6 rfl) 1 rfl ?_
    refine g_iload_n F (dAt dk_X6_mend 7 rfl) 0 rfl ?_
    refine g_invV_im F mi_X6_no (gm mw_938 rfl) (dAt dk_X6_mend 8 rfl) (rcx_of F rc_Model) [.int r1] rfl rfl (by decide) (Nat.le_of_ble_eq_true rfl) h (fun _ _ hf => c_X6_no hJ hf) (fun r4 t5 h => ?_)
    cases h
    exact E (dAt dk_X6_mend 9 rfl) rfl
theorem mi_X6_noPinches : MI yX6_noPinches cX6_noPinches 4 (some .int) "MillOfDistancesModel" 2 := ⟨(gm mw_1224 rfl), (gm mw_1223 rfl), (gm mw_61 rfl), (gm mw_75 rfl), by decide +kernel, by decide⟩
theorem c_X6_noPinches {l : Launch} {D : va_G} {ad : Nat → Nat} {g : Gv} {t u : Mem} {x1 : Int32} {x2 : Int32} {u' : Mem} {r : Int32} (hJ : Jad ad) (h : f_X6_noPinches x1 x2 u = some (r, u')) : ConI l yX6_noPinches cX6_noPinches 4 (some .int) 2 [.ref (ad 39), .int x1, .int x2] D ad g t u t u' r := by
  refine con_i hJ (by decide) (Nat.le_of_ble_eq_true rfl) rfl (fun X F E => ?_)
  refine g_lv (lv' := [(0, .ref (ad 39)), (1, .int x1), (2, .int x2)]) rfl ?_
  unfold f_X6_noPinches at h
  refine g_aload_n F (dAt dk_X6_noPinches 0 rfl) 0 rfl ?_
  refine g_iload_n F (dAt dk_X6_noPinches 1 rfl) 1 rfl ?_
  refine g_invV_im F mi_X6_noRow (gm mw_946 rfl) (dAt dk_X6_noPinches 2 rfl) (rcx_of F rc_Model) [.int x1] rfl rfl (by decide) (Nat.le_of_ble_eq_true rfl) h (fun _ _ hf => c_X6_noRow hJ hf) (fun r1 t2 h => ?_)
  refine g_istore_n (lv' := [(3, .int r1), (0, .ref (ad 39)), (1, .int x1), (2, .int x2)]) F (dAt dk_X6_noPinches 3 rfl) (by decide) rfl ?_
  refine g_iload_n F (dAt dk_X6_noPinches 4 rfl) 0 rfl ?_
  refine g_if_ge (tgt := 12) F (dAt dk_X6_noPinches 5 rfl) (by decide) h (fun c3 h => ?_) (fun c3 h => ?_)
  · refine g_iload_n F (dAt dk_X6_noPinches 8 rfl) 3 rfl ?_
    refine g_if_ge (tgt := 19) F (dAt dk_X6_noPinches 9 rfl) (by decide) h (fun c4 h => ?_) (fun c4 h => ?_)
    · refine g_ldc2 (v := 3) F (dAt dk_X6_noPinches 12 rfl) (gm mw_1225 rfl) ?_
      refine g_iload_n F (dAt dk_X6_noPinches 13 rfl) 3 rfl ?_
      refine g_i2l F (dAt dk_X6_noPinches 14 rfl) ?_
      refine g_lmul F (dAt dk_X6_noPinches 15 rfl) ?_
      refine g_aload_n F (dAt dk_X6_noPinches 16 rfl) 1 rfl ?_
      refine gg_Model_rowLength F (gm mw_865 rfl) (dAt dk_X6_noPinches 17 rfl) ?_
      refine g_iload_n F (dAt dk_X6_noPinches 18 rfl) 2 rfl ?_
      refine g_ck h (fun hi5 h => ?_)
      refine g_ialoadm F am_rowLength (dAt dk_X6_noPinches 19 rfl) hi5 ?_
      refine g_i2l F (dAt dk_X6_noPinches 20 rfl) ?_
      refine g_lcmp F (dAt dk_X6_noPinches 21 rfl) ?_
      refine g_if_le (tgt := 39) F (dAt dk_X6_noPinches 22 rfl) (by decide) h (fun c6 h => ?_) (fun c6 h => ?_)
      · refine g_iload_n F (dAt dk_X6_noPinches 25 rfl) 3 rfl ?_
        refine g_bipush (v := 20) F (dAt dk_X6_noPinches 26 rfl) (by decide) ?_
        refine g_icmp_le (tgt := 50) F (dAt dk_X6_noPinches 27 rfl) (by decide) h (fun c7 h => ?_) (fun c7 h => ?_)
        · refine g_iconst (v := 0) F (dAt dk_X6_noPinches 30 rfl) (by decide) ?_
          cases h
          exact E (dAt dk_X6_noPinches 31 rfl) rfl
        · refine g_bipush (v := (-6)) F (dAt dk_X6_noPinches 28 rfl) (by decide) ?_
          refine g_goto (tgt := 51) F (dAt dk_X6_noPinches 29 rfl) (by decide) ?_
          cases h
          exact E (dAt dk_X6_noPinches 31 rfl) rfl
      · refine g_bipush (v := (-5)) F (dAt dk_X6_noPinches 23 rfl) (by decide) ?_
        cases h
        exact E (dAt dk_X6_noPinches 24 rfl) rfl
    · refine g_bipush (v := (-4)) F (dAt dk_X6_noPinches 10 rfl) (by decide) ?_
      cases h
      exact E (dAt dk_X6_noPinches 11 rfl) rfl
  · refine g_iload_n F (dAt dk_X6_noPinches 6 rfl) 0 rfl ?_
    cases h
    exact E (dAt dk_X6_noPinches 7 rfl) rfl
theorem mi_X6_pinched : MI yX6_pinched cX6_pinched 4 (some .int) "MillOfDistancesModel" 2 := ⟨(gm mw_1229 rfl), (gm mw_1228 rfl), (gm mw_62 rfl), (gm mw_75 rfl), by decide +kernel, by decide⟩
theorem c_X6_pinched {l : Launch} {D : va_G} {ad : Nat → Nat} {g : Gv} {t u : Mem} {n : Nat} {x1 : Int32} {x2 : Int32} {u' : Mem} {r : Int32} (hJ : Jad ad) (h : f_X6_pinched n x1 x2 u = some (r, u')) : ConI l yX6_pinched cX6_pinched 4 (some .int) 4 [.ref (ad 39), .int x1, .int x2] D ad g t u t u' r := by
  refine con_i hJ (by decide) (Nat.le_of_ble_eq_true rfl) rfl (fun X F E => ?_)
  have H2 : ∀ (k : Nat) (s : Int32 × Mem), iter (bd_X6_pinched_2 n x1 x2) k s = some (r, u') → G X D ad g t s.2 [(0, .ref (ad 39)), (1, .int x1), (2, .int x2), (3, .int s.1)] 2 [] := by
    refine iter_walk (P := fun (s : Int32 × Mem) => G X D ad g t s.2 [(0, .ref (ad 39)), (1, .int x1), (2, .int x2), (3, .int s.1)] 2 []) (fun self2 ih2 s h => ?_)
    obtain ⟨v3, u0⟩ := s
    change G X D ad g t u0 [(0, .ref (ad 39)), (1, .int x1), (2, .int x2), (3, .int v3)] 2 []
    unfold bd_X6_pinched_2 at h; try dsimp only at h
    refine g_iload_n F (dAt dk_X6_pinched 2 rfl) 3 rfl ?_
    refine g_iload_n F (dAt dk_X6_pinched 3 rfl) 2 rfl ?_
    refine g_icmp_ge (tgt := 82) F (dAt dk_X6_pinched 4 rfl) (by decide) h (fun c1 h => ?_) (fun c1 h => ?_)
    · refine g_iconst (v := (-1)) F (dAt dk_X6_pinched 58 rfl) (by decide) ?_
      cases h
      exact E (dAt dk_X6_pinched 59 rfl) rfl
    · refine g_aload_n F (dAt dk_X6_pinched 5 rfl) 0 rfl ?_
      refine g_aload_n F (dAt dk_X6_pinched 6 rfl) 0 rfl ?_
      refine g_iload_n F (dAt dk_X6_pinched 7 rfl) 1 rfl ?_
      refine g_iconst (v := 3) F (dAt dk_X6_pinched 8 rfl) (by decide) ?_
      refine g_iload_n F (dAt dk_X6_pinched 9 rfl) 3 rfl ?_
      refine g_imul F (dAt dk_X6_pinched 10 rfl) ?_
      refine g_invV_im F mi_X6_told (gm mw_1190 rfl) (dAt dk_X6_pinched 11 rfl) (rcx_of F rc_Model) [.int x1, .int (3 * v3)] rfl rfl (by decide) (Nat.le_of_ble_eq_true rfl) h (fun _ _ hf => c_X6_told hJ hf) (fun r2 t3 h => ?_)
      refine g_aload_n F (dAt dk_X6_pinched 12 rfl) 0 rfl ?_
      refine g_iload_n F (dAt dk_X6_pinched 13 rfl) 1 rfl ?_
      refine g_iconst (v := 3) F (dAt dk_X6_pinched 14 rfl) (by decide) ?_
      refine g_iload_n F (dAt dk_X6_pinched 15 rfl) 3 rfl ?_
      refine g_imul F (dAt dk_X6_pinched 16 rfl) ?_
      refine g_iconst (v := 1) F (dAt dk_X6_pinched 17 rfl) (by decide) ?_
      refine g_iadd F (dAt dk_X6_pinched 18 rfl) ?_
      refine g_invV_im F mi_X6_told (gm mw_1190 rfl) (dAt dk_X6_pinched 19 rfl) (rcx_of F rc_Model) [.int x1, .int ((3 * v3) + 1)] rfl rfl (by decide) (Nat.le_of_ble_eq_true rfl) h (fun _ _ hf => c_X6_told hJ hf) (fun r4 t5 h => ?_)
      refine g_aload_n F (dAt dk_X6_pinched 20 rfl) 0 rfl ?_
      refine g_iload_n F (dAt dk_X6_pinched 21 rfl) 1 rfl ?_
      refine g_iconst (v := 3) F (dAt dk_X6_pinched 22 rfl) (by decide) ?_
      refine g_iload_n F (dAt dk_X6_pinched 23 rfl) 3 rfl ?_
      refine g_imul F (dAt dk_X6_pinched 24 rfl) ?_
      refine g_iconst (v := 2) F (dAt dk_X6_pinched 25 rfl) (by decide) ?_
      refine g_iadd F (dAt dk_X6_pinched 26 rfl) ?_
      refine g_invV_im F mi_X6_told (gm mw_1190 rfl) (dAt dk_X6_pinched 27 rfl) (rcx_of F rc_Model) [.int x1, .int ((3 * v3) + 2)] rfl rfl (by decide) (Nat.le_of_ble_eq_true rfl) h (fun _ _ hf => c_X6_told hJ hf) (fun r6 t7 h => ?_)
      refine g_invV_im F mi_X6_may (gm mw_1080 rfl) (dAt dk_X6_pinched 28 rfl) (rcx_of F rc_Model) [.int r2, .int r4, .int r6] rfl rfl (by decide) (Nat.le_of_ble_eq_true rfl) h (fun _ _ hf => c_X6_may hJ hf) (fun r8 t9 h => ?_)
      refine g_if_ne (tgt := 44) F (dAt dk_X6_pinched 29 rfl) (by decide) h (fun c10 h => ?_) (fun c10 h => ?_)
      · refine g_aload_n F (dAt dk_X6_pinched 32 rfl) 0 rfl ?_
        refine g_aload_n F (dAt dk_X6_pinched 33 rfl) 0 rfl ?_
        refine g_iload_n F (dAt dk_X6_pinched 34 rfl) 1 rfl ?_
        refine g_iconst (v := 3) F (dAt dk_X6_pinched 35 rfl) (by decide) ?_
        refine g_iload_n F (dAt dk_X6_pinched 36 rfl) 3 rfl ?_
        refine g_imul F (dAt dk_X6_pinched 37 rfl) ?_
        refine g_invV_im F mi_X6_told (gm mw_1190 rfl) (dAt dk_X6_pinched 38 rfl) (rcx_of F rc_Model) [.int x1, .int (3 * v3)] rfl rfl (by decide) (Nat.le_of_ble_eq_true rfl) h (fun _ _ hf => c_X6_told hJ hf) (fun r11 t12 h => ?_)
        refine g_aload_n F (dAt dk_X6_pinched 39 rfl) 0 rfl ?_
        refine g_iload_n F (dAt dk_X6_pinched 40 rfl) 1 rfl ?_
        refine g_iconst (v := 3) F (dAt dk_X6_pinched 41 rfl) (by decide) ?_
        refine g_iload_n F (dAt dk_X6_pinched 42 rfl) 3 rfl ?_
        refine g_imul F (dAt dk_X6_pinched 43 rfl) ?_
        refine g_iconst (v := 1) F (dAt dk_X6_pinched 44 rfl) (by decide) ?_
        refine g_iadd F (dAt dk_X6_pinched 45 rfl) ?_
        refine g_invV_im F mi_X6_told (gm mw_1190 rfl) (dAt dk_X6_pinched 46 rfl) (rcx_of F rc_Model) [.int x1, .int ((3 * v3) + 1)] rfl rfl (by decide) (Nat.le_of_ble_eq_true rfl) h (fun _ _ hf => c_X6_told hJ hf) (fun r13 t14 h => ?_)
        refine g_aload_n F (dAt dk_X6_pinched 47 rfl) 0 rfl ?_
        refine g_iload_n F (dAt dk_X6_pinched 48 rfl) 1 rfl ?_
        refine g_iconst (v := 3) F (dAt dk_X6_pinched 49 rfl) (by decide) ?_
        refine g_iload_n F (dAt dk_X6_pinched 50 rfl) 3 rfl ?_
        refine g_imul F (dAt dk_X6_pinched 51 rfl) ?_
        refine g_iconst (v := 2) F (dAt dk_X6_pinched 52 rfl) (by decide) ?_
        refine g_iadd F (dAt dk_X6_pinched 53 rfl) ?_
        refine g_invV_im F mi_X6_told (gm mw_1190 rfl) (dAt dk_X6_pinched 54 rfl) (rcx_of F rc_Model) [.int x1, .int ((3 * v3) + 2)] rfl rfl (by decide) (Nat.le_of_ble_eq_true rfl) h (fun _ _ hf => c_X6_told hJ hf) (fun r15 t16 h => ?_)
        refine g_invV_vm F mi_X6_pinch (gm mw_1093 rfl) (dAt dk_X6_pinched 55 rfl) (rcx_of F rc_Model) [.int r11, .int r13, .int r15] rfl rfl (by decide) (Nat.le_of_ble_eq_true rfl) h (fun _ _ hf => c_X6_pinch hJ hf) (fun _ t17 h => ?_)
        refine g_iinc (lv' := [(3, .int (v3 + 1)), (0, .ref (ad 39)), (1, .int x1), (2, .int x2)]) F (dAt dk_X6_pinched 56 rfl) 3 rfl (w := 1) (by decide) (by decide) rfl ?_
        refine g_goto (tgt := 2) F (dAt dk_X6_pinched 57 rfl) (by decide) ?_
        refine g_sub (lv' := [(0, .ref (ad 39)), (1, .int x1), (2, .int x2), (3, .int (v3 + 1))]) [1, 2, 3, 0] rfl ?_
        exact ih2 ((v3 + 1), t17) h
      · refine g_iload_n F (dAt dk_X6_pinched 30 rfl) 3 rfl ?_
        cases h
        exact E (dAt dk_X6_pinched 31 rfl) rfl
  refine g_lv (lv' := [(0, .ref (ad 39)), (1, .int x1), (2, .int x2)]) rfl ?_
  unfold f_X6_pinched at h
  refine g_iconst (v := 0) F (dAt dk_X6_pinched 0 rfl) (by decide) ?_
  refine g_istore_n (lv' := [(3, .int 0), (0, .ref (ad 39)), (1, .int x1), (2, .int x2)]) F (dAt dk_X6_pinched 1 rfl) (by decide) rfl ?_
  refine g_sub (lv' := [(0, .ref (ad 39)), (1, .int x1), (2, .int x2), (3, .int 0)]) [1, 2, 3, 0] rfl ?_
  exact H2  n (0, u) h
theorem mi_X6_pinches : MI yX6_pinches cX6_pinches 5 (some .int) "MillOfDistancesModel" 2 := ⟨(gm mw_1220 rfl), (gm mw_1218 rfl), (gm mw_1219 rfl), (gm mw_75 rfl), by decide +kernel, by decide⟩
theorem c_X6_pinches {l : Launch} {D : va_G} {ad : Nat → Nat} {g : Gv} {t u : Mem} {n : Nat} {x1 : Int32} {x2 : Int32} {u' : Mem} {r : Int32} (hJ : Jad ad) (h : f_X6_pinches n x1 x2 u = some (r, u')) : ConI l yX6_pinches cX6_pinches 5 (some .int) 5 [.ref (ad 39), .int x1, .int x2] D ad g t u t u' r := by
  refine con_i hJ (by decide) (Nat.le_of_ble_eq_true rfl) rfl (fun X F E => ?_)
  refine g_lv (lv' := [(0, .ref (ad 39)), (1, .int x1), (2, .int x2)]) rfl ?_
  unfold f_X6_pinches at h
  refine g_aload_n F (dAt dk_X6_pinches 0 rfl) 0 rfl ?_
  refine g_iload_n F (dAt dk_X6_pinches 1 rfl) 1 rfl ?_
  refine g_iload_n F (dAt dk_X6_pinches 2 rfl) 2 rfl ?_
  refine g_invV_im F mi_X6_noPinches (gm mw_1221 rfl) (dAt dk_X6_pinches 3 rfl) (rcx_of F rc_Model) [.int x1, .int x2] rfl rfl (by decide) (Nat.le_of_ble_eq_true rfl) h (fun _ _ hf => c_X6_noPinches hJ hf) (fun r1 t2 h => ?_)
  refine g_istore_n (lv' := [(3, .int r1), (0, .ref (ad 39)), (1, .int x1), (2, .int x2)]) F (dAt dk_X6_pinches 4 rfl) (by decide) rfl ?_
  refine g_iload_n F (dAt dk_X6_pinches 5 rfl) 0 rfl ?_
  refine g_if_ge (tgt := 17) F (dAt dk_X6_pinches 6 rfl) (by decide) h (fun c3 h => ?_) (fun c3 h => ?_)
  · refine g_aload_n F (dAt dk_X6_pinches 11 rfl) 1 rfl ?_
    refine g_aload_n F (dAt dk_X6_pinches 12 rfl) 1 rfl ?_
    refine gg_Model_ahead F (gm mw_880 rfl) (dAt dk_X6_pinches 13 rfl) ?_
    refine g_invV_vm F mi_X6_keep (gm mw_1031 rfl) (dAt dk_X6_pinches 14 rfl) (rcx_of F rc_Model) [.ref (ad (oKp 1))] rfl rfl (by decide) (Nat.le_of_ble_eq_true rfl) h (fun _ _ hf => c_X6_keep hJ hf) (fun _ t4 h => ?_)
    refine g_aload_n F (dAt dk_X6_pinches 15 rfl) 1 rfl ?_
    refine g_iload_n F (dAt dk_X6_pinches 16 rfl) 2 rfl ?_
    refine g_iload_n F (dAt dk_X6_pinches 17 rfl) 3 rfl ?_
    refine g_invV_im F mi_X6_pinched (gm mw_1226 rfl) (dAt dk_X6_pinches 18 rfl) (rcx_of F rc_Model) [.int x1, .int x2] rfl rfl (by decide) (Nat.le_of_ble_eq_true rfl) h (fun _ _ hf => c_X6_pinched hJ hf) (fun r5 t6 h => ?_)
    refine g_istore (lv' := [(4, .int r5), (3, .int r1), (0, .ref (ad 39)), (1, .int x1), (2, .int x2)]) F (dAt dk_X6_pinches 19 rfl) (by decide) rfl ?_
    refine g_aload_n F (dAt dk_X6_pinches 20 rfl) 2 rfl ?_
    refine g_aload_n F (dAt dk_X6_pinches 21 rfl) 2 rfl ?_
    refine gg_Model_ahead F (gm mw_880 rfl) (dAt dk_X6_pinches 22 rfl) ?_
    refine g_invV_vm F mi_X6_again (gm mw_1098 rfl) (dAt dk_X6_pinches 23 rfl) (rcx_of F rc_Model) [.ref (ad (oKp 1))] rfl rfl (by decide) (Nat.le_of_ble_eq_true rfl) h (fun _ _ hf => c_X6_again hJ hf) (fun _ t7 h => ?_)
    refine g_iload F (dAt dk_X6_pinches 24 rfl) 0 rfl ?_
    cases h
    exact E (dAt dk_X6_pinches 25 rfl) rfl
  · refine g_aload_n F (dAt dk_X6_pinches 7 rfl) 1 rfl ?_
    refine g_iload_n F (dAt dk_X6_pinches 8 rfl) 0 rfl ?_
    refine g_invV_im F mi_X6_no10 (gm mw_1018 rfl) (dAt dk_X6_pinches 9 rfl) (rcx_of F rc_Model) [.int r1] rfl rfl (by decide) (Nat.le_of_ble_eq_true rfl) h (fun _ _ hf => c_X6_no10 hJ hf) (fun r8 t9 h => ?_)
    cases h
    exact E (dAt dk_X6_pinches 10 rfl) rfl
theorem mi_X6_left : MI yX6_left cX6_left 6 (some .int) "MillOfDistancesModel" 2 := ⟨(gm mw_1233 rfl), (gm mw_1231 rfl), (gm mw_1232 rfl), (gm mw_75 rfl), by decide +kernel, by decide⟩
theorem c_X6_left {l : Launch} {D : va_G} {ad : Nat → Nat} {g : Gv} {t u : Mem} {n : Nat} {x1 : Int32} {x2 : Int32} {u' : Mem} {r : Int32} (hJ : Jad ad) (h : f_X6_left n x1 x2 u = some (r, u')) : ConI l yX6_left cX6_left 6 (some .int) 5 [.ref (ad 39), .int x1, .int x2] D ad g t u t u' r := by
  refine con_i hJ (by decide) (Nat.le_of_ble_eq_true rfl) rfl (fun X F E => ?_)
  refine g_lv (lv' := [(0, .ref (ad 39)), (1, .int x1), (2, .int x2)]) rfl ?_
  unfold f_X6_left at h
  refine g_aload_n F (dAt dk_X6_left 0 rfl) 0 rfl ?_
  refine g_iload_n F (dAt dk_X6_left 1 rfl) 1 rfl ?_
  refine g_iload_n F (dAt dk_X6_left 2 rfl) 2 rfl ?_
  refine g_invV_im F mi_X6_noPinches (gm mw_1221 rfl) (dAt dk_X6_left 3 rfl) (rcx_of F rc_Model) [.int x1, .int x2] rfl rfl (by decide) (Nat.le_of_ble_eq_true rfl) h (fun _ _ hf => c_X6_noPinches hJ hf) (fun r1 t2 h => ?_)
  refine g_istore_n (lv' := [(3, .int r1), (0, .ref (ad 39)), (1, .int x1), (2, .int x2)]) F (dAt dk_X6_left 4 rfl) (by decide) rfl ?_
  refine g_iload_n F (dAt dk_X6_left 5 rfl) 0 rfl ?_
  refine g_if_ge (tgt := 17) F (dAt dk_X6_left 6 rfl) (by decide) h (fun c3 h => ?_) (fun c3 h => ?_)
  · refine g_aload_n F (dAt dk_X6_left 11 rfl) 1 rfl ?_
    refine g_aload_n F (dAt dk_X6_left 12 rfl) 1 rfl ?_
    refine gg_Model_ahead F (gm mw_880 rfl) (dAt dk_X6_left 13 rfl) ?_
    refine g_invV_vm F mi_X6_keep (gm mw_1031 rfl) (dAt dk_X6_left 14 rfl) (rcx_of F rc_Model) [.ref (ad (oKp 1))] rfl rfl (by decide) (Nat.le_of_ble_eq_true rfl) h (fun _ _ hf => c_X6_keep hJ hf) (fun _ t4 h => ?_)
    refine g_aload_n F (dAt dk_X6_left 15 rfl) 1 rfl ?_
    refine g_iload_n F (dAt dk_X6_left 16 rfl) 2 rfl ?_
    refine g_iload_n F (dAt dk_X6_left 17 rfl) 3 rfl ?_
    refine g_invV_im F mi_X6_pinched (gm mw_1226 rfl) (dAt dk_X6_left 18 rfl) (rcx_of F rc_Model) [.int x1, .int x2] rfl rfl (by decide) (Nat.le_of_ble_eq_true rfl) h (fun _ _ hf => c_X6_pinched hJ hf) (fun r5 t6 h => ?_)
    refine g_istore (lv' := [(4, .int r5), (3, .int r1), (0, .ref (ad 39)), (1, .int x1), (2, .int x2)]) F (dAt dk_X6_left 19 rfl) (by decide) rfl ?_
    refine g_aload_n F (dAt dk_X6_left 20 rfl) 2 rfl ?_
    refine gg_Model_flour F (gm mw_871 rfl) (dAt dk_X6_left 21 rfl) ?_
    refine g_istore (lv' := [(5, .int (t6.1 39 7)), (4, .int r5), (3, .int r1), (0, .ref (ad 39)), (1, .int x1), (2, .int x2)]) F (dAt dk_X6_left 22 rfl) (by decide) rfl ?_
    refine g_aload_n F (dAt dk_X6_left 23 rfl) 3 rfl ?_
    refine g_aload_n F (dAt dk_X6_left 24 rfl) 3 rfl ?_
    refine gg_Model_ahead F (gm mw_880 rfl) (dAt dk_X6_left 25 rfl) ?_
    refine g_invV_vm F mi_X6_again (gm mw_1098 rfl) (dAt dk_X6_left 26 rfl) (rcx_of F rc_Model) [.ref (ad (oKp 1))] rfl rfl (by decide) (Nat.le_of_ble_eq_true rfl) h (fun _ _ hf => c_X6_again hJ hf) (fun _ t7 h => ?_)
    refine g_iload F (dAt dk_X6_left 27 rfl) 1 rfl ?_
    refine g_iconst (v := (-1)) F (dAt dk_X6_left 28 rfl) (by decide) ?_
    refine g_icmp_ne (tgt := 58) F (dAt dk_X6_left 29 rfl) (by decide) h (fun c8 h => ?_) (fun c8 h => ?_)
    · refine g_aload_n F (dAt dk_X6_left 32 rfl) 3 rfl ?_
      refine g_bipush (v := (-6)) F (dAt dk_X6_left 33 rfl) (by decide) ?_
      refine g_invV_im F mi_X6_no (gm mw_938 rfl) (dAt dk_X6_left 34 rfl) (rcx_of F rc_Model) [.int (-6)] rfl rfl (by decide) (Nat.le_of_ble_eq_true rfl) h (fun _ _ hf => c_X6_no hJ hf) (fun r9 t10 h => ?_)
      cases h
      exact E (dAt dk_X6_left 35 rfl) rfl
    · refine g_iload F (dAt dk_X6_left 30 rfl) 0 rfl ?_
      refine g_goto (tgt := 64) F (dAt dk_X6_left 31 rfl) (by decide) ?_
      cases h
      exact E (dAt dk_X6_left 35 rfl) rfl
  · refine g_aload_n F (dAt dk_X6_left 7 rfl) 1 rfl ?_
    refine g_iload_n F (dAt dk_X6_left 8 rfl) 0 rfl ?_
    refine g_invV_im F mi_X6_no (gm mw_938 rfl) (dAt dk_X6_left 9 rfl) (rcx_of F rc_Model) [.int r1] rfl rfl (by decide) (Nat.le_of_ble_eq_true rfl) h (fun _ _ hf => c_X6_no hJ hf) (fun r11 t12 h => ?_)
    cases h
    exact E (dAt dk_X6_left 10 rfl) rfl
theorem mi_X6_done : MI yX6_done cX6_done 4 (some .int) "MillOfDistancesModel" 2 := ⟨(gm mw_1237 rfl), (gm mw_1235 rfl), (gm mw_1236 rfl), (gm mw_75 rfl), by decide +kernel, by decide⟩
theorem c_X6_done {l : Launch} {D : va_G} {ad : Nat → Nat} {g : Gv} {t u : Mem} {n : Nat} {x1 : Int32} {x2 : Int32} {u' : Mem} {r : Int32} (hJ : Jad ad) (h : f_X6_done n x1 x2 u = some (r, u')) : ConI l yX6_done cX6_done 4 (some .int) 5 [.ref (ad 39), .int x1, .int x2] D ad g t u t u' r := by
  refine con_i hJ (by decide) (Nat.le_of_ble_eq_true rfl) rfl (fun X F E => ?_)
  refine g_lv (lv' := [(0, .ref (ad 39)), (1, .int x1), (2, .int x2)]) rfl ?_
  unfold f_X6_done at h
  refine g_aload_n F (dAt dk_X6_done 0 rfl) 0 rfl ?_
  refine g_iload_n F (dAt dk_X6_done 1 rfl) 1 rfl ?_
  refine g_iload_n F (dAt dk_X6_done 2 rfl) 2 rfl ?_
  refine g_invV_im F mi_X6_noPinches (gm mw_1221 rfl) (dAt dk_X6_done 3 rfl) (rcx_of F rc_Model) [.int x1, .int x2] rfl rfl (by decide) (Nat.le_of_ble_eq_true rfl) h (fun _ _ hf => c_X6_noPinches hJ hf) (fun r1 t2 h => ?_)
  refine g_istore_n (lv' := [(3, .int r1), (0, .ref (ad 39)), (1, .int x1), (2, .int x2)]) F (dAt dk_X6_done 4 rfl) (by decide) rfl ?_
  refine g_iload_n F (dAt dk_X6_done 5 rfl) 0 rfl ?_
  refine g_if_ge (tgt := 17) F (dAt dk_X6_done 6 rfl) (by decide) h (fun c3 h => ?_) (fun c3 h => ?_)
  · refine g_aload_n F (dAt dk_X6_done 11 rfl) 1 rfl ?_
    refine g_aload_n F (dAt dk_X6_done 12 rfl) 1 rfl ?_
    refine gg_Model_ahead F (gm mw_880 rfl) (dAt dk_X6_done 13 rfl) ?_
    refine g_invV_vm F mi_X6_keep (gm mw_1031 rfl) (dAt dk_X6_done 14 rfl) (rcx_of F rc_Model) [.ref (ad (oKp 1))] rfl rfl (by decide) (Nat.le_of_ble_eq_true rfl) h (fun _ _ hf => c_X6_keep hJ hf) (fun _ t4 h => ?_)
    refine g_aload_n F (dAt dk_X6_done 15 rfl) 1 rfl ?_
    refine g_iload_n F (dAt dk_X6_done 16 rfl) 2 rfl ?_
    refine g_iload_n F (dAt dk_X6_done 17 rfl) 3 rfl ?_
    refine g_invV_im F mi_X6_pinched (gm mw_1226 rfl) (dAt dk_X6_done 18 rfl) (rcx_of F rc_Model) [.int x1, .int x2] rfl rfl (by decide) (Nat.le_of_ble_eq_true rfl) h (fun _ _ hf => c_X6_pinched hJ hf) (fun r5 t6 h => ?_)
    refine g_iconst (v := (-1)) F (dAt dk_X6_done 19 rfl) (by decide) ?_
    refine g_icmp_ne (tgt := 40) F (dAt dk_X6_done 20 rfl) (by decide) h (fun c7 h => ?_) (fun c7 h => ?_)
    · refine g_aload_n F (dAt dk_X6_done 24 rfl) 1 rfl ?_
      refine g_aload_n F (dAt dk_X6_done 25 rfl) 1 rfl ?_
      refine gg_Model_ahead F (gm mw_880 rfl) (dAt dk_X6_done 26 rfl) ?_
      refine g_invV_vm F mi_X6_again (gm mw_1098 rfl) (dAt dk_X6_done 27 rfl) (rcx_of F rc_Model) [.ref (ad (oKp 1))] rfl rfl (by decide) (Nat.le_of_ble_eq_true rfl) h (fun _ _ hf => c_X6_again hJ hf) (fun _ t8 h => ?_)
      refine g_aload_n F (dAt dk_X6_done 28 rfl) 1 rfl ?_
      refine g_bipush (v := (-6)) F (dAt dk_X6_done 29 rfl) (by decide) ?_
      refine g_invV_im F mi_X6_no (gm mw_938 rfl) (dAt dk_X6_done 30 rfl) (rcx_of F rc_Model) [.int (-6)] rfl rfl (by decide) (Nat.le_of_ble_eq_true rfl) h (fun _ _ hf => c_X6_no hJ hf) (fun r9 t10 h => ?_)
      cases h
      exact E (dAt dk_X6_done 31 rfl) rfl
    · refine g_aload_n F (dAt dk_X6_done 21 rfl) 1 rfl ?_
      refine gg_Model_flour F (gm mw_871 rfl) (dAt dk_X6_done 22 rfl) ?_
      cases h
      exact E (dAt dk_X6_done 23 rfl) rfl
  · refine g_aload_n F (dAt dk_X6_done 7 rfl) 1 rfl ?_
    refine g_iload_n F (dAt dk_X6_done 8 rfl) 0 rfl ?_
    refine g_invV_im F mi_X6_no (gm mw_938 rfl) (dAt dk_X6_done 9 rfl) (rcx_of F rc_Model) [.int r1] rfl rfl (by decide) (Nat.le_of_ble_eq_true rfl) h (fun _ _ hf => c_X6_no hJ hf) (fun r11 t12 h => ?_)
    cases h
    exact E (dAt dk_X6_done 10 rfl) rfl
theorem mi_X6_theft : MI yX6_theft cX6_theft 14 (some .int) "MillOfDistancesModel" 2 := ⟨(gm mw_1241 rfl), (gm mw_1239 rfl), (gm mw_1240 rfl), (gm mw_75 rfl), by decide +kernel, by decide⟩
set_option maxRecDepth 20000 in
theorem c_X6_theft {l : Launch} {D : va_G} {ad : Nat → Nat} {g : Gv} {t u : Mem} {n : Nat} {x1 : Int32} {x2 : Int32} {u' : Mem} {r : Int32} (hJ : Jad ad) (h : f_X6_theft n x1 x2 u = some (r, u')) : ConI l yX6_theft cX6_theft 14 (some .int) 3 [.ref (ad 39), .int x1, .int x2] D ad g t u t u' r := by
  refine con_i hJ (by decide) (Nat.le_of_ble_eq_true rfl) rfl (fun X F E => ?_)
  have J207 : ∀ (self41 : Int32 × Int32 × Int32 × Mem → Option (Int32 × Mem)), (∀ s, self41 s = some (r, u') → G X D ad g t s.2.2.2 [(0, .ref (ad 39)), (1, .int x1), (2, .int x2), (4, .int s.1), (5, .int s.2.1), (6, .int s.2.2.1)] 41 []) → ∀ (self56 : Int32 × Int32 × Int32 × Int32 × Mem → Option (Int32 × Mem)), (∀ s, self56 s = some (r, u') → G X D ad g t s.2.2.2.2 [(0, .ref (ad 39)), (1, .int x1), (2, .int x2), (4, .int s.1), (5, .int s.2.1), (6, .int s.2.2.1), (7, .int s.2.2.2.1)] 56 []) → ∀ (v4 : Int32) (v5 : Int32) (v6 : Int32) (v7 : Int32) (v8 : Int32) (v9 : Int32) (u0 : Mem), jn_X6_theft_207 n x1 x2 self41 self56 v4 v5 v6 v7 v8 v9 u0 = some (r, u') → G X D ad g t u0 [(0, .ref (ad 39)), (1, .int x1), (2, .int x2), (4, .int v4), (5, .int v5), (6, .int v6), (7, .int v7), (8, .int v8), (9, .int v9)] 207 [] := by
    intro self41 ih41 self56 ih56 v4 v5 v6 v7 v8 v9 u0 h
    unfold jn_X6_theft_207 at h
    refine g_aload_n F (dAt dk_X6_theft 108 rfl) 0 rfl ?_
    refine g_iload F (dAt dk_X6_theft 109 rfl) 5 rfl ?_
    refine g_iload F (dAt dk_X6_theft 110 rfl) 6 rfl ?_
    refine g_iload F (dAt dk_X6_theft 111 rfl) 7 rfl ?_
    refine g_invV_im F mi_X6_lay (gm mw_1010 rfl) (dAt dk_X6_theft 112 rfl) (rcx_of F rc_Model) [.int v6, .int v7, .int v8] rfl rfl (by decide) (Nat.le_of_ble_eq_true rfl) h (fun _ _ hf => c_X6_lay hJ hf) (fun r24 t25 h => ?_)
    refine g_pop F (dAt dk_X6_theft 113 rfl) rfl ?_
    refine g_iload F (dAt dk_X6_theft 114 rfl) 8 rfl ?_
    refine g_if_ne (tgt := 226) F (dAt dk_X6_theft 115 rfl) (by decide) h (fun c26 h => ?_) (fun c26 h => ?_)
    · refine g_iinc (lv' := [(4, .int (v4 + 1)), (0, .ref (ad 39)), (1, .int x1), (2, .int x2), (5, .int v5), (6, .int v6), (7, .int v7), (8, .int v8), (9, .int v9)]) F (dAt dk_X6_theft 117 rfl) 3 rfl (w := 1) (by decide) (by decide) rfl ?_
      refine g_iload F (dAt dk_X6_theft 118 rfl) 4 rfl ?_
      refine g_iconst (v := (-1)) F (dAt dk_X6_theft 119 rfl) (by decide) ?_
      refine g_icmp_ne (tgt := 252) F (dAt dk_X6_theft 120 rfl) (by decide) h (fun c27 h => ?_) (fun c27 h => ?_)
      · refine g_iinc (lv' := [(7, .int (v7 + 1)), (4, .int (v4 + 1)), (0, .ref (ad 39)), (1, .int x1), (2, .int x2), (5, .int v5), (6, .int v6), (8, .int v8), (9, .int v9)]) F (dAt dk_X6_theft 131 rfl) 6 rfl (w := 1) (by decide) (by decide) rfl ?_
        refine g_goto (tgt := 56) F (dAt dk_X6_theft 132 rfl) (by decide) ?_
        refine g_sub (lv' := [(0, .ref (ad 39)), (1, .int x1), (2, .int x2), (4, .int (v4 + 1)), (5, .int v5), (6, .int v6), (7, .int (v7 + 1))]) [2, 3, 4, 1, 5, 6, 0] rfl ?_
        exact ih56 ((v4 + 1), v5, v6, (v7 + 1), t25) h
      · refine g_sipush (v := 10000) F (dAt dk_X6_theft 121 rfl) (by decide) ?_
        refine g_iload F (dAt dk_X6_theft 122 rfl) 5 rfl ?_
        refine g_imul F (dAt dk_X6_theft 123 rfl) ?_
        refine g_bipush (v := 100) F (dAt dk_X6_theft 124 rfl) (by decide) ?_
        refine g_iload F (dAt dk_X6_theft 125 rfl) 6 rfl ?_
        refine g_imul F (dAt dk_X6_theft 126 rfl) ?_
        refine g_iadd F (dAt dk_X6_theft 127 rfl) ?_
        refine g_iload F (dAt dk_X6_theft 128 rfl) 8 rfl ?_
        refine g_iadd F (dAt dk_X6_theft 129 rfl) ?_
        refine g_lti h (fun y28 h => ?_)
        refine g_istore (lv' := [(5, .int y28), (4, .int (v4 + 1)), (0, .ref (ad 39)), (1, .int x1), (2, .int x2), (6, .int v6), (7, .int v7), (8, .int v8), (9, .int v9)]) F (dAt dk_X6_theft 130 rfl) (by decide) rfl ?_
        refine g_iinc (lv' := [(7, .int (v7 + 1)), (5, .int y28), (4, .int (v4 + 1)), (0, .ref (ad 39)), (1, .int x1), (2, .int x2), (6, .int v6), (8, .int v8), (9, .int v9)]) F (dAt dk_X6_theft 131 rfl) 6 rfl (w := 1) (by decide) (by decide) rfl ?_
        refine g_goto (tgt := 56) F (dAt dk_X6_theft 132 rfl) (by decide) ?_
        refine g_sub (lv' := [(0, .ref (ad 39)), (1, .int x1), (2, .int x2), (4, .int (v4 + 1)), (5, .int y28), (6, .int v6), (7, .int (v7 + 1))]) [3, 4, 5, 2, 1, 6, 0] rfl ?_
        exact ih56 ((v4 + 1), y28, v6, (v7 + 1), t25) h
    · refine g_goto (tgt := 252) F (dAt dk_X6_theft 116 rfl) (by decide) ?_
      refine g_iinc (lv' := [(7, .int (v7 + 1)), (0, .ref (ad 39)), (1, .int x1), (2, .int x2), (4, .int v4), (5, .int v5), (6, .int v6), (8, .int v8), (9, .int v9)]) F (dAt dk_X6_theft 131 rfl) 6 rfl (w := 1) (by decide) (by decide) rfl ?_
      refine g_goto (tgt := 56) F (dAt dk_X6_theft 132 rfl) (by decide) ?_
      refine g_sub (lv' := [(0, .ref (ad 39)), (1, .int x1), (2, .int x2), (4, .int v4), (5, .int v5), (6, .int v6), (7, .int (v7 + 1))]) [1, 2, 3, 4, 5, 6, 0] rfl ?_
      exact ih56 (v4, v5, v6, (v7 + 1), t25) h
  have H144 : ∀ (self41 : Int32 × Int32 × Int32 × Mem → Option (Int32 × Mem)), (∀ s, self41 s = some (r, u') → G X D ad g t s.2.2.2 [(0, .ref (ad 39)), (1, .int x1), (2, .int x2), (4, .int s.1), (5, .int s.2.1), (6, .int s.2.2.1)] 41 []) → ∀ (self56 : Int32 × Int32 × Int32 × Int32 × Mem → Option (Int32 × Mem)), (∀ s, self56 s = some (r, u') → G X D ad g t s.2.2.2.2 [(0, .ref (ad 39)), (1, .int x1), (2, .int x2), (4, .int s.1), (5, .int s.2.1), (6, .int s.2.2.1), (7, .int s.2.2.2.1)] 56 []) → ∀ (self86 : Int32 × Int32 × Int32 × Int32 × Int32 × Int32 × Int32 × Mem → Option (Int32 × Mem)), (∀ s, self86 s = some (r, u') → G X D ad g t s.2.2.2.2.2.2.2 [(0, .ref (ad 39)), (1, .int x1), (2, .int x2), (4, .int s.1), (5, .int s.2.1), (6, .int s.2.2.1), (7, .int s.2.2.2.1), (8, .int s.2.2.2.2.1), (9, .int s.2.2.2.2.2.1), (10, .int s.2.2.2.2.2.2.1)] 86 []) → ∀ (self129 : Int32 × Int32 × Int32 × Int32 × Int32 × Int32 × Int32 × Int32 × Int32 × Mem → Option (Int32 × Mem)), (∀ s, self129 s = some (r, u') → G X D ad g t s.2.2.2.2.2.2.2.2.2 [(0, .ref (ad 39)), (1, .int x1), (2, .int x2), (4, .int s.1), (5, .int s.2.1), (6, .int s.2.2.1), (7, .int s.2.2.2.1), (8, .int s.2.2.2.2.1), (9, .int s.2.2.2.2.2.1), (10, .int s.2.2.2.2.2.2.1), (11, .int s.2.2.2.2.2.2.2.1), (12, .int s.2.2.2.2.2.2.2.2.1)] 129 []) → ∀ (k : Nat) (s : Int32 × Int32 × Int32 × Int32 × Int32 × Int32 × Int32 × Int32 × Int32 × Int32 × Mem), iter (bd_X6_theft_144 n x1 x2 self41 self56 self86 self129) k s = some (r, u') → G X D ad g t s.2.2.2.2.2.2.2.2.2.2 [(0, .ref (ad 39)), (1, .int x1), (2, .int x2), (4, .int s.1), (5, .int s.2.1), (6, .int s.2.2.1), (7, .int s.2.2.2.1), (8, .int s.2.2.2.2.1), (9, .int s.2.2.2.2.2.1), (10, .int s.2.2.2.2.2.2.1), (11, .int s.2.2.2.2.2.2.2.1), (12, .int s.2.2.2.2.2.2.2.2.1), (13, .int s.2.2.2.2.2.2.2.2.2.1)] 144 [] := by
    intro self41 ih41 self56 ih56 self86 ih86 self129 ih129
    refine iter_walk (P := fun (s : Int32 × Int32 × Int32 × Int32 × Int32 × Int32 × Int32 × Int32 × Int32 × Int32 × Mem) => G X D ad g t s.2.2.2.2.2.2.2.2.2.2 [(0, .ref (ad 39)), (1, .int x1), (2, .int x2), (4, .int s.1), (5, .int s.2.1), (6, .int s.2.2.1), (7, .int s.2.2.2.1), (8, .int s.2.2.2.2.1), (9, .int s.2.2.2.2.2.1), (10, .int s.2.2.2.2.2.2.1), (11, .int s.2.2.2.2.2.2.2.1), (12, .int s.2.2.2.2.2.2.2.2.1), (13, .int s.2.2.2.2.2.2.2.2.2.1)] 144 []) (fun self144 ih144 s h => ?_)
    obtain ⟨v4, v5, v6, v7, v8, v9, v10, v11, v12, v13, u0⟩ := s
    change G X D ad g t u0 [(0, .ref (ad 39)), (1, .int x1), (2, .int x2), (4, .int v4), (5, .int v5), (6, .int v6), (7, .int v7), (8, .int v8), (9, .int v9), (10, .int v10), (11, .int v11), (12, .int v12), (13, .int v13)] 144 []
    unfold bd_X6_theft_144 at h; try dsimp only at h
    refine g_iload F (dAt dk_X6_theft 80 rfl) 12 rfl ?_
    refine g_aload_n F (dAt dk_X6_theft 81 rfl) 0 rfl ?_
    refine gg_Model_places F (gm mw_867 rfl) (dAt dk_X6_theft 82 rfl) ?_
    refine g_icmp_ge (tgt := 186) F (dAt dk_X6_theft 83 rfl) (by decide) h (fun c31 h => ?_) (fun c31 h => ?_)
    · refine g_iinc (lv' := [(12, .int (v12 + 1)), (0, .ref (ad 39)), (1, .int x1), (2, .int x2), (4, .int v4), (5, .int v5), (6, .int v6), (7, .int v7), (8, .int v8), (9, .int v9), (10, .int v10), (11, .int v11), (13, .int v13)]) F (dAt dk_X6_theft 100 rfl) 11 rfl (w := 1) (by decide) (by decide) rfl ?_
      refine g_goto (tgt := 129) F (dAt dk_X6_theft 101 rfl) (by decide) ?_
      refine g_sub (lv' := [(0, .ref (ad 39)), (1, .int x1), (2, .int x2), (4, .int v4), (5, .int v5), (6, .int v6), (7, .int v7), (8, .int v8), (9, .int v9), (10, .int v10), (11, .int v11), (12, .int (v12 + 1))]) [1, 2, 3, 4, 5, 6, 7, 8, 9, 10, 11, 0] rfl ?_
      exact ih129 (v4, v5, v6, v7, v8, v9, v10, v11, (v12 + 1), u0) h
    · refine g_aload_n F (dAt dk_X6_theft 84 rfl) 0 rfl ?_
      refine g_iload F (dAt dk_X6_theft 85 rfl) 11 rfl ?_
      refine g_iload F (dAt dk_X6_theft 86 rfl) 12 rfl ?_
      refine g_invV_im F mi_X6_farTold (gm mw_1122 rfl) (dAt dk_X6_theft 87 rfl) (rcx_of F rc_Model) [.int v12, .int v13] rfl rfl (by decide) (Nat.le_of_ble_eq_true rfl) h (fun _ _ hf => c_X6_farTold hJ hf) (fun r32 t33 h => ?_)
      refine g_aload_n F (dAt dk_X6_theft 88 rfl) 0 rfl ?_
      refine g_iload_n F (dAt dk_X6_theft 89 rfl) 1 rfl ?_
      refine g_aload_n F (dAt dk_X6_theft 90 rfl) 0 rfl ?_
      refine g_iload F (dAt dk_X6_theft 91 rfl) 11 rfl ?_
      refine g_iload F (dAt dk_X6_theft 92 rfl) 12 rfl ?_
      refine g_invV_im F mi_X6_pair (gm mw_1209 rfl) (dAt dk_X6_theft 93 rfl) (rcx_of F rc_Model) [.int v12, .int v13] rfl rfl (by decide) (Nat.le_of_ble_eq_true rfl) h (fun _ _ hf => c_X6_pair hJ hf) (fun r34 t35 h => ?_)
      refine g_invV_im F mi_X6_told (gm mw_1190 rfl) (dAt dk_X6_theft 94 rfl) (rcx_of F rc_Model) [.int x1, .int r34] rfl rfl (by decide) (Nat.le_of_ble_eq_true rfl) h (fun _ _ hf => c_X6_told hJ hf) (fun r36 t37 h => ?_)
      refine g_icmp_eq (tgt := 180) F (dAt dk_X6_theft 95 rfl) (by decide) h (fun c38 h => ?_) (fun c38 h => ?_)
      · refine g_iinc (lv' := [(13, .int (v13 + 1)), (0, .ref (ad 39)), (1, .int x1), (2, .int x2), (4, .int v4), (5, .int v5), (6, .int v6), (7, .int v7), (8, .int v8), (9, .int v9), (10, .int v10), (11, .int v11), (12, .int v12)]) F (dAt dk_X6_theft 98 rfl) 12 rfl (w := 1) (by decide) (by decide) rfl ?_
        refine g_goto (tgt := 144) F (dAt dk_X6_theft 99 rfl) (by decide) ?_
        refine g_sub (lv' := [(0, .ref (ad 39)), (1, .int x1), (2, .int x2), (4, .int v4), (5, .int v5), (6, .int v6), (7, .int v7), (8, .int v8), (9, .int v9), (10, .int v10), (11, .int v11), (12, .int v12), (13, .int (v13 + 1))]) [1, 2, 3, 4, 5, 6, 7, 8, 9, 10, 11, 12, 0] rfl ?_
        exact ih144 (v4, v5, v6, v7, v8, v9, v10, v11, v12, (v13 + 1), t37) h
      · refine g_iconst (v := 0) F (dAt dk_X6_theft 96 rfl) (by decide) ?_
        refine g_istore (lv' := [(11, .int 0), (0, .ref (ad 39)), (1, .int x1), (2, .int x2), (4, .int v4), (5, .int v5), (6, .int v6), (7, .int v7), (8, .int v8), (9, .int v9), (10, .int v10), (12, .int v12), (13, .int v13)]) F (dAt dk_X6_theft 97 rfl) (by decide) rfl ?_
        refine g_iinc (lv' := [(13, .int (v13 + 1)), (11, .int 0), (0, .ref (ad 39)), (1, .int x1), (2, .int x2), (4, .int v4), (5, .int v5), (6, .int v6), (7, .int v7), (8, .int v8), (9, .int v9), (10, .int v10), (12, .int v12)]) F (dAt dk_X6_theft 98 rfl) 12 rfl (w := 1) (by decide) (by decide) rfl ?_
        refine g_goto (tgt := 144) F (dAt dk_X6_theft 99 rfl) (by decide) ?_
        refine g_sub (lv' := [(0, .ref (ad 39)), (1, .int x1), (2, .int x2), (4, .int v4), (5, .int v5), (6, .int v6), (7, .int v7), (8, .int v8), (9, .int v9), (10, .int v10), (11, .int 0), (12, .int v12), (13, .int (v13 + 1))]) [2, 3, 4, 5, 6, 7, 8, 9, 10, 11, 1, 12, 0] rfl ?_
        exact ih144 (v4, v5, v6, v7, v8, v9, v10, 0, v12, (v13 + 1), t37) h
  have H129 : ∀ (self41 : Int32 × Int32 × Int32 × Mem → Option (Int32 × Mem)), (∀ s, self41 s = some (r, u') → G X D ad g t s.2.2.2 [(0, .ref (ad 39)), (1, .int x1), (2, .int x2), (4, .int s.1), (5, .int s.2.1), (6, .int s.2.2.1)] 41 []) → ∀ (self56 : Int32 × Int32 × Int32 × Int32 × Mem → Option (Int32 × Mem)), (∀ s, self56 s = some (r, u') → G X D ad g t s.2.2.2.2 [(0, .ref (ad 39)), (1, .int x1), (2, .int x2), (4, .int s.1), (5, .int s.2.1), (6, .int s.2.2.1), (7, .int s.2.2.2.1)] 56 []) → ∀ (self86 : Int32 × Int32 × Int32 × Int32 × Int32 × Int32 × Int32 × Mem → Option (Int32 × Mem)), (∀ s, self86 s = some (r, u') → G X D ad g t s.2.2.2.2.2.2.2 [(0, .ref (ad 39)), (1, .int x1), (2, .int x2), (4, .int s.1), (5, .int s.2.1), (6, .int s.2.2.1), (7, .int s.2.2.2.1), (8, .int s.2.2.2.2.1), (9, .int s.2.2.2.2.2.1), (10, .int s.2.2.2.2.2.2.1)] 86 []) → ∀ (k : Nat) (s : Int32 × Int32 × Int32 × Int32 × Int32 × Int32 × Int32 × Int32 × Int32 × Mem), iter (bd_X6_theft_129 n x1 x2 self41 self56 self86) k s = some (r, u') → G X D ad g t s.2.2.2.2.2.2.2.2.2 [(0, .ref (ad 39)), (1, .int x1), (2, .int x2), (4, .int s.1), (5, .int s.2.1), (6, .int s.2.2.1), (7, .int s.2.2.2.1), (8, .int s.2.2.2.2.1), (9, .int s.2.2.2.2.2.1), (10, .int s.2.2.2.2.2.2.1), (11, .int s.2.2.2.2.2.2.2.1), (12, .int s.2.2.2.2.2.2.2.2.1)] 129 [] := by
    intro self41 ih41 self56 ih56 self86 ih86
    refine iter_walk (P := fun (s : Int32 × Int32 × Int32 × Int32 × Int32 × Int32 × Int32 × Int32 × Int32 × Mem) => G X D ad g t s.2.2.2.2.2.2.2.2.2 [(0, .ref (ad 39)), (1, .int x1), (2, .int x2), (4, .int s.1), (5, .int s.2.1), (6, .int s.2.2.1), (7, .int s.2.2.2.1), (8, .int s.2.2.2.2.1), (9, .int s.2.2.2.2.2.1), (10, .int s.2.2.2.2.2.2.1), (11, .int s.2.2.2.2.2.2.2.1), (12, .int s.2.2.2.2.2.2.2.2.1)] 129 []) (fun self129 ih129 s h => ?_)
    obtain ⟨v4, v5, v6, v7, v8, v9, v10, v11, v12, u0⟩ := s
    change G X D ad g t u0 [(0, .ref (ad 39)), (1, .int x1), (2, .int x2), (4, .int v4), (5, .int v5), (6, .int v6), (7, .int v7), (8, .int v8), (9, .int v9), (10, .int v10), (11, .int v11), (12, .int v12)] 129 []
    unfold bd_X6_theft_129 at h; try dsimp only at h
    refine g_iload F (dAt dk_X6_theft 72 rfl) 11 rfl ?_
    refine g_aload_n F (dAt dk_X6_theft 73 rfl) 0 rfl ?_
    refine gg_Model_places F (gm mw_867 rfl) (dAt dk_X6_theft 74 rfl) ?_
    refine g_icmp_ge (tgt := 192) F (dAt dk_X6_theft 75 rfl) (by decide) h (fun c29 h => ?_) (fun c29 h => ?_)
    · refine g_iload F (dAt dk_X6_theft 102 rfl) 10 rfl ?_
      refine g_if_eq (tgt := 201) F (dAt dk_X6_theft 103 rfl) (by decide) h (fun c30 h => ?_) (fun c30 h => ?_)
      · refine g_iinc (lv' := [(10, .int (v10 + 1)), (0, .ref (ad 39)), (1, .int x1), (2, .int x2), (4, .int v4), (5, .int v5), (6, .int v6), (7, .int v7), (8, .int v8), (9, .int v9), (11, .int v11), (12, .int v12)]) F (dAt dk_X6_theft 106 rfl) 9 rfl (w := 1) (by decide) (by decide) rfl ?_
        refine g_goto (tgt := 86) F (dAt dk_X6_theft 107 rfl) (by decide) ?_
        refine g_sub (lv' := [(0, .ref (ad 39)), (1, .int x1), (2, .int x2), (4, .int v4), (5, .int v5), (6, .int v6), (7, .int v7), (8, .int v8), (9, .int v9), (10, .int (v10 + 1))]) [1, 2, 3, 4, 5, 6, 7, 8, 9, 0] rfl ?_
        exact ih86 (v4, v5, v6, v7, v8, v9, (v10 + 1), u0) h
      · refine g_iload F (dAt dk_X6_theft 104 rfl) 9 rfl ?_
        refine g_istore (lv' := [(9, .int v10), (0, .ref (ad 39)), (1, .int x1), (2, .int x2), (4, .int v4), (5, .int v5), (6, .int v6), (7, .int v7), (8, .int v8), (10, .int v10), (11, .int v11), (12, .int v12)]) F (dAt dk_X6_theft 105 rfl) (by decide) rfl ?_
        refine g_iinc (lv' := [(10, .int (v10 + 1)), (9, .int v10), (0, .ref (ad 39)), (1, .int x1), (2, .int x2), (4, .int v4), (5, .int v5), (6, .int v6), (7, .int v7), (8, .int v8), (11, .int v11), (12, .int v12)]) F (dAt dk_X6_theft 106 rfl) 9 rfl (w := 1) (by decide) (by decide) rfl ?_
        refine g_goto (tgt := 86) F (dAt dk_X6_theft 107 rfl) (by decide) ?_
        refine g_sub (lv' := [(0, .ref (ad 39)), (1, .int x1), (2, .int x2), (4, .int v4), (5, .int v5), (6, .int v6), (7, .int v7), (8, .int v8), (9, .int v10), (10, .int (v10 + 1))]) [2, 3, 4, 5, 6, 7, 8, 9, 1, 0] rfl ?_
        exact ih86 (v4, v5, v6, v7, v8, v10, (v10 + 1), u0) h
    · refine g_iload F (dAt dk_X6_theft 76 rfl) 11 rfl ?_
      refine g_iconst (v := 1) F (dAt dk_X6_theft 77 rfl) (by decide) ?_
      refine g_iadd F (dAt dk_X6_theft 78 rfl) ?_
      refine g_istore (lv' := [(13, .int (v12 + 1)), (0, .ref (ad 39)), (1, .int x1), (2, .int x2), (4, .int v4), (5, .int v5), (6, .int v6), (7, .int v7), (8, .int v8), (9, .int v9), (10, .int v10), (11, .int v11), (12, .int v12)]) F (dAt dk_X6_theft 79 rfl) (by decide) rfl ?_
      refine g_sub (lv' := [(0, .ref (ad 39)), (1, .int x1), (2, .int x2), (4, .int v4), (5, .int v5), (6, .int v6), (7, .int v7), (8, .int v8), (9, .int v9), (10, .int v10), (11, .int v11), (12, .int v12), (13, .int (v12 + 1))]) [1, 2, 3, 4, 5, 6, 7, 8, 9, 10, 11, 12, 0] rfl ?_
      exact H144 self41 ih41 self56 ih56 self86 ih86 self129 ih129 n (v4, v5, v6, v7, v8, v9, v10, v11, v12, (v12 + 1), u0) h
  have H86 : ∀ (self41 : Int32 × Int32 × Int32 × Mem → Option (Int32 × Mem)), (∀ s, self41 s = some (r, u') → G X D ad g t s.2.2.2 [(0, .ref (ad 39)), (1, .int x1), (2, .int x2), (4, .int s.1), (5, .int s.2.1), (6, .int s.2.2.1)] 41 []) → ∀ (self56 : Int32 × Int32 × Int32 × Int32 × Mem → Option (Int32 × Mem)), (∀ s, self56 s = some (r, u') → G X D ad g t s.2.2.2.2 [(0, .ref (ad 39)), (1, .int x1), (2, .int x2), (4, .int s.1), (5, .int s.2.1), (6, .int s.2.2.1), (7, .int s.2.2.2.1)] 56 []) → ∀ (k : Nat) (s : Int32 × Int32 × Int32 × Int32 × Int32 × Int32 × Int32 × Mem), iter (bd_X6_theft_86 n x1 x2 self41 self56) k s = some (r, u') → G X D ad g t s.2.2.2.2.2.2.2 [(0, .ref (ad 39)), (1, .int x1), (2, .int x2), (4, .int s.1), (5, .int s.2.1), (6, .int s.2.2.1), (7, .int s.2.2.2.1), (8, .int s.2.2.2.2.1), (9, .int s.2.2.2.2.2.1), (10, .int s.2.2.2.2.2.2.1)] 86 [] := by
    intro self41 ih41 self56 ih56
    refine iter_walk (P := fun (s : Int32 × Int32 × Int32 × Int32 × Int32 × Int32 × Int32 × Mem) => G X D ad g t s.2.2.2.2.2.2.2 [(0, .ref (ad 39)), (1, .int x1), (2, .int x2), (4, .int s.1), (5, .int s.2.1), (6, .int s.2.2.1), (7, .int s.2.2.2.1), (8, .int s.2.2.2.2.1), (9, .int s.2.2.2.2.2.1), (10, .int s.2.2.2.2.2.2.1)] 86 []) (fun self86 ih86 s h => ?_)
    obtain ⟨v4, v5, v6, v7, v8, v9, v10, u0⟩ := s
    change G X D ad g t u0 [(0, .ref (ad 39)), (1, .int x1), (2, .int x2), (4, .int v4), (5, .int v5), (6, .int v6), (7, .int v7), (8, .int v8), (9, .int v9), (10, .int v10)] 86 []
    unfold bd_X6_theft_86 at h; try dsimp only at h
    refine g_iload F (dAt dk_X6_theft 50 rfl) 9 rfl ?_
    refine g_bipush (v := 100) F (dAt dk_X6_theft 51 rfl) (by decide) ?_
    refine g_icmp_ge (tgt := 207) F (dAt dk_X6_theft 52 rfl) (by decide) h (fun c18 h => ?_) (fun c18 h => ?_)
    · refine g_sub (lv' := [(0, .ref (ad 39)), (1, .int x1), (2, .int x2), (4, .int v4), (5, .int v5), (6, .int v6), (7, .int v7), (8, .int v8), (9, .int v9)]) [0, 1, 2, 3, 4, 5, 6, 7, 8] rfl ?_
      exact J207 self41 ih41 self56 ih56 v4 v5 v6 v7 v8 v9 u0 h
    · refine g_iload F (dAt dk_X6_theft 53 rfl) 9 rfl ?_
      refine g_iload F (dAt dk_X6_theft 54 rfl) 7 rfl ?_
      refine g_icmp_ge (tgt := 207) F (dAt dk_X6_theft 55 rfl) (by decide) h (fun c19 h => ?_) (fun c19 h => ?_)
      · refine g_sub (lv' := [(0, .ref (ad 39)), (1, .int x1), (2, .int x2), (4, .int v4), (5, .int v5), (6, .int v6), (7, .int v7), (8, .int v8), (9, .int v9)]) [0, 1, 2, 3, 4, 5, 6, 7, 8] rfl ?_
        exact J207 self41 ih41 self56 ih56 v4 v5 v6 v7 v8 v9 u0 h
      · refine g_iload F (dAt dk_X6_theft 56 rfl) 8 rfl ?_
        refine g_if_ne (tgt := 207) F (dAt dk_X6_theft 57 rfl) (by decide) h (fun c20 h => ?_) (fun c20 h => ?_)
        · refine g_sub (lv' := [(0, .ref (ad 39)), (1, .int x1), (2, .int x2), (4, .int v4), (5, .int v5), (6, .int v6), (7, .int v7), (8, .int v8), (9, .int v9)]) [0, 1, 2, 3, 4, 5, 6, 7, 8] rfl ?_
          exact J207 self41 ih41 self56 ih56 v4 v5 v6 v7 v8 v9 u0 h
        · refine g_aload_n F (dAt dk_X6_theft 58 rfl) 0 rfl ?_
          refine g_iload F (dAt dk_X6_theft 59 rfl) 5 rfl ?_
          refine g_iload F (dAt dk_X6_theft 60 rfl) 6 rfl ?_
          refine g_iload F (dAt dk_X6_theft 61 rfl) 7 rfl ?_
          refine g_iload F (dAt dk_X6_theft 62 rfl) 9 rfl ?_
          refine g_isub F (dAt dk_X6_theft 63 rfl) ?_
          refine g_invV_im F mi_X6_lay (gm mw_1010 rfl) (dAt dk_X6_theft 64 rfl) (rcx_of F rc_Model) [.int v6, .int v7, .int (v8 - v10)] rfl rfl (by decide) (Nat.le_of_ble_eq_true rfl) h (fun _ _ hf => c_X6_lay hJ hf) (fun r21 t22 h => ?_)
          refine g_pop F (dAt dk_X6_theft 65 rfl) rfl ?_
          refine g_aload_n F (dAt dk_X6_theft 66 rfl) 0 rfl ?_
          refine g_invV_vm F mi_X6_walk (gm mw_1118 rfl) (dAt dk_X6_theft 67 rfl) (rcx_of F rc_Model) [] rfl rfl (by decide) (Nat.le_of_ble_eq_true rfl) h (fun _ _ hf => c_X6_walk hJ hf) (fun _ t23 h => ?_)
          refine g_iconst (v := 1) F (dAt dk_X6_theft 68 rfl) (by decide) ?_
          refine g_istore (lv' := [(11, .int 1), (0, .ref (ad 39)), (1, .int x1), (2, .int x2), (4, .int v4), (5, .int v5), (6, .int v6), (7, .int v7), (8, .int v8), (9, .int v9), (10, .int v10)]) F (dAt dk_X6_theft 69 rfl) (by decide) rfl ?_
          refine g_iconst (v := 0) F (dAt dk_X6_theft 70 rfl) (by decide) ?_
          refine g_istore (lv' := [(12, .int 0), (11, .int 1), (0, .ref (ad 39)), (1, .int x1), (2, .int x2), (4, .int v4), (5, .int v5), (6, .int v6), (7, .int v7), (8, .int v8), (9, .int v9), (10, .int v10)]) F (dAt dk_X6_theft 71 rfl) (by decide) rfl ?_
          refine g_sub (lv' := [(0, .ref (ad 39)), (1, .int x1), (2, .int x2), (4, .int v4), (5, .int v5), (6, .int v6), (7, .int v7), (8, .int v8), (9, .int v9), (10, .int v10), (11, .int 1), (12, .int 0)]) [2, 3, 4, 5, 6, 7, 8, 9, 10, 11, 1, 0] rfl ?_
          exact H129 self41 ih41 self56 ih56 self86 ih86 n (v4, v5, v6, v7, v8, v9, v10, 1, 0, t23) h
  have H56 : ∀ (self41 : Int32 × Int32 × Int32 × Mem → Option (Int32 × Mem)), (∀ s, self41 s = some (r, u') → G X D ad g t s.2.2.2 [(0, .ref (ad 39)), (1, .int x1), (2, .int x2), (4, .int s.1), (5, .int s.2.1), (6, .int s.2.2.1)] 41 []) → ∀ (k : Nat) (s : Int32 × Int32 × Int32 × Int32 × Mem), iter (bd_X6_theft_56 n x1 x2 self41) k s = some (r, u') → G X D ad g t s.2.2.2.2 [(0, .ref (ad 39)), (1, .int x1), (2, .int x2), (4, .int s.1), (5, .int s.2.1), (6, .int s.2.2.1), (7, .int s.2.2.2.1)] 56 [] := by
    intro self41 ih41
    refine iter_walk (P := fun (s : Int32 × Int32 × Int32 × Int32 × Mem) => G X D ad g t s.2.2.2.2 [(0, .ref (ad 39)), (1, .int x1), (2, .int x2), (4, .int s.1), (5, .int s.2.1), (6, .int s.2.2.1), (7, .int s.2.2.2.1)] 56 []) (fun self56 ih56 s h => ?_)
    obtain ⟨v4, v5, v6, v7, u0⟩ := s
    change G X D ad g t u0 [(0, .ref (ad 39)), (1, .int x1), (2, .int x2), (4, .int v4), (5, .int v5), (6, .int v6), (7, .int v7)] 56 []
    unfold bd_X6_theft_56 at h; try dsimp only at h
    refine g_iload F (dAt dk_X6_theft 33 rfl) 6 rfl ?_
    refine g_aload_n F (dAt dk_X6_theft 34 rfl) 0 rfl ?_
    refine gg_Model_places F (gm mw_867 rfl) (dAt dk_X6_theft 35 rfl) ?_
    refine g_icmp_ge (tgt := 258) F (dAt dk_X6_theft 36 rfl) (by decide) h (fun c15 h => ?_) (fun c15 h => ?_)
    · refine g_iinc (lv' := [(6, .int (v6 + 1)), (0, .ref (ad 39)), (1, .int x1), (2, .int x2), (4, .int v4), (5, .int v5), (7, .int v7)]) F (dAt dk_X6_theft 133 rfl) 5 rfl (w := 1) (by decide) (by decide) rfl ?_
      refine g_goto (tgt := 41) F (dAt dk_X6_theft 134 rfl) (by decide) ?_
      refine g_sub (lv' := [(0, .ref (ad 39)), (1, .int x1), (2, .int x2), (4, .int v4), (5, .int v5), (6, .int (v6 + 1))]) [1, 2, 3, 4, 5, 0] rfl ?_
      exact ih41 (v4, v5, (v6 + 1), u0) h
    · refine g_aload_n F (dAt dk_X6_theft 37 rfl) 0 rfl ?_
      refine gg_Model_miles F (gm mw_870 rfl) (dAt dk_X6_theft 38 rfl) ?_
      refine g_bipush (v := 8) F (dAt dk_X6_theft 39 rfl) (by decide) ?_
      refine g_iload F (dAt dk_X6_theft 40 rfl) 5 rfl ?_
      refine g_imul F (dAt dk_X6_theft 41 rfl) ?_
      refine g_iload F (dAt dk_X6_theft 42 rfl) 6 rfl ?_
      refine g_iadd F (dAt dk_X6_theft 43 rfl) ?_
      refine g_ck h (fun hi16 h => ?_)
      refine g_ialoadm F am_miles (dAt dk_X6_theft 44 rfl) hi16 ?_
      refine g_lti h (fun y17 h => ?_)
      refine g_istore (lv' := [(8, .int y17), (0, .ref (ad 39)), (1, .int x1), (2, .int x2), (4, .int v4), (5, .int v5), (6, .int v6), (7, .int v7)]) F (dAt dk_X6_theft 45 rfl) (by decide) rfl ?_
      refine g_iconst (v := 0) F (dAt dk_X6_theft 46 rfl) (by decide) ?_
      refine g_istore (lv' := [(9, .int 0), (8, .int y17), (0, .ref (ad 39)), (1, .int x1), (2, .int x2), (4, .int v4), (5, .int v5), (6, .int v6), (7, .int v7)]) F (dAt dk_X6_theft 47 rfl) (by decide) rfl ?_
      refine g_iconst (v := 1) F (dAt dk_X6_theft 48 rfl) (by decide) ?_
      refine g_istore (lv' := [(10, .int 1), (9, .int 0), (8, .int y17), (0, .ref (ad 39)), (1, .int x1), (2, .int x2), (4, .int v4), (5, .int v5), (6, .int v6), (7, .int v7)]) F (dAt dk_X6_theft 49 rfl) (by decide) rfl ?_
      refine g_sub (lv' := [(0, .ref (ad 39)), (1, .int x1), (2, .int x2), (4, .int v4), (5, .int v5), (6, .int v6), (7, .int v7), (8, .int y17), (9, .int 0), (10, .int 1)]) [3, 4, 5, 6, 7, 8, 9, 2, 1, 0] rfl ?_
      exact H86 self41 ih41 self56 ih56 n (v4, v5, v6, v7, y17, 0, 1, u0) h
  have H41 : ∀ (k : Nat) (s : Int32 × Int32 × Int32 × Mem), iter (bd_X6_theft_41 n x1 x2) k s = some (r, u') → G X D ad g t s.2.2.2 [(0, .ref (ad 39)), (1, .int x1), (2, .int x2), (4, .int s.1), (5, .int s.2.1), (6, .int s.2.2.1)] 41 [] := by
    refine iter_walk (P := fun (s : Int32 × Int32 × Int32 × Mem) => G X D ad g t s.2.2.2 [(0, .ref (ad 39)), (1, .int x1), (2, .int x2), (4, .int s.1), (5, .int s.2.1), (6, .int s.2.2.1)] 41 []) (fun self41 ih41 s h => ?_)
    obtain ⟨v4, v5, v6, u0⟩ := s
    change G X D ad g t u0 [(0, .ref (ad 39)), (1, .int x1), (2, .int x2), (4, .int v4), (5, .int v5), (6, .int v6)] 41 []
    unfold bd_X6_theft_41 at h; try dsimp only at h
    refine g_iload F (dAt dk_X6_theft 25 rfl) 5 rfl ?_
    refine g_aload_n F (dAt dk_X6_theft 26 rfl) 0 rfl ?_
    refine gg_Model_places F (gm mw_867 rfl) (dAt dk_X6_theft 27 rfl) ?_
    refine g_icmp_ge (tgt := 264) F (dAt dk_X6_theft 28 rfl) (by decide) h (fun c10 h => ?_) (fun c10 h => ?_)
    · refine g_iload_n F (dAt dk_X6_theft 135 rfl) 2 rfl ?_
      refine g_if_ne (tgt := 273) F (dAt dk_X6_theft 136 rfl) (by decide) h (fun c11 h => ?_) (fun c11 h => ?_)
      · refine g_iload F (dAt dk_X6_theft 139 rfl) 4 rfl ?_
        refine g_iconst (v := (-1)) F (dAt dk_X6_theft 140 rfl) (by decide) ?_
        refine g_icmp_ne (tgt := 288) F (dAt dk_X6_theft 141 rfl) (by decide) h (fun c12 h => ?_) (fun c12 h => ?_)
        · refine g_iload F (dAt dk_X6_theft 146 rfl) 4 rfl ?_
          cases h
          exact E (dAt dk_X6_theft 147 rfl) rfl
        · refine g_aload_n F (dAt dk_X6_theft 142 rfl) 0 rfl ?_
          refine g_bipush (v := (-5)) F (dAt dk_X6_theft 143 rfl) (by decide) ?_
          refine g_invV_im F mi_X6_no (gm mw_938 rfl) (dAt dk_X6_theft 144 rfl) (rcx_of F rc_Model) [.int (-5)] rfl rfl (by decide) (Nat.le_of_ble_eq_true rfl) h (fun _ _ hf => c_X6_no hJ hf) (fun r13 t14 h => ?_)
          refine g_goto (tgt := 290) F (dAt dk_X6_theft 145 rfl) (by decide) ?_
          cases h
          exact E (dAt dk_X6_theft 147 rfl) rfl
      · refine g_iload F (dAt dk_X6_theft 137 rfl) 3 rfl ?_
        refine g_goto (tgt := 290) F (dAt dk_X6_theft 138 rfl) (by decide) ?_
        cases h
        exact E (dAt dk_X6_theft 147 rfl) rfl
    · refine g_iload F (dAt dk_X6_theft 29 rfl) 5 rfl ?_
      refine g_iconst (v := 1) F (dAt dk_X6_theft 30 rfl) (by decide) ?_
      refine g_iadd F (dAt dk_X6_theft 31 rfl) ?_
      refine g_istore (lv' := [(7, .int (v6 + 1)), (0, .ref (ad 39)), (1, .int x1), (2, .int x2), (4, .int v4), (5, .int v5), (6, .int v6)]) F (dAt dk_X6_theft 32 rfl) (by decide) rfl ?_
      refine g_sub (lv' := [(0, .ref (ad 39)), (1, .int x1), (2, .int x2), (4, .int v4), (5, .int v5), (6, .int v6), (7, .int (v6 + 1))]) [1, 2, 3, 4, 5, 6, 0] rfl ?_
      exact H56 self41 ih41 n (v4, v5, v6, (v6 + 1), u0) h
  refine g_lv (lv' := [(0, .ref (ad 39)), (1, .int x1), (2, .int x2)]) rfl ?_
  unfold f_X6_theft at h
  refine g_aload_n F (dAt dk_X6_theft 0 rfl) 0 rfl ?_
  refine g_iload_n F (dAt dk_X6_theft 1 rfl) 1 rfl ?_
  refine g_invV_im F mi_X6_noTable (gm mw_1201 rfl) (dAt dk_X6_theft 2 rfl) (rcx_of F rc_Model) [.int x1] rfl rfl (by decide) (Nat.le_of_ble_eq_true rfl) h (fun _ _ hf => c_X6_noTable hJ hf) (fun r1 t2 h => ?_)
  refine g_istore_n (lv' := [(3, .int r1), (0, .ref (ad 39)), (1, .int x1), (2, .int x2)]) F (dAt dk_X6_theft 3 rfl) (by decide) rfl ?_
  refine g_iload_n F (dAt dk_X6_theft 4 rfl) 0 rfl ?_
  refine g_if_ge (tgt := 16) F (dAt dk_X6_theft 5 rfl) (by decide) h (fun c3 h => ?_) (fun c3 h => ?_)
  · refine g_iload_n F (dAt dk_X6_theft 10 rfl) 3 rfl ?_
    refine g_iconst (v := 0) F (dAt dk_X6_theft 11 rfl) (by decide) ?_
    refine g_iconst (v := 1) F (dAt dk_X6_theft 12 rfl) (by decide) ?_
    refine g_invS_ip F ms_X6_within (gm mw_935 rfl) (dAt dk_X6_theft 13 rfl) [.int x2, .int 0, .int 1] rfl rfl (by decide) (Nat.le_of_ble_eq_true rfl) h (fun _ hf => c_X6_within hJ hf) (fun r4 h => ?_)
    refine g_if_ne (tgt := 32) F (dAt dk_X6_theft 14 rfl) (by decide) h (fun c5 h => ?_) (fun c5 h => ?_)
    · refine g_iconst (v := 0) F (dAt dk_X6_theft 19 rfl) (by decide) ?_
      refine g_istore (lv' := [(4, .int 0), (3, .int r1), (0, .ref (ad 39)), (1, .int x1), (2, .int x2)]) F (dAt dk_X6_theft 20 rfl) (by decide) rfl ?_
      refine g_iconst (v := (-1)) F (dAt dk_X6_theft 21 rfl) (by decide) ?_
      refine g_istore (lv' := [(5, .int (-1)), (4, .int 0), (3, .int r1), (0, .ref (ad 39)), (1, .int x1), (2, .int x2)]) F (dAt dk_X6_theft 22 rfl) (by decide) rfl ?_
      refine g_iconst (v := 0) F (dAt dk_X6_theft 23 rfl) (by decide) ?_
      refine g_istore (lv' := [(6, .int 0), (5, .int (-1)), (4, .int 0), (3, .int r1), (0, .ref (ad 39)), (1, .int x1), (2, .int x2)]) F (dAt dk_X6_theft 24 rfl) (by decide) rfl ?_
      refine g_sub (lv' := [(0, .ref (ad 39)), (1, .int x1), (2, .int x2), (4, .int 0), (5, .int (-1)), (6, .int 0)]) [4, 5, 6, 2, 1, 0] rfl ?_
      exact H41  n (0, (-1), 0, t2) h
    · refine g_aload_n F (dAt dk_X6_theft 15 rfl) 1 rfl ?_
      refine g_bipush (v := (-5)) F (dAt dk_X6_theft 16 rfl) (by decide) ?_
      refine g_invV_im F mi_X6_no (gm mw_938 rfl) (dAt dk_X6_theft 17 rfl) (rcx_of F rc_Model) [.int (-5)] rfl rfl (by decide) (Nat.le_of_ble_eq_true rfl) h (fun _ _ hf => c_X6_no hJ hf) (fun r6 t7 h => ?_)
      cases h
      exact E (dAt dk_X6_theft 18 rfl) rfl
  · refine g_aload_n F (dAt dk_X6_theft 6 rfl) 1 rfl ?_
    refine g_iload_n F (dAt dk_X6_theft 7 rfl) 0 rfl ?_
    refine g_invV_im F mi_X6_no (gm mw_938 rfl) (dAt dk_X6_theft 8 rfl) (rcx_of F rc_Model) [.int r1] rfl rfl (by decide) (Nat.le_of_ble_eq_true rfl) h (fun _ _ hf => c_X6_no hJ hf) (fun r8 t9 h => ?_)
    cases h
    exact E (dAt dk_X6_theft 9 rfl) rfl
theorem mi_X6_mill : MI yX6_mill cX6_mill 3 (some .int) "MillOfDistancesModel" 2 := ⟨(gm mw_1245 rfl), (gm mw_1243 rfl), (gm mw_1244 rfl), (gm mw_75 rfl), by decide +kernel, by decide⟩
theorem c_X6_mill {l : Launch} {D : va_G} {ad : Nat → Nat} {g : Gv} {t u : Mem} {n : Nat} {x1 : Int32} {x2 : Int32} {u' : Mem} {r : Int32} (hJ : Jad ad) (h : f_X6_mill n x1 x2 u = some (r, u')) : ConI l yX6_mill cX6_mill 3 (some .int) 4 [.ref (ad 39), .int x1, .int x2] D ad g t u t u' r := by
  refine con_i hJ (by decide) (Nat.le_of_ble_eq_true rfl) rfl (fun X F E => ?_)
  have J16 : ∀ (u0 : Mem), jn_X6_mill_16 n x1 x2 u0 = some (r, u') → G X D ad g t u0 [(0, .ref (ad 39))] 16 [] := by
    intro u0 h
    unfold jn_X6_mill_16 at h
    refine g_aload_n F (dAt dk_X6_mill 8 rfl) 0 rfl ?_
    refine g_iconst (v := (-1)) F (dAt dk_X6_mill 9 rfl) (by decide) ?_
    refine g_invV_im F mi_X6_no (gm mw_938 rfl) (dAt dk_X6_mill 10 rfl) (rcx_of F rc_Model) [.int (-1)] rfl rfl (by decide) (Nat.le_of_ble_eq_true rfl) h (fun _ _ hf => c_X6_no hJ hf) (fun r13 t14 h => ?_)
    cases h
    exact E (dAt dk_X6_mill 11 rfl) rfl
  refine g_lv (lv' := [(0, .ref (ad 39)), (1, .int x1), (2, .int x2)]) rfl ?_
  unfold f_X6_mill at h
  refine g_aload_n F (dAt dk_X6_mill 0 rfl) 0 rfl ?_
  refine g_iload_n F (dAt dk_X6_mill 1 rfl) 1 rfl ?_
  refine g_invV_im F mi_X6_isPlace (gm mw_966 rfl) (dAt dk_X6_mill 2 rfl) (rcx_of F rc_Model) [.int x1] rfl rfl (by decide) (Nat.le_of_ble_eq_true rfl) h (fun _ _ hf => c_X6_isPlace hJ hf) (fun r1 t2 h => ?_)
  refine g_if_eq (tgt := 16) F (dAt dk_X6_mill 3 rfl) (by decide) h (fun c3 h => ?_) (fun c3 h => ?_)
  · refine g_sub (lv' := [(0, .ref (ad 39))]) [0] rfl ?_
    exact J16  t2 h
  · refine g_aload_n F (dAt dk_X6_mill 4 rfl) 0 rfl ?_
    refine g_iload_n F (dAt dk_X6_mill 5 rfl) 2 rfl ?_
    refine g_invV_im F mi_X6_isPlace (gm mw_966 rfl) (dAt dk_X6_mill 6 rfl) (rcx_of F rc_Model) [.int x2] rfl rfl (by decide) (Nat.le_of_ble_eq_true rfl) h (fun _ _ hf => c_X6_isPlace hJ hf) (fun r4 t5 h => ?_)
    refine g_if_ne (tgt := 22) F (dAt dk_X6_mill 7 rfl) (by decide) h (fun c6 h => ?_) (fun c6 h => ?_)
    · refine g_aload_n F (dAt dk_X6_mill 12 rfl) 0 rfl ?_
      refine g_iload_n F (dAt dk_X6_mill 13 rfl) 1 rfl ?_
      refine g_iload_n F (dAt dk_X6_mill 14 rfl) 2 rfl ?_
      refine g_invV_im F mi_X6_noRoad (gm mw_1084 rfl) (dAt dk_X6_mill 15 rfl) (rcx_of F rc_Model) [.int x1, .int x2] rfl rfl (by decide) (Nat.le_of_ble_eq_true rfl) h (fun _ _ hf => c_X6_noRoad hJ hf) (fun r7 t8 h => ?_)
      refine g_if_eq (tgt := 38) F (dAt dk_X6_mill 16 rfl) (by decide) h (fun c9 h => ?_) (fun c9 h => ?_)
      · refine g_aload_n F (dAt dk_X6_mill 21 rfl) 0 rfl ?_
        refine g_iload_n F (dAt dk_X6_mill 22 rfl) 1 rfl ?_
        refine g_iload_n F (dAt dk_X6_mill 23 rfl) 2 rfl ?_
        refine g_invV_vm F mi_X6_mills (gm mw_1068 rfl) (dAt dk_X6_mill 24 rfl) (rcx_of F rc_Model) [.int x1, .int x2] rfl rfl (by decide) (Nat.le_of_ble_eq_true rfl) h (fun _ _ hf => c_X6_mills hJ hf) (fun _ t10 h => ?_)
        refine g_aload_n F (dAt dk_X6_mill 25 rfl) 0 rfl ?_
        refine gg_Model_flour F (gm mw_871 rfl) (dAt dk_X6_mill 26 rfl) ?_
        cases h
        exact E (dAt dk_X6_mill 27 rfl) rfl
      · refine g_aload_n F (dAt dk_X6_mill 17 rfl) 0 rfl ?_
        refine g_bipush (v := (-6)) F (dAt dk_X6_mill 18 rfl) (by decide) ?_
        refine g_invV_im F mi_X6_no (gm mw_938 rfl) (dAt dk_X6_mill 19 rfl) (rcx_of F rc_Model) [.int (-6)] rfl rfl (by decide) (Nat.le_of_ble_eq_true rfl) h (fun _ _ hf => c_X6_no hJ hf) (fun r11 t12 h => ?_)
        cases h
        exact E (dAt dk_X6_mill 20 rfl) rfl
    · refine g_sub (lv' := [(0, .ref (ad 39))]) [0] rfl ?_
      exact J16  t5 h
theorem mi_X6_spread : MI yX6_spread cX6_spread 4 (some .int) "MillOfDistancesModel" 3 := ⟨(gm mw_1249 rfl), (gm mw_1247 rfl), (gm mw_1248 rfl), (gm mw_75 rfl), by decide +kernel, by decide⟩
theorem c_X6_spread {l : Launch} {D : va_G} {ad : Nat → Nat} {g : Gv} {t u : Mem} {x1 : Int32} {x2 : Int32} {x3 : Int32} {u' : Mem} {r : Int32} (hJ : Jad ad) (h : f_X6_spread x1 x2 x3 u = some (r, u')) : ConI l yX6_spread cX6_spread 4 (some .int) 4 [.ref (ad 39), .int x1, .int x2, .int x3] D ad g t u t u' r := by
  refine con_i hJ (by decide) (Nat.le_of_ble_eq_true rfl) rfl (fun X F E => ?_)
  have J16 : ∀ (u0 : Mem), jn_X6_spread_16 x1 x2 x3 u0 = some (r, u') → G X D ad g t u0 [(0, .ref (ad 39))] 16 [] := by
    intro u0 h
    unfold jn_X6_spread_16 at h
    refine g_aload_n F (dAt dk_X6_spread 8 rfl) 0 rfl ?_
    refine g_iconst (v := (-1)) F (dAt dk_X6_spread 9 rfl) (by decide) ?_
    refine g_invV_im F mi_X6_no (gm mw_938 rfl) (dAt dk_X6_spread 10 rfl) (rcx_of F rc_Model) [.int (-1)] rfl rfl (by decide) (Nat.le_of_ble_eq_true rfl) h (fun _ _ hf => c_X6_no hJ hf) (fun r14 t15 h => ?_)
    cases h
    exact E (dAt dk_X6_spread 11 rfl) rfl
  refine g_lv (lv' := [(0, .ref (ad 39)), (1, .int x1), (2, .int x2), (3, .int x3)]) rfl ?_
  unfold f_X6_spread at h
  refine g_aload_n F (dAt dk_X6_spread 0 rfl) 0 rfl ?_
  refine g_iload_n F (dAt dk_X6_spread 1 rfl) 1 rfl ?_
  refine g_invV_im F mi_X6_isPlace (gm mw_966 rfl) (dAt dk_X6_spread 2 rfl) (rcx_of F rc_Model) [.int x1] rfl rfl (by decide) (Nat.le_of_ble_eq_true rfl) h (fun _ _ hf => c_X6_isPlace hJ hf) (fun r1 t2 h => ?_)
  refine g_if_eq (tgt := 16) F (dAt dk_X6_spread 3 rfl) (by decide) h (fun c3 h => ?_) (fun c3 h => ?_)
  · refine g_sub (lv' := [(0, .ref (ad 39))]) [0] rfl ?_
    exact J16  t2 h
  · refine g_aload_n F (dAt dk_X6_spread 4 rfl) 0 rfl ?_
    refine g_iload_n F (dAt dk_X6_spread 5 rfl) 2 rfl ?_
    refine g_invV_im F mi_X6_isPlace (gm mw_966 rfl) (dAt dk_X6_spread 6 rfl) (rcx_of F rc_Model) [.int x2] rfl rfl (by decide) (Nat.le_of_ble_eq_true rfl) h (fun _ _ hf => c_X6_isPlace hJ hf) (fun r4 t5 h => ?_)
    refine g_if_ne (tgt := 22) F (dAt dk_X6_spread 7 rfl) (by decide) h (fun c6 h => ?_) (fun c6 h => ?_)
    · refine g_aload_n F (dAt dk_X6_spread 12 rfl) 0 rfl ?_
      refine g_iload_n F (dAt dk_X6_spread 13 rfl) 1 rfl ?_
      refine g_iload_n F (dAt dk_X6_spread 14 rfl) 2 rfl ?_
      refine g_iload_n F (dAt dk_X6_spread 15 rfl) 3 rfl ?_
      refine g_invV_im F mi_X6_may (gm mw_1080 rfl) (dAt dk_X6_spread 16 rfl) (rcx_of F rc_Model) [.int x1, .int x2, .int x3] rfl rfl (by decide) (Nat.le_of_ble_eq_true rfl) h (fun _ _ hf => c_X6_may hJ hf) (fun r7 t8 h => ?_)
      refine g_if_ne (tgt := 39) F (dAt dk_X6_spread 17 rfl) (by decide) h (fun c9 h => ?_) (fun c9 h => ?_)
      · refine g_aload_n F (dAt dk_X6_spread 22 rfl) 0 rfl ?_
        refine g_iload_n F (dAt dk_X6_spread 23 rfl) 1 rfl ?_
        refine g_iload_n F (dAt dk_X6_spread 24 rfl) 2 rfl ?_
        refine g_iload_n F (dAt dk_X6_spread 25 rfl) 3 rfl ?_
        refine g_invV_vm F mi_X6_pinch (gm mw_1093 rfl) (dAt dk_X6_spread 26 rfl) (rcx_of F rc_Model) [.int x1, .int x2, .int x3] rfl rfl (by decide) (Nat.le_of_ble_eq_true rfl) h (fun _ _ hf => c_X6_pinch hJ hf) (fun _ t10 h => ?_)
        refine g_aload_n F (dAt dk_X6_spread 27 rfl) 0 rfl ?_
        refine gg_Model_miles F (gm mw_870 rfl) (dAt dk_X6_spread 28 rfl) ?_
        refine g_bipush (v := 8) F (dAt dk_X6_spread 29 rfl) (by decide) ?_
        refine g_iload_n F (dAt dk_X6_spread 30 rfl) 1 rfl ?_
        refine g_imul F (dAt dk_X6_spread 31 rfl) ?_
        refine g_iload_n F (dAt dk_X6_spread 32 rfl) 2 rfl ?_
        refine g_iadd F (dAt dk_X6_spread 33 rfl) ?_
        refine g_ck h (fun hi11 h => ?_)
        refine g_ialoadm F am_miles (dAt dk_X6_spread 34 rfl) hi11 ?_
        cases h
        exact E (dAt dk_X6_spread 35 rfl) rfl
      · refine g_aload_n F (dAt dk_X6_spread 18 rfl) 0 rfl ?_
        refine g_bipush (v := (-6)) F (dAt dk_X6_spread 19 rfl) (by decide) ?_
        refine g_invV_im F mi_X6_no (gm mw_938 rfl) (dAt dk_X6_spread 20 rfl) (rcx_of F rc_Model) [.int (-6)] rfl rfl (by decide) (Nat.le_of_ble_eq_true rfl) h (fun _ _ hf => c_X6_no hJ hf) (fun r12 t13 h => ?_)
        cases h
        exact E (dAt dk_X6_spread 21 rfl) rfl
    · refine g_sub (lv' := [(0, .ref (ad 39))]) [0] rfl ?_
      exact J16  t5 h
theorem mi_X6_draw : MI yX6_draw cX6_draw 2 (some .int) "MillOfDistancesModel" 1 := ⟨(gm mw_1257 rfl), (gm mw_1256 rfl), (gm mw_63 rfl), (gm mw_75 rfl), by decide +kernel, by decide⟩
theorem c_X6_draw {l : Launch} {D : va_G} {ad : Nat → Nat} {g : Gv} {t u : Mem} {x1 : Int32} {u' : Mem} {r : Int32} (hJ : Jad ad) (h : f_X6_draw x1 u = some (r, u')) : ConI l yX6_draw cX6_draw 2 (some .int) 0 [.ref (ad 39), .int x1] D ad g t u t u' r := by
  refine con_i hJ (by decide) (Nat.le_of_ble_eq_true rfl) rfl (fun X F E => ?_)
  refine g_lv (lv' := [(0, .ref (ad 39)), (1, .int x1)]) rfl ?_
  unfold f_X6_draw at h
  refine g_aload_n F (dAt dk_X6_draw 0 rfl) 0 rfl ?_
  refine g_aload_n F (dAt dk_X6_draw 1 rfl) 0 rfl ?_
  refine gg_Model_seed F (gm mw_873 rfl) (dAt dk_X6_draw 2 rfl) ?_
  refine g_ldcw (v := 1103515245) F (dAt dk_X6_draw 3 rfl) (gm mw_1258 rfl) ?_
  refine g_imul F (dAt dk_X6_draw 4 rfl) ?_
  refine g_sipush (v := 12345) F (dAt dk_X6_draw 5 rfl) (by decide) ?_
  refine g_iadd F (dAt dk_X6_draw 6 rfl) ?_
  refine gp_Model_seed F (gm mw_873 rfl) (dAt dk_X6_draw 7 rfl) ?_
  refine g_ltu h (fun t1 h => ?_)
  refine g_aload_n F (dAt dk_X6_draw 8 rfl) 0 rfl ?_
  refine gg_Model_seed F (gm mw_873 rfl) (dAt dk_X6_draw 9 rfl) ?_
  refine g_bipush (v := 16) F (dAt dk_X6_draw 10 rfl) (by decide) ?_
  refine g_iushr F (dAt dk_X6_draw 11 rfl) ?_
  refine g_iload_n F (dAt dk_X6_draw 12 rfl) 1 rfl ?_
  refine g_ck h (fun hz2 h => ?_)
  refine g_irem F (dAt dk_X6_draw 13 rfl) (of_decide_eq_true hz2) ?_
  cases h
  exact E (dAt dk_X6_draw 14 rfl) rfl
theorem mi_X6_gale : MI yX6_gale cX6_gale 8 (some .int) "MillOfDistancesModel" 1 := ⟨(gm mw_1253 rfl), (gm mw_1251 rfl), (gm mw_1252 rfl), (gm mw_75 rfl), by decide +kernel, by decide⟩
theorem c_X6_gale {l : Launch} {D : va_G} {ad : Nat → Nat} {g : Gv} {t u : Mem} {n : Nat} {x1 : Int32} {u' : Mem} {r : Int32} (hJ : Jad ad) (h : f_X6_gale n x1 u = some (r, u')) : ConI l yX6_gale cX6_gale 8 (some .int) 1 [.ref (ad 39), .int x1] D ad g t u t u' r := by
  refine con_i hJ (by decide) (Nat.le_of_ble_eq_true rfl) rfl (fun X F E => ?_)
  have H35 : ∀ (k : Nat) (s : Int32 × Int32 × Mem), iter (bd_X6_gale_35 n x1) k s = some (r, u') → G X D ad g t s.2.2 [(0, .ref (ad 39)), (1, .int x1), (2, .int s.1), (3, .int s.2.1)] 35 [] := by
    refine iter_walk (P := fun (s : Int32 × Int32 × Mem) => G X D ad g t s.2.2 [(0, .ref (ad 39)), (1, .int x1), (2, .int s.1), (3, .int s.2.1)] 35 []) (fun self35 ih35 s h => ?_)
    obtain ⟨v2, v3, u0⟩ := s
    change G X D ad g t u0 [(0, .ref (ad 39)), (1, .int x1), (2, .int v2), (3, .int v3)] 35 []
    unfold bd_X6_gale_35 at h; try dsimp only at h
    refine g_iload_n F (dAt dk_X6_gale 20 rfl) 3 rfl ?_
    refine g_iload_n F (dAt dk_X6_gale 21 rfl) 1 rfl ?_
    refine g_icmp_ge (tgt := 161) F (dAt dk_X6_gale 22 rfl) (by decide) h (fun c8 h => ?_) (fun c8 h => ?_)
    · refine g_iload_n F (dAt dk_X6_gale 88 rfl) 2 rfl ?_
      cases h
      exact E (dAt dk_X6_gale 89 rfl) rfl
    · refine g_aload_n F (dAt dk_X6_gale 23 rfl) 0 rfl ?_
      refine g_aload_n F (dAt dk_X6_gale 24 rfl) 0 rfl ?_
      refine gg_Model_places F (gm mw_867 rfl) (dAt dk_X6_gale 25 rfl) ?_
      refine g_invV_im F mi_X6_draw (gm mw_1254 rfl) (dAt dk_X6_gale 26 rfl) (rcx_of F rc_Model) [.int (u0.1 39 3)] rfl rfl (by decide) (Nat.le_of_ble_eq_true rfl) h (fun _ _ hf => c_X6_draw hJ hf) (fun r9 t10 h => ?_)
      refine g_istore (lv' := [(4, .int r9), (0, .ref (ad 39)), (1, .int x1), (2, .int v2), (3, .int v3)]) F (dAt dk_X6_gale 27 rfl) (by decide) rfl ?_
      refine g_aload_n F (dAt dk_X6_gale 28 rfl) 1 rfl ?_
      refine g_aload_n F (dAt dk_X6_gale 29 rfl) 1 rfl ?_
      refine gg_Model_places F (gm mw_867 rfl) (dAt dk_X6_gale 30 rfl) ?_
      refine g_invV_im F mi_X6_draw (gm mw_1254 rfl) (dAt dk_X6_gale 31 rfl) (rcx_of F rc_Model) [.int (t10.1 39 3)] rfl rfl (by decide) (Nat.le_of_ble_eq_true rfl) h (fun _ _ hf => c_X6_draw hJ hf) (fun r11 t12 h => ?_)
      refine g_istore (lv' := [(5, .int r11), (4, .int r9), (0, .ref (ad 39)), (1, .int x1), (2, .int v2), (3, .int v3)]) F (dAt dk_X6_gale 32 rfl) (by decide) rfl ?_
      refine g_aload_n F (dAt dk_X6_gale 33 rfl) 2 rfl ?_
      refine g_iload F (dAt dk_X6_gale 34 rfl) 1 rfl ?_
      refine g_iload F (dAt dk_X6_gale 35 rfl) 0 rfl ?_
      refine g_invV_im F mi_X6_noRoad (gm mw_1084 rfl) (dAt dk_X6_gale 36 rfl) (rcx_of F rc_Model) [.int r9, .int r11] rfl rfl (by decide) (Nat.le_of_ble_eq_true rfl) h (fun _ _ hf => c_X6_noRoad hJ hf) (fun r13 t14 h => ?_)
      refine g_if_eq (tgt := 74) F (dAt dk_X6_gale 37 rfl) (by decide) h (fun c15 h => ?_) (fun c15 h => ?_)
      · refine g_aload_n F (dAt dk_X6_gale 39 rfl) 2 rfl ?_
        refine g_aload_n F (dAt dk_X6_gale 40 rfl) 2 rfl ?_
        refine gg_Model_wind F (gm mw_872 rfl) (dAt dk_X6_gale 41 rfl) ?_
        refine g_iconst (v := 1) F (dAt dk_X6_gale 42 rfl) (by decide) ?_
        refine g_iadd F (dAt dk_X6_gale 43 rfl) ?_
        refine g_invV_im F mi_X6_draw (gm mw_1254 rfl) (dAt dk_X6_gale 44 rfl) (rcx_of F rc_Model) [.int ((t14.1 39 8) + 1)] rfl rfl (by decide) (Nat.le_of_ble_eq_true rfl) h (fun _ _ hf => c_X6_draw hJ hf) (fun r16 t17 h => ?_)
        refine g_istore (lv' := [(6, .int r16), (5, .int r11), (4, .int r9), (0, .ref (ad 39)), (1, .int x1), (2, .int v2), (3, .int v3)]) F (dAt dk_X6_gale 45 rfl) (by decide) rfl ?_
        refine g_aload_n F (dAt dk_X6_gale 46 rfl) 3 rfl ?_
        refine gg_Model_miles F (gm mw_870 rfl) (dAt dk_X6_gale 47 rfl) ?_
        refine g_bipush (v := 8) F (dAt dk_X6_gale 48 rfl) (by decide) ?_
        refine g_iload F (dAt dk_X6_gale 49 rfl) 2 rfl ?_
        refine g_imul F (dAt dk_X6_gale 50 rfl) ?_
        refine g_iload F (dAt dk_X6_gale 51 rfl) 1 rfl ?_
        refine g_iadd F (dAt dk_X6_gale 52 rfl) ?_
        refine g_ck h (fun hi18 h => ?_)
        refine g_ialoadm F am_miles (dAt dk_X6_gale 53 rfl) hi18 ?_
        refine g_lti h (fun y19 h => ?_)
        refine g_istore (lv' := [(7, .int y19), (6, .int r16), (5, .int r11), (4, .int r9), (0, .ref (ad 39)), (1, .int x1), (2, .int v2), (3, .int v3)]) F (dAt dk_X6_gale 54 rfl) (by decide) rfl ?_
        refine g_aload_n F (dAt dk_X6_gale 55 rfl) 4 rfl ?_
        refine g_iload F (dAt dk_X6_gale 56 rfl) 3 rfl ?_
        refine g_iload F (dAt dk_X6_gale 57 rfl) 2 rfl ?_
        refine g_sipush (v := 999) F (dAt dk_X6_gale 58 rfl) (by decide) ?_
        refine g_iload F (dAt dk_X6_gale 59 rfl) 0 rfl ?_
        refine g_iload F (dAt dk_X6_gale 60 rfl) 1 rfl ?_
        refine g_iadd F (dAt dk_X6_gale 61 rfl) ?_
        refine g_mmin F (gm mw_1076 rfl) (dAt dk_X6_gale 62 rfl) (by decide) (Nat.le_of_ble_eq_true rfl) h (fun r20 h => ?_)
        refine g_invV_im F mi_X6_lay (gm mw_1010 rfl) (dAt dk_X6_gale 63 rfl) (rcx_of F rc_Model) [.int r9, .int r11, .int r20] rfl rfl (by decide) (Nat.le_of_ble_eq_true rfl) h (fun _ _ hf => c_X6_lay hJ hf) (fun r21 t22 h => ?_)
        refine g_pop F (dAt dk_X6_gale 64 rfl) rfl ?_
        refine g_aload_n F (dAt dk_X6_gale 65 rfl) 4 rfl ?_
        refine g_iconst (v := 0) F (dAt dk_X6_gale 66 rfl) (by decide) ?_
        refine g_aload_n F (dAt dk_X6_gale 67 rfl) 4 rfl ?_
        refine gg_Model_flour F (gm mw_871 rfl) (dAt dk_X6_gale 68 rfl) ?_
        refine g_iload F (dAt dk_X6_gale 69 rfl) 1 rfl ?_
        refine g_isub F (dAt dk_X6_gale 70 rfl) ?_
        refine g_mmax F (gm mw_993 rfl) (dAt dk_X6_gale 71 rfl) (by decide) (Nat.le_of_ble_eq_true rfl) h (fun r23 h => ?_)
        refine gp_Model_flour F (gm mw_871 rfl) (dAt dk_X6_gale 72 rfl) ?_
        refine g_ltu h (fun t24 h => ?_)
        refine g_iload_n F (dAt dk_X6_gale 73 rfl) 6 rfl ?_
        refine g_aload_n F (dAt dk_X6_gale 74 rfl) 4 rfl ?_
        refine gg_Model_miles F (gm mw_870 rfl) (dAt dk_X6_gale 75 rfl) ?_
        refine g_bipush (v := 8) F (dAt dk_X6_gale 76 rfl) (by decide) ?_
        refine g_iload F (dAt dk_X6_gale 77 rfl) 3 rfl ?_
        refine g_imul F (dAt dk_X6_gale 78 rfl) ?_
        refine g_iload F (dAt dk_X6_gale 79 rfl) 2 rfl ?_
        refine g_iadd F (dAt dk_X6_gale 80 rfl) ?_
        refine g_ck h (fun hi25 h => ?_)
        refine g_ialoadm F am_miles (dAt dk_X6_gale 81 rfl) hi25 ?_
        refine g_iload F (dAt dk_X6_gale 82 rfl) 0 rfl ?_
        refine g_isub F (dAt dk_X6_gale 83 rfl) ?_
        refine g_iadd F (dAt dk_X6_gale 84 rfl) ?_
        refine g_lti h (fun y26 h => ?_)
        refine g_istore_n (lv' := [(2, .int y26), (7, .int y19), (6, .int r16), (5, .int r11), (4, .int r9), (0, .ref (ad 39)), (1, .int x1), (3, .int v3)]) F (dAt dk_X6_gale 85 rfl) (by decide) rfl ?_
        refine g_iinc (lv' := [(3, .int (v3 + 1)), (2, .int y26), (7, .int y19), (6, .int r16), (5, .int r11), (4, .int r9), (0, .ref (ad 39)), (1, .int x1)]) F (dAt dk_X6_gale 86 rfl) 7 rfl (w := 1) (by decide) (by decide) rfl ?_
        refine g_goto (tgt := 35) F (dAt dk_X6_gale 87 rfl) (by decide) ?_
        refine g_sub (lv' := [(0, .ref (ad 39)), (1, .int x1), (2, .int y26), (3, .int (v3 + 1))]) [6, 7, 1, 0] rfl ?_
        exact ih35 (y26, (v3 + 1), t24) h
      · refine g_goto (tgt := 155) F (dAt dk_X6_gale 38 rfl) (by decide) ?_
        refine g_iinc (lv' := [(3, .int (v3 + 1)), (5, .int r11), (4, .int r9), (0, .ref (ad 39)), (1, .int x1), (2, .int v2)]) F (dAt dk_X6_gale 86 rfl) 5 rfl (w := 1) (by decide) (by decide) rfl ?_
        refine g_goto (tgt := 35) F (dAt dk_X6_gale 87 rfl) (by decide) ?_
        refine g_sub (lv' := [(0, .ref (ad 39)), (1, .int x1), (2, .int v2), (3, .int (v3 + 1))]) [3, 4, 5, 0] rfl ?_
        exact ih35 (v2, (v3 + 1), t14) h
  refine g_lv (lv' := [(0, .ref (ad 39)), (1, .int x1)]) rfl ?_
  unfold f_X6_gale at h
  refine g_aload_n F (dAt dk_X6_gale 0 rfl) 0 rfl ?_
  refine gg_Model_places F (gm mw_867 rfl) (dAt dk_X6_gale 1 rfl) ?_
  refine g_if_ne (tgt := 14) F (dAt dk_X6_gale 2 rfl) (by decide) h (fun c1 h => ?_) (fun c1 h => ?_)
  · refine g_iload_n F (dAt dk_X6_gale 7 rfl) 1 rfl ?_
    refine g_iconst (v := 1) F (dAt dk_X6_gale 8 rfl) (by decide) ?_
    refine g_bipush (v := 60) F (dAt dk_X6_gale 9 rfl) (by decide) ?_
    refine g_invS_ip F ms_X6_within (gm mw_935 rfl) (dAt dk_X6_gale 10 rfl) [.int x1, .int 1, .int 60] rfl rfl (by decide) (Nat.le_of_ble_eq_true rfl) h (fun _ hf => c_X6_within hJ hf) (fun r2 h => ?_)
    refine g_if_ne (tgt := 31) F (dAt dk_X6_gale 11 rfl) (by decide) h (fun c3 h => ?_) (fun c3 h => ?_)
    · refine g_iconst (v := 0) F (dAt dk_X6_gale 16 rfl) (by decide) ?_
      refine g_istore_n (lv' := [(2, .int 0), (0, .ref (ad 39)), (1, .int x1)]) F (dAt dk_X6_gale 17 rfl) (by decide) rfl ?_
      refine g_iconst (v := 0) F (dAt dk_X6_gale 18 rfl) (by decide) ?_
      refine g_istore_n (lv' := [(3, .int 0), (2, .int 0), (0, .ref (ad 39)), (1, .int x1)]) F (dAt dk_X6_gale 19 rfl) (by decide) rfl ?_
      refine g_sub (lv' := [(0, .ref (ad 39)), (1, .int x1), (2, .int 0), (3, .int 0)]) [2, 3, 1, 0] rfl ?_
      exact H35  n (0, 0, u) h
    · refine g_aload_n F (dAt dk_X6_gale 12 rfl) 0 rfl ?_
      refine g_bipush (v := (-6)) F (dAt dk_X6_gale 13 rfl) (by decide) ?_
      refine g_invV_im F mi_X6_no (gm mw_938 rfl) (dAt dk_X6_gale 14 rfl) (rcx_of F rc_Model) [.int (-6)] rfl rfl (by decide) (Nat.le_of_ble_eq_true rfl) h (fun _ _ hf => c_X6_no hJ hf) (fun r4 t5 h => ?_)
      cases h
      exact E (dAt dk_X6_gale 15 rfl) rfl
  · refine g_aload_n F (dAt dk_X6_gale 3 rfl) 0 rfl ?_
    refine g_bipush (v := (-5)) F (dAt dk_X6_gale 4 rfl) (by decide) ?_
    refine g_invV_im F mi_X6_no (gm mw_938 rfl) (dAt dk_X6_gale 5 rfl) (rcx_of F rc_Model) [.int (-5)] rfl rfl (by decide) (Nat.le_of_ble_eq_true rfl) h (fun _ _ hf => c_X6_no hJ hf) (fun r6 t7 h => ?_)
    cases h
    exact E (dAt dk_X6_gale 6 rfl) rfl
theorem mi_X6_seed : MI yX6_seed cX6_seed 3 (some .int) "MillOfDistancesModel" 1 := ⟨(gm mw_1262 rfl), (gm mw_1260 rfl), (gm mw_1261 rfl), (gm mw_75 rfl), by decide +kernel, by decide⟩
theorem c_X6_seed {l : Launch} {D : va_G} {ad : Nat → Nat} {g : Gv} {t u : Mem} {x1 : Int32} {u' : Mem} {r : Int32} (hJ : Jad ad) (h : f_X6_seed x1 u = some (r, u')) : ConI l yX6_seed cX6_seed 3 (some .int) 0 [.ref (ad 39), .int x1] D ad g t u t u' r := by
  refine con_i hJ (by decide) (Nat.le_of_ble_eq_true rfl) rfl (fun X F E => ?_)
  refine g_lv (lv' := [(0, .ref (ad 39)), (1, .int x1)]) rfl ?_
  unfold f_X6_seed at h
  refine g_aload_n F (dAt dk_X6_seed 0 rfl) 0 rfl ?_
  refine gg_Model_seed F (gm mw_873 rfl) (dAt dk_X6_seed 1 rfl) ?_
  refine g_istore_n (lv' := [(2, .int (u.1 39 9)), (0, .ref (ad 39)), (1, .int x1)]) F (dAt dk_X6_seed 2 rfl) (by decide) rfl ?_
  refine g_aload_n F (dAt dk_X6_seed 3 rfl) 1 rfl ?_
  refine g_iload_n F (dAt dk_X6_seed 4 rfl) 2 rfl ?_
  refine gp_Model_seed F (gm mw_873 rfl) (dAt dk_X6_seed 5 rfl) ?_
  refine g_ltu h (fun t1 h => ?_)
  refine g_iload_n F (dAt dk_X6_seed 6 rfl) 0 rfl ?_
  cases h
  exact E (dAt dk_X6_seed 7 rfl) rfl
theorem mi_X6_ran : MI yX6_ran cX6_ran 2 none "MillOfDistancesModel" 1 := ⟨(gm mw_1274 rfl), (gm mw_1273 rfl), (gm mw_65 rfl), (gm mw_75 rfl), by decide +kernel, by decide⟩
theorem c_X6_ran {l : Launch} {D : va_G} {ad : Nat → Nat} {g : Gv} {t u : Mem} {x1 : Int32} {u' : Mem} (hJ : Jad ad) (h : f_X6_ran x1 u = some ((), u')) : ConV l yX6_ran cX6_ran 2 none 0 [.ref (ad 39), .int x1] D ad g t u t u' := by
  refine con_v hJ (by decide) (Nat.le_of_ble_eq_true rfl) rfl (fun X F E => ?_)
  refine g_lv (lv' := [(0, .ref (ad 39)), (1, .int x1)]) rfl ?_
  unfold f_X6_ran at h
  refine g_aload_n F (dAt dk_X6_ran 0 rfl) 0 rfl ?_
  refine gg_Model_traced F (gm mw_876 rfl) (dAt dk_X6_ran 1 rfl) ?_
  refine g_bipush (v := 20) F (dAt dk_X6_ran 2 rfl) (by decide) ?_
  refine g_icmp_ge (tgt := 19) F (dAt dk_X6_ran 3 rfl) (by decide) h (fun c1 h => ?_) (fun c1 h => ?_)
  · refine g_aload_n F (dAt dk_X6_ran 10 rfl) 0 rfl ?_
    refine g_dup F (dAt dk_X6_ran 11 rfl) rfl ?_
    refine gg_Model_traced F (gm mw_876 rfl) (dAt dk_X6_ran 12 rfl) ?_
    refine g_iconst (v := 1) F (dAt dk_X6_ran 13 rfl) (by decide) ?_
    refine g_iadd F (dAt dk_X6_ran 14 rfl) ?_
    refine gp_Model_traced F (gm mw_876 rfl) (dAt dk_X6_ran 15 rfl) ?_
    refine g_ltu h (fun t2 h => ?_)
    cases h
    exact E (dAt dk_X6_ran 16 rfl)
  · refine g_aload_n F (dAt dk_X6_ran 4 rfl) 0 rfl ?_
    refine gg_Model_traces F (gm mw_877 rfl) (dAt dk_X6_ran 5 rfl) ?_
    refine g_aload_n F (dAt dk_X6_ran 6 rfl) 0 rfl ?_
    refine gg_Model_traced F (gm mw_876 rfl) (dAt dk_X6_ran 7 rfl) ?_
    refine g_iload_n F (dAt dk_X6_ran 8 rfl) 1 rfl ?_
    refine g_ck h (fun hi3 h => ?_)
    refine g_iastorem F am_traces (dAt dk_X6_ran 9 rfl) hi3 ?_
    refine g_ltu h (fun t4 h => ?_)
    refine g_aload_n F (dAt dk_X6_ran 10 rfl) 0 rfl ?_
    refine g_dup F (dAt dk_X6_ran 11 rfl) rfl ?_
    refine gg_Model_traced F (gm mw_876 rfl) (dAt dk_X6_ran 12 rfl) ?_
    refine g_iconst (v := 1) F (dAt dk_X6_ran 13 rfl) (by decide) ?_
    refine g_iadd F (dAt dk_X6_ran 14 rfl) ?_
    refine gp_Model_traced F (gm mw_876 rfl) (dAt dk_X6_ran 15 rfl) ?_
    refine g_ltu h (fun t5 h => ?_)
    cases h
    exact E (dAt dk_X6_ran 16 rfl)
theorem mi_X6_grinds : MI yX6_grinds cX6_grinds 5 (some .int) "MillOfDistancesModel" 2 := ⟨(gm mw_1270 rfl), (gm mw_1269 rfl), (gm mw_64 rfl), (gm mw_75 rfl), by decide +kernel, by decide⟩
theorem c_X6_grinds {l : Launch} {D : va_G} {ad : Nat → Nat} {g : Gv} {t u : Mem} {x1 : Int32} {x2 : Int32} {u' : Mem} {r : Int32} (hJ : Jad ad) (h : f_X6_grinds x1 x2 u = some (r, u')) : ConI l yX6_grinds cX6_grinds 5 (some .int) 1 [.ref (ad 39), .int x1, .int x2] D ad g t u t u' r := by
  refine con_i hJ (by decide) (Nat.le_of_ble_eq_true rfl) rfl (fun X F E => ?_)
  have J52 : ∀ (v3 : Int32) (u0 : Mem), jn_X6_grinds_52 x1 x2 v3 u0 = some (r, u') → G X D ad g t u0 [(0, .ref (ad 39)), (1, .int x1), (2, .int x2), (3, .int v3)] 52 [] := by
    intro v3 u0 h
    unfold jn_X6_grinds_52 at h
    refine g_aload_n F (dAt dk_X6_grinds 29 rfl) 0 rfl ?_
    refine g_bipush (v := 10) F (dAt dk_X6_grinds 30 rfl) (by decide) ?_
    refine g_invV_vm F mi_X6_ran (gm mw_1271 rfl) (dAt dk_X6_grinds 31 rfl) (rcx_of F rc_Model) [.int 10] rfl rfl (by decide) (Nat.le_of_ble_eq_true rfl) h (fun _ _ hf => c_X6_ran hJ hf) (fun _ t10 h => ?_)
    refine g_iload_n F (dAt dk_X6_grinds 32 rfl) 2 rfl ?_
    refine g_iload_n F (dAt dk_X6_grinds 33 rfl) 1 rfl ?_
    refine g_iadd F (dAt dk_X6_grinds 34 rfl) ?_
    refine g_istore (lv' := [(4, .int (x2 + x1)), (0, .ref (ad 39)), (1, .int x1), (2, .int x2), (3, .int v3)]) F (dAt dk_X6_grinds 35 rfl) (by decide) rfl ?_
    refine g_iload_n F (dAt dk_X6_grinds 36 rfl) 4 rfl ?_
    refine g_iconst (v := 1) F (dAt dk_X6_grinds 37 rfl) (by decide) ?_
    refine g_icmp_eq (tgt := 73) F (dAt dk_X6_grinds 38 rfl) (by decide) h (fun c11 h => ?_) (fun c11 h => ?_)
    · refine g_iload F (dAt dk_X6_grinds 42 rfl) 0 rfl ?_
      refine g_aload_n F (dAt dk_X6_grinds 43 rfl) 1 rfl ?_
      refine gg_Model_own F (gm mw_869 rfl) (dAt dk_X6_grinds 44 rfl) ?_
      refine g_iload_n F (dAt dk_X6_grinds 45 rfl) 2 rfl ?_
      refine g_ck h (fun hi12 h => ?_)
      refine g_ialoadm F am_own (dAt dk_X6_grinds 46 rfl) hi12 ?_
      refine g_iadd F (dAt dk_X6_grinds 47 rfl) ?_
      cases h
      exact E (dAt dk_X6_grinds 48 rfl) rfl
    · refine g_iload_n F (dAt dk_X6_grinds 39 rfl) 4 rfl ?_
      refine g_iconst (v := 3) F (dAt dk_X6_grinds 40 rfl) (by decide) ?_
      refine g_icmp_ne (tgt := 83) F (dAt dk_X6_grinds 41 rfl) (by decide) h (fun c13 h => ?_) (fun c13 h => ?_)
      · refine g_iload_n F (dAt dk_X6_grinds 49 rfl) 4 rfl ?_
        refine g_iconst (v := 4) F (dAt dk_X6_grinds 50 rfl) (by decide) ?_
        refine g_icmp_ne (tgt := 95) F (dAt dk_X6_grinds 51 rfl) (by decide) h (fun c14 h => ?_) (fun c14 h => ?_)
        · refine g_iload_n F (dAt dk_X6_grinds 56 rfl) 4 rfl ?_
          refine g_bipush (v := 6) F (dAt dk_X6_grinds 57 rfl) (by decide) ?_
          refine g_icmp_ne (tgt := 110) F (dAt dk_X6_grinds 58 rfl) (by decide) h (fun c15 h => ?_) (fun c15 h => ?_)
          · refine g_iload F (dAt dk_X6_grinds 65 rfl) 0 rfl ?_
            cases h
            exact E (dAt dk_X6_grinds 66 rfl) rfl
          · refine g_iload F (dAt dk_X6_grinds 59 rfl) 0 rfl ?_
            refine g_iload_n F (dAt dk_X6_grinds 60 rfl) 2 rfl ?_
            refine g_isub F (dAt dk_X6_grinds 61 rfl) ?_
            refine g_iconst (v := 2) F (dAt dk_X6_grinds 62 rfl) (by decide) ?_
            refine g_imul F (dAt dk_X6_grinds 63 rfl) ?_
            refine g_goto (tgt := 112) F (dAt dk_X6_grinds 64 rfl) (by decide) ?_
            cases h
            exact E (dAt dk_X6_grinds 66 rfl) rfl
        · refine g_iload F (dAt dk_X6_grinds 52 rfl) 0 rfl ?_
          refine g_iload_n F (dAt dk_X6_grinds 53 rfl) 2 rfl ?_
          refine g_isub F (dAt dk_X6_grinds 54 rfl) ?_
          refine g_goto (tgt := 112) F (dAt dk_X6_grinds 55 rfl) (by decide) ?_
          cases h
          exact E (dAt dk_X6_grinds 66 rfl) rfl
      · refine g_iload F (dAt dk_X6_grinds 42 rfl) 0 rfl ?_
        refine g_aload_n F (dAt dk_X6_grinds 43 rfl) 1 rfl ?_
        refine gg_Model_own F (gm mw_869 rfl) (dAt dk_X6_grinds 44 rfl) ?_
        refine g_iload_n F (dAt dk_X6_grinds 45 rfl) 2 rfl ?_
        refine g_ck h (fun hi16 h => ?_)
        refine g_ialoadm F am_own (dAt dk_X6_grinds 46 rfl) hi16 ?_
        refine g_iadd F (dAt dk_X6_grinds 47 rfl) ?_
        cases h
        exact E (dAt dk_X6_grinds 48 rfl) rfl
  have J46 : ∀ (v3 : Int32) (u0 : Mem), jn_X6_grinds_46 x1 x2 v3 u0 = some (r, u') → G X D ad g t u0 [(0, .ref (ad 39)), (1, .int x1), (2, .int x2), (3, .int v3)] 46 [] := by
    intro v3 u0 h
    unfold jn_X6_grinds_46 at h
    refine g_aload_n F (dAt dk_X6_grinds 26 rfl) 0 rfl ?_
    refine g_bipush (v := 20) F (dAt dk_X6_grinds 27 rfl) (by decide) ?_
    refine g_invV_vm F mi_X6_ran (gm mw_1271 rfl) (dAt dk_X6_grinds 28 rfl) (rcx_of F rc_Model) [.int 20] rfl rfl (by decide) (Nat.le_of_ble_eq_true rfl) h (fun _ _ hf => c_X6_ran hJ hf) (fun _ t9 h => ?_)
    refine g_sub (lv' := [(0, .ref (ad 39)), (1, .int x1), (2, .int x2), (3, .int v3)]) [0, 1, 2, 3] rfl ?_
    exact J52  v3 t9 h
  have J36 : ∀ (v3 : Int32) (u0 : Mem), jn_X6_grinds_36 x1 x2 v3 u0 = some (r, u') → G X D ad g t u0 [(0, .ref (ad 39)), (1, .int x1), (2, .int x2), (3, .int v3)] 36 [] := by
    intro v3 u0 h
    unfold jn_X6_grinds_36 at h
    refine g_iload_n F (dAt dk_X6_grinds 20 rfl) 3 rfl ?_
    refine g_iconst (v := 1) F (dAt dk_X6_grinds 21 rfl) (by decide) ?_
    refine g_icmp_eq (tgt := 46) F (dAt dk_X6_grinds 22 rfl) (by decide) h (fun c7 h => ?_) (fun c7 h => ?_)
    · refine g_sub (lv' := [(0, .ref (ad 39)), (1, .int x1), (2, .int x2), (3, .int v3)]) [0, 1, 2, 3] rfl ?_
      exact J46  v3 u0 h
    · refine g_iload_n F (dAt dk_X6_grinds 23 rfl) 3 rfl ?_
      refine g_iconst (v := 3) F (dAt dk_X6_grinds 24 rfl) (by decide) ?_
      refine g_icmp_ne (tgt := 52) F (dAt dk_X6_grinds 25 rfl) (by decide) h (fun c8 h => ?_) (fun c8 h => ?_)
      · refine g_sub (lv' := [(0, .ref (ad 39)), (1, .int x1), (2, .int x2), (3, .int v3)]) [0, 1, 2, 3] rfl ?_
        exact J52  v3 u0 h
      · refine g_sub (lv' := [(0, .ref (ad 39)), (1, .int x1), (2, .int x2), (3, .int v3)]) [0, 1, 2, 3] rfl ?_
        exact J46  v3 u0 h
  have J30 : ∀ (v3 : Int32) (u0 : Mem), jn_X6_grinds_30 x1 x2 v3 u0 = some (r, u') → G X D ad g t u0 [(0, .ref (ad 39)), (1, .int x1), (2, .int x2), (3, .int v3)] 30 [] := by
    intro v3 u0 h
    unfold jn_X6_grinds_30 at h
    refine g_aload_n F (dAt dk_X6_grinds 17 rfl) 0 rfl ?_
    refine g_bipush (v := 51) F (dAt dk_X6_grinds 18 rfl) (by decide) ?_
    refine g_invV_vm F mi_X6_ran (gm mw_1271 rfl) (dAt dk_X6_grinds 19 rfl) (rcx_of F rc_Model) [.int 51] rfl rfl (by decide) (Nat.le_of_ble_eq_true rfl) h (fun _ _ hf => c_X6_ran hJ hf) (fun _ t6 h => ?_)
    refine g_sub (lv' := [(0, .ref (ad 39)), (1, .int x1), (2, .int x2), (3, .int v3)]) [0, 1, 2, 3] rfl ?_
    exact J36  v3 t6 h
  have J19 : ∀ (v3 : Int32) (u0 : Mem), jn_X6_grinds_19 x1 x2 v3 u0 = some (r, u') → G X D ad g t u0 [(0, .ref (ad 39)), (1, .int x1), (2, .int x2), (3, .int v3)] 19 [] := by
    intro v3 u0 h
    unfold jn_X6_grinds_19 at h
    refine g_iload_n F (dAt dk_X6_grinds 11 rfl) 3 rfl ?_
    refine g_iconst (v := 4) F (dAt dk_X6_grinds 12 rfl) (by decide) ?_
    refine g_icmp_eq (tgt := 30) F (dAt dk_X6_grinds 13 rfl) (by decide) h (fun c4 h => ?_) (fun c4 h => ?_)
    · refine g_sub (lv' := [(0, .ref (ad 39)), (1, .int x1), (2, .int x2), (3, .int v3)]) [0, 1, 2, 3] rfl ?_
      exact J30  v3 u0 h
    · refine g_iload_n F (dAt dk_X6_grinds 14 rfl) 3 rfl ?_
      refine g_bipush (v := 6) F (dAt dk_X6_grinds 15 rfl) (by decide) ?_
      refine g_icmp_ne (tgt := 36) F (dAt dk_X6_grinds 16 rfl) (by decide) h (fun c5 h => ?_) (fun c5 h => ?_)
      · refine g_sub (lv' := [(0, .ref (ad 39)), (1, .int x1), (2, .int x2), (3, .int v3)]) [0, 1, 2, 3] rfl ?_
        exact J36  v3 u0 h
      · refine g_sub (lv' := [(0, .ref (ad 39)), (1, .int x1), (2, .int x2), (3, .int v3)]) [0, 1, 2, 3] rfl ?_
        exact J30  v3 u0 h
  refine g_lv (lv' := [(0, .ref (ad 39)), (1, .int x1), (2, .int x2)]) rfl ?_
  unfold f_X6_grinds at h
  refine g_aload_n F (dAt dk_X6_grinds 0 rfl) 0 rfl ?_
  refine gg_Model_kind F (gm mw_868 rfl) (dAt dk_X6_grinds 1 rfl) ?_
  refine g_iload_n F (dAt dk_X6_grinds 2 rfl) 1 rfl ?_
  refine g_ck h (fun hi1 h => ?_)
  refine g_ialoadm F am_kind (dAt dk_X6_grinds 3 rfl) hi1 ?_
  refine g_istore_n (lv' := [(3, .int (u.1 43 x1.toNatClampNeg)), (0, .ref (ad 39)), (1, .int x1), (2, .int x2)]) F (dAt dk_X6_grinds 4 rfl) (by decide) rfl ?_
  refine g_iload_n F (dAt dk_X6_grinds 5 rfl) 0 rfl ?_
  refine g_bipush (v := 6) F (dAt dk_X6_grinds 6 rfl) (by decide) ?_
  refine g_icmp_ne (tgt := 19) F (dAt dk_X6_grinds 7 rfl) (by decide) h (fun c2 h => ?_) (fun c2 h => ?_)
  · refine g_sub (lv' := [(0, .ref (ad 39)), (1, .int x1), (2, .int x2), (3, .int (u.1 43 x1.toNatClampNeg))]) [1, 2, 3, 0] rfl ?_
    exact J19  (u.1 43 x1.toNatClampNeg) u h
  · refine g_aload_n F (dAt dk_X6_grinds 8 rfl) 1 rfl ?_
    refine g_bipush (v := 70) F (dAt dk_X6_grinds 9 rfl) (by decide) ?_
    refine g_invV_vm F mi_X6_ran (gm mw_1271 rfl) (dAt dk_X6_grinds 10 rfl) (rcx_of F rc_Model) [.int 70] rfl rfl (by decide) (Nat.le_of_ble_eq_true rfl) h (fun _ _ hf => c_X6_ran hJ hf) (fun _ t3 h => ?_)
    refine g_sub (lv' := [(0, .ref (ad 39)), (1, .int x1), (2, .int x2), (3, .int (u.1 43 x1.toNatClampNeg))]) [1, 2, 3, 0] rfl ?_
    exact J19  (u.1 43 x1.toNatClampNeg) t3 h
theorem mi_X6_strews : MI yX6_strews cX6_strews 6 (some .int) "MillOfDistancesModel" 2 := ⟨(gm mw_1278 rfl), (gm mw_1277 rfl), (gm mw_66 rfl), (gm mw_75 rfl), by decide +kernel, by decide⟩
theorem c_X6_strews {l : Launch} {D : va_G} {ad : Nat → Nat} {g : Gv} {t u : Mem} {x1 : Int32} {x2 : Int32} {u' : Mem} {r : Int32} (hJ : Jad ad) (h : f_X6_strews x1 x2 u = some (r, u')) : ConI l yX6_strews cX6_strews 6 (some .int) 2 [.ref (ad 39), .int x1, .int x2] D ad g t u t u' r := by
  refine con_i hJ (by decide) (Nat.le_of_ble_eq_true rfl) rfl (fun X F E => ?_)
  have J64 : ∀ (v3 : Int32) (v4 : Int32) (u0 : Mem), jn_X6_strews_64 x1 x2 v3 v4 u0 = some (r, u') → G X D ad g t u0 [(0, .ref (ad 39)), (1, .int x1), (3, .int v3), (4, .int v4)] 64 [] := by
    intro v3 v4 u0 h
    unfold jn_X6_strews_64 at h
    refine g_aload_n F (dAt dk_X6_strews 39 rfl) 0 rfl ?_
    refine g_bipush (v := 11) F (dAt dk_X6_strews 40 rfl) (by decide) ?_
    refine g_invV_vm F mi_X6_ran (gm mw_1271 rfl) (dAt dk_X6_strews 41 rfl) (rcx_of F rc_Model) [.int 11] rfl rfl (by decide) (Nat.le_of_ble_eq_true rfl) h (fun _ _ hf => c_X6_ran hJ hf) (fun _ t11 h => ?_)
    refine g_aload_n F (dAt dk_X6_strews 42 rfl) 0 rfl ?_
    refine g_iload_n F (dAt dk_X6_strews 43 rfl) 1 rfl ?_
    refine g_iload F (dAt dk_X6_strews 44 rfl) 3 rfl ?_
    refine g_invV_im F mi_X6_grinds (gm mw_1267 rfl) (dAt dk_X6_strews 45 rfl) (rcx_of F rc_Model) [.int x1, .int v4] rfl rfl (by decide) (Nat.le_of_ble_eq_true rfl) h (fun _ _ hf => c_X6_grinds hJ hf) (fun r12 t13 h => ?_)
    refine g_iconst (v := 2) F (dAt dk_X6_strews 46 rfl) (by decide) ?_
    refine g_imul F (dAt dk_X6_strews 47 rfl) ?_
    refine g_istore (lv' := [(5, .int (r12 * 2)), (0, .ref (ad 39)), (1, .int x1), (3, .int v3), (4, .int v4)]) F (dAt dk_X6_strews 48 rfl) (by decide) rfl ?_
    refine g_iload_n F (dAt dk_X6_strews 49 rfl) 3 rfl ?_
    refine g_iconst (v := 2) F (dAt dk_X6_strews 50 rfl) (by decide) ?_
    refine g_icmp_eq (tgt := 91) F (dAt dk_X6_strews 51 rfl) (by decide) h (fun c14 h => ?_) (fun c14 h => ?_)
    · refine g_iload F (dAt dk_X6_strews 55 rfl) 0 rfl ?_
      refine g_iconst (v := 3) F (dAt dk_X6_strews 56 rfl) (by decide) ?_
      refine g_imul F (dAt dk_X6_strews 57 rfl) ?_
      refine g_goto (tgt := 100) F (dAt dk_X6_strews 58 rfl) (by decide) ?_
      cases h
      exact E (dAt dk_X6_strews 60 rfl) rfl
    · refine g_iload_n F (dAt dk_X6_strews 52 rfl) 3 rfl ?_
      refine g_iconst (v := 5) F (dAt dk_X6_strews 53 rfl) (by decide) ?_
      refine g_icmp_ne (tgt := 98) F (dAt dk_X6_strews 54 rfl) (by decide) h (fun c15 h => ?_) (fun c15 h => ?_)
      · refine g_iload F (dAt dk_X6_strews 59 rfl) 0 rfl ?_
        cases h
        exact E (dAt dk_X6_strews 60 rfl) rfl
      · refine g_iload F (dAt dk_X6_strews 55 rfl) 0 rfl ?_
        refine g_iconst (v := 3) F (dAt dk_X6_strews 56 rfl) (by decide) ?_
        refine g_imul F (dAt dk_X6_strews 57 rfl) ?_
        refine g_goto (tgt := 100) F (dAt dk_X6_strews 58 rfl) (by decide) ?_
        cases h
        exact E (dAt dk_X6_strews 60 rfl) rfl
  have J58 : ∀ (v3 : Int32) (v4 : Int32) (u0 : Mem), jn_X6_strews_58 x1 x2 v3 v4 u0 = some (r, u') → G X D ad g t u0 [(0, .ref (ad 39)), (1, .int x1), (3, .int v3), (4, .int v4)] 58 [] := by
    intro v3 v4 u0 h
    unfold jn_X6_strews_58 at h
    refine g_aload_n F (dAt dk_X6_strews 36 rfl) 0 rfl ?_
    refine g_bipush (v := 30) F (dAt dk_X6_strews 37 rfl) (by decide) ?_
    refine g_invV_vm F mi_X6_ran (gm mw_1271 rfl) (dAt dk_X6_strews 38 rfl) (rcx_of F rc_Model) [.int 30] rfl rfl (by decide) (Nat.le_of_ble_eq_true rfl) h (fun _ _ hf => c_X6_ran hJ hf) (fun _ t10 h => ?_)
    refine g_sub (lv' := [(0, .ref (ad 39)), (1, .int x1), (3, .int v3), (4, .int v4)]) [0, 1, 2, 3] rfl ?_
    exact J64  v3 v4 t10 h
  have J48 : ∀ (v3 : Int32) (v4 : Int32) (u0 : Mem), jn_X6_strews_48 x1 x2 v3 v4 u0 = some (r, u') → G X D ad g t u0 [(0, .ref (ad 39)), (1, .int x1), (3, .int v3), (4, .int v4)] 48 [] := by
    intro v3 v4 u0 h
    unfold jn_X6_strews_48 at h
    refine g_iload_n F (dAt dk_X6_strews 30 rfl) 2 rfl ?_
    refine g_iconst (v := 2) F (dAt dk_X6_strews 31 rfl) (by decide) ?_
    refine g_icmp_eq (tgt := 58) F (dAt dk_X6_strews 32 rfl) (by decide) h (fun c8 h => ?_) (fun c8 h => ?_)
    · refine g_sub (lv' := [(0, .ref (ad 39)), (1, .int x1), (3, .int v3), (4, .int v4)]) [0, 1, 2, 3] rfl ?_
      exact J58  v3 v4 u0 h
    · refine g_iload_n F (dAt dk_X6_strews 33 rfl) 2 rfl ?_
      refine g_iconst (v := 5) F (dAt dk_X6_strews 34 rfl) (by decide) ?_
      refine g_icmp_ne (tgt := 64) F (dAt dk_X6_strews 35 rfl) (by decide) h (fun c9 h => ?_) (fun c9 h => ?_)
      · refine g_sub (lv' := [(0, .ref (ad 39)), (1, .int x1), (3, .int v3), (4, .int v4)]) [0, 1, 2, 3] rfl ?_
        exact J64  v3 v4 u0 h
      · refine g_sub (lv' := [(0, .ref (ad 39)), (1, .int x1), (3, .int v3), (4, .int v4)]) [0, 1, 2, 3] rfl ?_
        exact J58  v3 v4 u0 h
  have J32 : ∀ (v3 : Int32) (v4 : Int32) (u0 : Mem), jn_X6_strews_32 x1 x2 v3 v4 u0 = some (r, u') → G X D ad g t u0 [(0, .ref (ad 39)), (1, .int x1), (2, .int x2), (3, .int v3), (4, .int v4)] 32 [] := by
    intro v3 v4 u0 h
    unfold jn_X6_strews_32 at h
    refine g_iload_n F (dAt dk_X6_strews 20 rfl) 3 rfl ?_
    refine g_iconst (v := 3) F (dAt dk_X6_strews 21 rfl) (by decide) ?_
    refine g_icmp_ne (tgt := 48) F (dAt dk_X6_strews 22 rfl) (by decide) h (fun c6 h => ?_) (fun c6 h => ?_)
    · refine g_sub (lv' := [(0, .ref (ad 39)), (1, .int x1), (3, .int v3), (4, .int v4)]) [0, 1, 3, 4] rfl ?_
      exact J48  v3 v4 u0 h
    · refine g_aload_n F (dAt dk_X6_strews 23 rfl) 0 rfl ?_
      refine g_bipush (v := 40) F (dAt dk_X6_strews 24 rfl) (by decide) ?_
      refine g_invV_vm F mi_X6_ran (gm mw_1271 rfl) (dAt dk_X6_strews 25 rfl) (rcx_of F rc_Model) [.int 40] rfl rfl (by decide) (Nat.le_of_ble_eq_true rfl) h (fun _ _ hf => c_X6_ran hJ hf) (fun _ t7 h => ?_)
      refine g_iload_n F (dAt dk_X6_strews 26 rfl) 2 rfl ?_
      refine g_iconst (v := 1) F (dAt dk_X6_strews 27 rfl) (by decide) ?_
      refine g_iadd F (dAt dk_X6_strews 28 rfl) ?_
      refine g_istore (lv' := [(4, .int (x2 + 1)), (0, .ref (ad 39)), (1, .int x1), (2, .int x2), (3, .int v3)]) F (dAt dk_X6_strews 29 rfl) (by decide) rfl ?_
      refine g_sub (lv' := [(0, .ref (ad 39)), (1, .int x1), (3, .int v3), (4, .int (x2 + 1))]) [1, 2, 4, 0] rfl ?_
      exact J48  v3 (x2 + 1) t7 h
  refine g_lv (lv' := [(0, .ref (ad 39)), (1, .int x1), (2, .int x2)]) rfl ?_
  unfold f_X6_strews at h
  refine g_aload_n F (dAt dk_X6_strews 0 rfl) 0 rfl ?_
  refine gg_Model_kind F (gm mw_868 rfl) (dAt dk_X6_strews 1 rfl) ?_
  refine g_iload_n F (dAt dk_X6_strews 2 rfl) 1 rfl ?_
  refine g_ck h (fun hi1 h => ?_)
  refine g_ialoadm F am_kind (dAt dk_X6_strews 3 rfl) hi1 ?_
  refine g_istore_n (lv' := [(3, .int (u.1 43 x1.toNatClampNeg)), (0, .ref (ad 39)), (1, .int x1), (2, .int x2)]) F (dAt dk_X6_strews 4 rfl) (by decide) rfl ?_
  refine g_iload_n F (dAt dk_X6_strews 5 rfl) 3 rfl ?_
  refine g_istore (lv' := [(4, .int x2), (3, .int (u.1 43 x1.toNatClampNeg)), (0, .ref (ad 39)), (1, .int x1), (2, .int x2)]) F (dAt dk_X6_strews 6 rfl) (by decide) rfl ?_
  refine g_iload_n F (dAt dk_X6_strews 7 rfl) 1 rfl ?_
  refine g_bipush (v := 6) F (dAt dk_X6_strews 8 rfl) (by decide) ?_
  refine g_icmp_ne (tgt := 32) F (dAt dk_X6_strews 9 rfl) (by decide) h (fun c2 h => ?_) (fun c2 h => ?_)
  · refine g_sub (lv' := [(0, .ref (ad 39)), (1, .int x1), (2, .int x2), (3, .int (u.1 43 x1.toNatClampNeg)), (4, .int x2)]) [2, 3, 4, 1, 0] rfl ?_
    exact J32  (u.1 43 x1.toNatClampNeg) x2 u h
  · refine g_aload_n F (dAt dk_X6_strews 10 rfl) 2 rfl ?_
    refine g_bipush (v := 71) F (dAt dk_X6_strews 11 rfl) (by decide) ?_
    refine g_invV_vm F mi_X6_ran (gm mw_1271 rfl) (dAt dk_X6_strews 12 rfl) (rcx_of F rc_Model) [.int 71] rfl rfl (by decide) (Nat.le_of_ble_eq_true rfl) h (fun _ _ hf => c_X6_ran hJ hf) (fun _ t3 h => ?_)
    refine g_iload_n F (dAt dk_X6_strews 13 rfl) 4 rfl ?_
    refine g_aload_n F (dAt dk_X6_strews 14 rfl) 2 rfl ?_
    refine gg_Model_own F (gm mw_869 rfl) (dAt dk_X6_strews 15 rfl) ?_
    refine g_iload_n F (dAt dk_X6_strews 16 rfl) 3 rfl ?_
    refine g_ck h (fun hi4 h => ?_)
    refine g_ialoadm F am_own (dAt dk_X6_strews 17 rfl) hi4 ?_
    refine g_isub F (dAt dk_X6_strews 18 rfl) ?_
    refine g_lti h (fun y5 h => ?_)
    refine g_istore (lv' := [(4, .int y5), (3, .int (u.1 43 x1.toNatClampNeg)), (0, .ref (ad 39)), (1, .int x1), (2, .int x2)]) F (dAt dk_X6_strews 19 rfl) (by decide) rfl ?_
    refine g_sub (lv' := [(0, .ref (ad 39)), (1, .int x1), (2, .int x2), (3, .int (u.1 43 x1.toNatClampNeg)), (4, .int y5)]) [2, 3, 4, 1, 0] rfl ?_
    exact J32  (u.1 43 x1.toNatClampNeg) y5 t3 h
theorem mi_X6_blows : MI yX6_blows cX6_blows 6 (some .int) "MillOfDistancesModel" 2 := ⟨(gm mw_1282 rfl), (gm mw_1281 rfl), (gm mw_67 rfl), (gm mw_75 rfl), by decide +kernel, by decide⟩
theorem c_X6_blows {l : Launch} {D : va_G} {ad : Nat → Nat} {g : Gv} {t u : Mem} {x1 : Int32} {x2 : Int32} {u' : Mem} {r : Int32} (hJ : Jad ad) (h : f_X6_blows x1 x2 u = some (r, u')) : ConI l yX6_blows cX6_blows 6 (some .int) 3 [.ref (ad 39), .int x1, .int x2] D ad g t u t u' r := by
  refine con_i hJ (by decide) (Nat.le_of_ble_eq_true rfl) rfl (fun X F E => ?_)
  have J35 : ∀ (v3 : Int32) (u0 : Mem), jn_X6_blows_35 x1 x2 v3 u0 = some (r, u') → G X D ad g t u0 [(0, .ref (ad 39)), (1, .int x1), (2, .int x2), (3, .int v3)] 35 [] := by
    intro v3 u0 h
    unfold jn_X6_blows_35 at h
    refine g_aload_n F (dAt dk_X6_blows 20 rfl) 0 rfl ?_
    refine g_bipush (v := 12) F (dAt dk_X6_blows 21 rfl) (by decide) ?_
    refine g_invV_vm F mi_X6_ran (gm mw_1271 rfl) (dAt dk_X6_blows 22 rfl) (rcx_of F rc_Model) [.int 12] rfl rfl (by decide) (Nat.le_of_ble_eq_true rfl) h (fun _ _ hf => c_X6_ran hJ hf) (fun _ t7 h => ?_)
    refine g_aload_n F (dAt dk_X6_blows 23 rfl) 0 rfl ?_
    refine g_iload_n F (dAt dk_X6_blows 24 rfl) 1 rfl ?_
    refine g_iload_n F (dAt dk_X6_blows 25 rfl) 2 rfl ?_
    refine g_invV_im F mi_X6_strews (gm mw_1275 rfl) (dAt dk_X6_blows 26 rfl) (rcx_of F rc_Model) [.int x1, .int x2] rfl rfl (by decide) (Nat.le_of_ble_eq_true rfl) h (fun _ _ hf => c_X6_strews hJ hf) (fun r8 t9 h => ?_)
    refine g_istore (lv' := [(4, .int r8), (0, .ref (ad 39)), (1, .int x1), (2, .int x2), (3, .int v3)]) F (dAt dk_X6_blows 27 rfl) (by decide) rfl ?_
    refine g_iload F (dAt dk_X6_blows 28 rfl) 0 rfl ?_
    refine g_aload_n F (dAt dk_X6_blows 29 rfl) 1 rfl ?_
    refine g_iload_n F (dAt dk_X6_blows 30 rfl) 2 rfl ?_
    refine g_iload_n F (dAt dk_X6_blows 31 rfl) 3 rfl ?_
    refine g_aload_n F (dAt dk_X6_blows 32 rfl) 1 rfl ?_
    refine gg_Model_own F (gm mw_869 rfl) (dAt dk_X6_blows 33 rfl) ?_
    refine g_iload_n F (dAt dk_X6_blows 34 rfl) 2 rfl ?_
    refine g_ck h (fun hi10 h => ?_)
    refine g_ialoadm F am_own (dAt dk_X6_blows 35 rfl) hi10 ?_
    refine g_isub F (dAt dk_X6_blows 36 rfl) ?_
    refine g_invV_im F mi_X6_grinds (gm mw_1267 rfl) (dAt dk_X6_blows 37 rfl) (rcx_of F rc_Model) [.int x1, .int (x2 - (t9.1 44 x1.toNatClampNeg))] rfl rfl (by decide) (Nat.le_of_ble_eq_true rfl) h (fun _ _ hf => c_X6_grinds hJ hf) (fun r11 t12 h => ?_)
    refine g_ixor F (dAt dk_X6_blows 38 rfl) ?_
    refine g_istore (lv' := [(5, .int (r8 ^^^ r11)), (4, .int r8), (0, .ref (ad 39)), (1, .int x1), (2, .int x2), (3, .int v3)]) F (dAt dk_X6_blows 39 rfl) (by decide) rfl ?_
    refine g_iload_n F (dAt dk_X6_blows 40 rfl) 5 rfl ?_
    refine g_iconst (v := 4) F (dAt dk_X6_blows 41 rfl) (by decide) ?_
    refine g_icmp_eq (tgt := 78) F (dAt dk_X6_blows 42 rfl) (by decide) h (fun c13 h => ?_) (fun c13 h => ?_)
    · refine g_iload F (dAt dk_X6_blows 46 rfl) 0 rfl ?_
      refine g_ineg F (dAt dk_X6_blows 47 rfl) ?_
      refine g_goto (tgt := 98) F (dAt dk_X6_blows 48 rfl) (by decide) ?_
      cases h
      exact E (dAt dk_X6_blows 57 rfl) rfl
    · refine g_iload_n F (dAt dk_X6_blows 43 rfl) 5 rfl ?_
      refine g_bipush (v := 6) F (dAt dk_X6_blows 44 rfl) (by decide) ?_
      refine g_icmp_ne (tgt := 84) F (dAt dk_X6_blows 45 rfl) (by decide) h (fun c14 h => ?_) (fun c14 h => ?_)
      · refine g_iload_n F (dAt dk_X6_blows 49 rfl) 5 rfl ?_
        refine g_iconst (v := 5) F (dAt dk_X6_blows 50 rfl) (by decide) ?_
        refine g_icmp_ne (tgt := 96) F (dAt dk_X6_blows 51 rfl) (by decide) h (fun c15 h => ?_) (fun c15 h => ?_)
        · refine g_iload F (dAt dk_X6_blows 56 rfl) 0 rfl ?_
          cases h
          exact E (dAt dk_X6_blows 57 rfl) rfl
        · refine g_iload F (dAt dk_X6_blows 52 rfl) 0 rfl ?_
          refine g_iconst (v := 5) F (dAt dk_X6_blows 53 rfl) (by decide) ?_
          refine g_ixor F (dAt dk_X6_blows 54 rfl) ?_
          refine g_goto (tgt := 98) F (dAt dk_X6_blows 55 rfl) (by decide) ?_
          cases h
          exact E (dAt dk_X6_blows 57 rfl) rfl
      · refine g_iload F (dAt dk_X6_blows 46 rfl) 0 rfl ?_
        refine g_ineg F (dAt dk_X6_blows 47 rfl) ?_
        refine g_goto (tgt := 98) F (dAt dk_X6_blows 48 rfl) (by decide) ?_
        cases h
        exact E (dAt dk_X6_blows 57 rfl) rfl
  have J24 : ∀ (v3 : Int32) (u0 : Mem), jn_X6_blows_24 x1 x2 v3 u0 = some (r, u') → G X D ad g t u0 [(0, .ref (ad 39)), (1, .int x1), (2, .int x2), (3, .int v3)] 24 [] := by
    intro v3 u0 h
    unfold jn_X6_blows_24 at h
    refine g_iload_n F (dAt dk_X6_blows 14 rfl) 3 rfl ?_
    refine g_iconst (v := 5) F (dAt dk_X6_blows 15 rfl) (by decide) ?_
    refine g_icmp_ne (tgt := 35) F (dAt dk_X6_blows 16 rfl) (by decide) h (fun c5 h => ?_) (fun c5 h => ?_)
    · refine g_sub (lv' := [(0, .ref (ad 39)), (1, .int x1), (2, .int x2), (3, .int v3)]) [0, 1, 2, 3] rfl ?_
      exact J35  v3 u0 h
    · refine g_aload_n F (dAt dk_X6_blows 17 rfl) 0 rfl ?_
      refine g_bipush (v := 60) F (dAt dk_X6_blows 18 rfl) (by decide) ?_
      refine g_invV_vm F mi_X6_ran (gm mw_1271 rfl) (dAt dk_X6_blows 19 rfl) (rcx_of F rc_Model) [.int 60] rfl rfl (by decide) (Nat.le_of_ble_eq_true rfl) h (fun _ _ hf => c_X6_ran hJ hf) (fun _ t6 h => ?_)
      refine g_sub (lv' := [(0, .ref (ad 39)), (1, .int x1), (2, .int x2), (3, .int v3)]) [0, 1, 2, 3] rfl ?_
      exact J35  v3 t6 h
  have J18 : ∀ (v3 : Int32) (u0 : Mem), jn_X6_blows_18 x1 x2 v3 u0 = some (r, u') → G X D ad g t u0 [(0, .ref (ad 39)), (1, .int x1), (2, .int x2), (3, .int v3)] 18 [] := by
    intro v3 u0 h
    unfold jn_X6_blows_18 at h
    refine g_aload_n F (dAt dk_X6_blows 11 rfl) 0 rfl ?_
    refine g_bipush (v := 50) F (dAt dk_X6_blows 12 rfl) (by decide) ?_
    refine g_invV_vm F mi_X6_ran (gm mw_1271 rfl) (dAt dk_X6_blows 13 rfl) (rcx_of F rc_Model) [.int 50] rfl rfl (by decide) (Nat.le_of_ble_eq_true rfl) h (fun _ _ hf => c_X6_ran hJ hf) (fun _ t4 h => ?_)
    refine g_sub (lv' := [(0, .ref (ad 39)), (1, .int x1), (2, .int x2), (3, .int v3)]) [0, 1, 2, 3] rfl ?_
    exact J24  v3 t4 h
  refine g_lv (lv' := [(0, .ref (ad 39)), (1, .int x1), (2, .int x2)]) rfl ?_
  unfold f_X6_blows at h
  refine g_aload_n F (dAt dk_X6_blows 0 rfl) 0 rfl ?_
  refine gg_Model_kind F (gm mw_868 rfl) (dAt dk_X6_blows 1 rfl) ?_
  refine g_iload_n F (dAt dk_X6_blows 2 rfl) 1 rfl ?_
  refine g_ck h (fun hi1 h => ?_)
  refine g_ialoadm F am_kind (dAt dk_X6_blows 3 rfl) hi1 ?_
  refine g_istore_n (lv' := [(3, .int (u.1 43 x1.toNatClampNeg)), (0, .ref (ad 39)), (1, .int x1), (2, .int x2)]) F (dAt dk_X6_blows 4 rfl) (by decide) rfl ?_
  refine g_iload_n F (dAt dk_X6_blows 5 rfl) 0 rfl ?_
  refine g_iconst (v := 4) F (dAt dk_X6_blows 6 rfl) (by decide) ?_
  refine g_icmp_eq (tgt := 18) F (dAt dk_X6_blows 7 rfl) (by decide) h (fun c2 h => ?_) (fun c2 h => ?_)
  · refine g_sub (lv' := [(0, .ref (ad 39)), (1, .int x1), (2, .int x2), (3, .int (u.1 43 x1.toNatClampNeg))]) [1, 2, 3, 0] rfl ?_
    exact J18  (u.1 43 x1.toNatClampNeg) u h
  · refine g_iload_n F (dAt dk_X6_blows 8 rfl) 0 rfl ?_
    refine g_bipush (v := 6) F (dAt dk_X6_blows 9 rfl) (by decide) ?_
    refine g_icmp_ne (tgt := 24) F (dAt dk_X6_blows 10 rfl) (by decide) h (fun c3 h => ?_) (fun c3 h => ?_)
    · refine g_sub (lv' := [(0, .ref (ad 39)), (1, .int x1), (2, .int x2), (3, .int (u.1 43 x1.toNatClampNeg))]) [1, 2, 3, 0] rfl ?_
      exact J24  (u.1 43 x1.toNatClampNeg) u h
    · refine g_sub (lv' := [(0, .ref (ad 39)), (1, .int x1), (2, .int x2), (3, .int (u.1 43 x1.toNatClampNeg))]) [1, 2, 3, 0] rfl ?_
      exact J18  (u.1 43 x1.toNatClampNeg) u h
theorem mi_X6_act : MI yX6_act cX6_act 4 (some .int) "MillOfDistancesModel" 3 := ⟨(gm mw_1266 rfl), (gm mw_1264 rfl), (gm mw_1265 rfl), (gm mw_75 rfl), by decide +kernel, by decide⟩
theorem c_X6_act {l : Launch} {D : va_G} {ad : Nat → Nat} {g : Gv} {t u : Mem} {x1 : Int32} {x2 : Int32} {x3 : Int32} {u' : Mem} {r : Int32} (hJ : Jad ad) (h : f_X6_act x1 x2 x3 u = some (r, u')) : ConI l yX6_act cX6_act 4 (some .int) 4 [.ref (ad 39), .int x1, .int x2, .int x3] D ad g t u t u' r := by
  refine con_i hJ (by decide) (Nat.le_of_ble_eq_true rfl) rfl (fun X F E => ?_)
  refine g_lv (lv' := [(0, .ref (ad 39)), (1, .int x1), (2, .int x2), (3, .int x3)]) rfl ?_
  unfold f_X6_act at h
  refine g_aload_n F (dAt dk_X6_act 0 rfl) 0 rfl ?_
  refine g_iconst (v := 0) F (dAt dk_X6_act 1 rfl) (by decide) ?_
  refine gp_Model_traced F (gm mw_876 rfl) (dAt dk_X6_act 2 rfl) ?_
  refine g_ltu h (fun t1 h => ?_)
  refine g_aload_n F (dAt dk_X6_act 3 rfl) 0 rfl ?_
  refine g_iload_n F (dAt dk_X6_act 4 rfl) 1 rfl ?_
  refine g_invV_im F mi_X6_isPlace (gm mw_966 rfl) (dAt dk_X6_act 5 rfl) (rcx_of F rc_Model) [.int x1] rfl rfl (by decide) (Nat.le_of_ble_eq_true rfl) h (fun _ _ hf => c_X6_isPlace hJ hf) (fun r2 t3 h => ?_)
  refine g_if_eq (tgt := 22) F (dAt dk_X6_act 6 rfl) (by decide) h (fun c4 h => ?_) (fun c4 h => ?_)
  · refine g_iconst (v := 0) F (dAt dk_X6_act 12 rfl) (by decide) ?_
    cases h
    exact E (dAt dk_X6_act 13 rfl) rfl
  · refine g_iload_n F (dAt dk_X6_act 7 rfl) 2 rfl ?_
    refine g_iconst (v := 0) F (dAt dk_X6_act 8 rfl) (by decide) ?_
    refine g_iconst (v := 2) F (dAt dk_X6_act 9 rfl) (by decide) ?_
    refine g_invS_ip F ms_X6_within (gm mw_935 rfl) (dAt dk_X6_act 10 rfl) [.int x2, .int 0, .int 2] rfl rfl (by decide) (Nat.le_of_ble_eq_true rfl) h (fun _ hf => c_X6_within hJ hf) (fun r5 h => ?_)
    refine g_if_ne (tgt := 24) F (dAt dk_X6_act 11 rfl) (by decide) h (fun c6 h => ?_) (fun c6 h => ?_)
    · refine g_iload_n F (dAt dk_X6_act 14 rfl) 2 rfl ?_
      refine g_if_ne (tgt := 37) F (dAt dk_X6_act 15 rfl) (by decide) h (fun c7 h => ?_) (fun c7 h => ?_)
      · refine g_iload_n F (dAt dk_X6_act 21 rfl) 2 rfl ?_
        refine g_iconst (v := 1) F (dAt dk_X6_act 22 rfl) (by decide) ?_
        refine g_icmp_ne (tgt := 51) F (dAt dk_X6_act 23 rfl) (by decide) h (fun c8 h => ?_) (fun c8 h => ?_)
        · refine g_aload_n F (dAt dk_X6_act 29 rfl) 0 rfl ?_
          refine g_iload_n F (dAt dk_X6_act 30 rfl) 1 rfl ?_
          refine g_iload_n F (dAt dk_X6_act 31 rfl) 3 rfl ?_
          refine g_invV_im F mi_X6_blows (gm mw_1279 rfl) (dAt dk_X6_act 32 rfl) (rcx_of F rc_Model) [.int x1, .int x3] rfl rfl (by decide) (Nat.le_of_ble_eq_true rfl) h (fun _ _ hf => c_X6_blows hJ hf) (fun r9 t10 h => ?_)
          cases h
          exact E (dAt dk_X6_act 33 rfl) rfl
        · refine g_aload_n F (dAt dk_X6_act 24 rfl) 0 rfl ?_
          refine g_iload_n F (dAt dk_X6_act 25 rfl) 1 rfl ?_
          refine g_iload_n F (dAt dk_X6_act 26 rfl) 3 rfl ?_
          refine g_invV_im F mi_X6_strews (gm mw_1275 rfl) (dAt dk_X6_act 27 rfl) (rcx_of F rc_Model) [.int x1, .int x3] rfl rfl (by decide) (Nat.le_of_ble_eq_true rfl) h (fun _ _ hf => c_X6_strews hJ hf) (fun r11 t12 h => ?_)
          refine g_goto (tgt := 57) F (dAt dk_X6_act 28 rfl) (by decide) ?_
          cases h
          exact E (dAt dk_X6_act 33 rfl) rfl
      · refine g_aload_n F (dAt dk_X6_act 16 rfl) 0 rfl ?_
        refine g_iload_n F (dAt dk_X6_act 17 rfl) 1 rfl ?_
        refine g_iload_n F (dAt dk_X6_act 18 rfl) 3 rfl ?_
        refine g_invV_im F mi_X6_grinds (gm mw_1267 rfl) (dAt dk_X6_act 19 rfl) (rcx_of F rc_Model) [.int x1, .int x3] rfl rfl (by decide) (Nat.le_of_ble_eq_true rfl) h (fun _ _ hf => c_X6_grinds hJ hf) (fun r13 t14 h => ?_)
        refine g_goto (tgt := 57) F (dAt dk_X6_act 20 rfl) (by decide) ?_
        cases h
        exact E (dAt dk_X6_act 33 rfl) rfl
    · refine g_iconst (v := 0) F (dAt dk_X6_act 12 rfl) (by decide) ?_
      cases h
      exact E (dAt dk_X6_act 13 rfl) rfl
theorem mi_X6_trace : MI yX6_trace cX6_trace 2 (some .int) "MillOfDistancesModel" 1 := ⟨(gm mw_1286 rfl), (gm mw_1284 rfl), (gm mw_1285 rfl), (gm mw_75 rfl), by decide +kernel, by decide⟩
theorem c_X6_trace {l : Launch} {D : va_G} {ad : Nat → Nat} {g : Gv} {t u : Mem} {x1 : Int32} {u' : Mem} {r : Int32} (hJ : Jad ad) (h : f_X6_trace x1 u = some (r, u')) : ConI l yX6_trace cX6_trace 2 (some .int) 0 [.ref (ad 39), .int x1] D ad g t u t u' r := by
  refine con_i hJ (by decide) (Nat.le_of_ble_eq_true rfl) rfl (fun X F E => ?_)
  refine g_lv (lv' := [(0, .ref (ad 39)), (1, .int x1)]) rfl ?_
  unfold f_X6_trace at h
  refine g_iload_n F (dAt dk_X6_trace 0 rfl) 1 rfl ?_
  refine g_if_lt (tgt := 27) F (dAt dk_X6_trace 1 rfl) (by decide) h (fun c1 h => ?_) (fun c1 h => ?_)
  · refine g_iconst (v := (-1)) F (dAt dk_X6_trace 14 rfl) (by decide) ?_
    cases h
    exact E (dAt dk_X6_trace 15 rfl) rfl
  · refine g_iload_n F (dAt dk_X6_trace 2 rfl) 1 rfl ?_
    refine g_aload_n F (dAt dk_X6_trace 3 rfl) 0 rfl ?_
    refine gg_Model_traced F (gm mw_876 rfl) (dAt dk_X6_trace 4 rfl) ?_
    refine g_icmp_ge (tgt := 27) F (dAt dk_X6_trace 5 rfl) (by decide) h (fun c2 h => ?_) (fun c2 h => ?_)
    · refine g_iconst (v := (-1)) F (dAt dk_X6_trace 14 rfl) (by decide) ?_
      cases h
      exact E (dAt dk_X6_trace 15 rfl) rfl
    · refine g_iload_n F (dAt dk_X6_trace 6 rfl) 1 rfl ?_
      refine g_bipush (v := 20) F (dAt dk_X6_trace 7 rfl) (by decide) ?_
      refine g_icmp_ge (tgt := 27) F (dAt dk_X6_trace 8 rfl) (by decide) h (fun c3 h => ?_) (fun c3 h => ?_)
      · refine g_iconst (v := (-1)) F (dAt dk_X6_trace 14 rfl) (by decide) ?_
        cases h
        exact E (dAt dk_X6_trace 15 rfl) rfl
      · refine g_aload_n F (dAt dk_X6_trace 9 rfl) 0 rfl ?_
        refine gg_Model_traces F (gm mw_877 rfl) (dAt dk_X6_trace 10 rfl) ?_
        refine g_iload_n F (dAt dk_X6_trace 11 rfl) 1 rfl ?_
        refine g_ck h (fun hi4 h => ?_)
        refine g_ialoadm F am_traces (dAt dk_X6_trace 12 rfl) hi4 ?_
        refine g_goto (tgt := 28) F (dAt dk_X6_trace 13 rfl) (by decide) ?_
        cases h
        exact E (dAt dk_X6_trace 15 rfl) rfl
theorem mi_X6_image : MI yX6_image cX6_image 1 (some .int) "MillOfDistancesModel" 0 := ⟨(gm mw_1290 rfl), (gm mw_1288 rfl), (gm mw_1289 rfl), (gm mw_75 rfl), by decide +kernel, by decide⟩
theorem c_X6_image {l : Launch} {D : va_G} {ad : Nat → Nat} {g : Gv} {t u : Mem} {n : Nat}  {u' : Mem} {r : Int32} (hJ : Jad ad) (h : f_X6_image n u = some (r, u')) : ConI l yX6_image cX6_image 1 (some .int) 1 [.ref (ad 39)] D ad g t u t u' r := by
  refine con_i hJ (by decide) (Nat.le_of_ble_eq_true rfl) rfl (fun X F E => ?_)
  refine g_lv (lv' := [(0, .ref (ad 39))]) rfl ?_
  unfold f_X6_image at h
  refine g_aload_n F (dAt dk_X6_image 0 rfl) 0 rfl ?_
  refine g_iconst (v := 1) F (dAt dk_X6_image 1 rfl) (by decide) ?_
  refine gp_Model_imaged F rfl rfl (gm mw_878 rfl) (dAt dk_X6_image 2 rfl) ?_
  refine g_ltu h (fun t1 h => ?_)
  refine g_aload_n F (dAt dk_X6_image 3 rfl) 0 rfl ?_
  refine g_aload_n F (dAt dk_X6_image 4 rfl) 0 rfl ?_
  refine gg_Model_old F (gm mw_879 rfl) (dAt dk_X6_image 5 rfl) ?_
  refine g_invV_vm F mi_X6_keep (gm mw_1031 rfl) (dAt dk_X6_image 6 rfl) (rcx_of F rc_Model) [.ref (ad (oKp 0))] rfl rfl (by decide) (Nat.le_of_ble_eq_true rfl) h (fun _ _ hf => c_X6_keep hJ hf) (fun _ t2 h => ?_)
  refine g_aload_n F (dAt dk_X6_image 7 rfl) 0 rfl ?_
  refine gg_Model_places F (gm mw_867 rfl) (dAt dk_X6_image 8 rfl) ?_
  cases h
  exact E (dAt dk_X6_image 9 rfl) rfl
theorem mi_X6_restore : MI yX6_restore cX6_restore 2 (some .int) "MillOfDistancesModel" 0 := ⟨(gm mw_1294 rfl), (gm mw_1292 rfl), (gm mw_1293 rfl), (gm mw_75 rfl), by decide +kernel, by decide⟩
theorem c_X6_restore {l : Launch} {D : va_G} {ad : Nat → Nat} {g : Gv} {t u : Mem} {n : Nat}  {u' : Mem} {r : Int32} (hJ : Jad ad) (h : f_X6_restore n u = some (r, u')) : ConI l yX6_restore cX6_restore 2 (some .int) 1 [.ref (ad 39)] D ad g t u t u' r := by
  refine con_i hJ (by decide) (Nat.le_of_ble_eq_true rfl) rfl (fun X F E => ?_)
  have H24 : ∀ (k : Nat) (s : Int32 × Mem), iter (bd_X6_restore_24 n) k s = some (r, u') → G X D ad g t s.2 [(0, .ref (ad 39)), (1, .int s.1)] 24 [] := by
    refine iter_walk (P := fun (s : Int32 × Mem) => G X D ad g t s.2 [(0, .ref (ad 39)), (1, .int s.1)] 24 []) (fun self24 ih24 s h => ?_)
    obtain ⟨v1, u0⟩ := s
    change G X D ad g t u0 [(0, .ref (ad 39)), (1, .int v1)] 24 []
    unfold bd_X6_restore_24 at h; try dsimp only at h
    refine g_iload_n F (dAt dk_X6_restore 13 rfl) 1 rfl ?_
    refine g_bipush (v := 8) F (dAt dk_X6_restore 14 rfl) (by decide) ?_
    refine g_icmp_ge (tgt := 64) F (dAt dk_X6_restore 15 rfl) (by decide) h (fun c5 h => ?_) (fun c5 h => ?_)
    · refine g_aload_n F (dAt dk_X6_restore 34 rfl) 0 rfl ?_
      refine gg_Model_places F (gm mw_867 rfl) (dAt dk_X6_restore 35 rfl) ?_
      cases h
      exact E (dAt dk_X6_restore 36 rfl) rfl
    · refine g_aload_n F (dAt dk_X6_restore 16 rfl) 0 rfl ?_
      refine g_iload_n F (dAt dk_X6_restore 17 rfl) 1 rfl ?_
      refine g_invV_im F mi_X6_isRow (gm mw_950 rfl) (dAt dk_X6_restore 18 rfl) (rcx_of F rc_Model) [.int v1] rfl rfl (by decide) (Nat.le_of_ble_eq_true rfl) h (fun _ _ hf => c_X6_isRow hJ hf) (fun r6 t7 h => ?_)
      refine g_if_ne (tgt := 58) F (dAt dk_X6_restore 19 rfl) (by decide) h (fun c8 h => ?_) (fun c8 h => ?_)
      · refine g_iinc (lv' := [(1, .int (v1 + 1)), (0, .ref (ad 39))]) F (dAt dk_X6_restore 32 rfl) 1 rfl (w := 1) (by decide) (by decide) rfl ?_
        refine g_goto (tgt := 24) F (dAt dk_X6_restore 33 rfl) (by decide) ?_
        refine g_sub (lv' := [(0, .ref (ad 39)), (1, .int (v1 + 1))]) [1, 0] rfl ?_
        exact ih24 ((v1 + 1), t7) h
      · refine g_aload_n F (dAt dk_X6_restore 20 rfl) 0 rfl ?_
        refine gg_Model_holding F (gm mw_864 rfl) (dAt dk_X6_restore 21 rfl) ?_
        refine g_iload_n F (dAt dk_X6_restore 22 rfl) 1 rfl ?_
        refine g_ck h (fun hi9 h => ?_)
        refine g_ialoadm F am_holding (dAt dk_X6_restore 23 rfl) hi9 ?_
        refine g_aload_n F (dAt dk_X6_restore 24 rfl) 0 rfl ?_
        refine gg_Model_places F (gm mw_867 rfl) (dAt dk_X6_restore 25 rfl) ?_
        refine g_icmp_lt (tgt := 58) F (dAt dk_X6_restore 26 rfl) (by decide) h (fun c10 h => ?_) (fun c10 h => ?_)
        · refine g_iinc (lv' := [(1, .int (v1 + 1)), (0, .ref (ad 39))]) F (dAt dk_X6_restore 32 rfl) 1 rfl (w := 1) (by decide) (by decide) rfl ?_
          refine g_goto (tgt := 24) F (dAt dk_X6_restore 33 rfl) (by decide) ?_
          refine g_sub (lv' := [(0, .ref (ad 39)), (1, .int (v1 + 1))]) [1, 0] rfl ?_
          exact ih24 ((v1 + 1), t7) h
        · refine g_aload_n F (dAt dk_X6_restore 27 rfl) 0 rfl ?_
          refine gg_Model_holding F (gm mw_864 rfl) (dAt dk_X6_restore 28 rfl) ?_
          refine g_iload_n F (dAt dk_X6_restore 29 rfl) 1 rfl ?_
          refine g_iconst (v := (-1)) F (dAt dk_X6_restore 30 rfl) (by decide) ?_
          refine g_ck h (fun hi11 h => ?_)
          refine g_iastorem F am_holding (dAt dk_X6_restore 31 rfl) hi11 ?_
          refine g_ltu h (fun t12 h => ?_)
          refine g_iinc (lv' := [(1, .int (v1 + 1)), (0, .ref (ad 39))]) F (dAt dk_X6_restore 32 rfl) 1 rfl (w := 1) (by decide) (by decide) rfl ?_
          refine g_goto (tgt := 24) F (dAt dk_X6_restore 33 rfl) (by decide) ?_
          refine g_sub (lv' := [(0, .ref (ad 39)), (1, .int (v1 + 1))]) [1, 0] rfl ?_
          exact ih24 ((v1 + 1), t12) h
  refine g_lv (lv' := [(0, .ref (ad 39))]) rfl ?_
  unfold f_X6_restore at h
  refine g_aload_n F (dAt dk_X6_restore 0 rfl) 0 rfl ?_
  refine gg_Model_imaged F (gm mw_878 rfl) (dAt dk_X6_restore 1 rfl) ?_
  refine g_if_ne (tgt := 14) F (dAt dk_X6_restore 2 rfl) (by decide) h (fun c1 h => ?_) (fun c1 h => ?_)
  · refine g_aload_n F (dAt dk_X6_restore 7 rfl) 0 rfl ?_
    refine g_aload_n F (dAt dk_X6_restore 8 rfl) 0 rfl ?_
    refine gg_Model_old F (gm mw_879 rfl) (dAt dk_X6_restore 9 rfl) ?_
    refine g_invV_vm F mi_X6_again (gm mw_1098 rfl) (dAt dk_X6_restore 10 rfl) (rcx_of F rc_Model) [.ref (ad (oKp 0))] rfl rfl (by decide) (Nat.le_of_ble_eq_true rfl) h (fun _ _ hf => c_X6_again hJ hf) (fun _ t2 h => ?_)
    refine g_iconst (v := 0) F (dAt dk_X6_restore 11 rfl) (by decide) ?_
    refine g_istore_n (lv' := [(1, .int 0), (0, .ref (ad 39))]) F (dAt dk_X6_restore 12 rfl) (by decide) rfl ?_
    refine g_sub (lv' := [(0, .ref (ad 39)), (1, .int 0)]) [1, 0] rfl ?_
    exact H24  n (0, t2) h
  · refine g_aload_n F (dAt dk_X6_restore 3 rfl) 0 rfl ?_
    refine g_bipush (v := (-6)) F (dAt dk_X6_restore 4 rfl) (by decide) ?_
    refine g_invV_im F mi_X6_no (gm mw_938 rfl) (dAt dk_X6_restore 5 rfl) (rcx_of F rc_Model) [.int (-6)] rfl rfl (by decide) (Nat.le_of_ble_eq_true rfl) h (fun _ _ hf => c_X6_no hJ hf) (fun r3 t4 h => ?_)
    cases h
    exact E (dAt dk_X6_restore 6 rfl) rfl
theorem mi_X6_status : MI yX6_status cX6_status 4 (some .int) "MillOfDistancesModel" 1 := ⟨(gm mw_1298 rfl), (gm mw_1296 rfl), (gm mw_1297 rfl), (gm mw_75 rfl), by decide +kernel, by decide⟩
theorem c_X6_status {l : Launch} {D : va_G} {ad : Nat → Nat} {g : Gv} {t u : Mem} {n : Nat} {x1 : Int32} {u' : Mem} {r : Int32} (hJ : Jad ad) (h : f_X6_status n x1 u = some (r, u')) : ConI l yX6_status cX6_status 4 (some .int) 1 [.ref (ad 39), .int x1] D ad g t u t u' r := by
  refine con_i hJ (by decide) (Nat.le_of_ble_eq_true rfl) rfl (fun X F E => ?_)
  have H51 : ∀ (k : Nat) (s : Int32 × Int32 × Mem), iter (bd_X6_status_51 n x1) k s = some (r, u') → G X D ad g t s.2.2 [(0, .ref (ad 39)), (2, .int s.1), (3, .int s.2.1)] 51 [] := by
    refine iter_walk (P := fun (s : Int32 × Int32 × Mem) => G X D ad g t s.2.2 [(0, .ref (ad 39)), (2, .int s.1), (3, .int s.2.1)] 51 []) (fun self51 ih51 s h => ?_)
    obtain ⟨v2, v3, u0⟩ := s
    change G X D ad g t u0 [(0, .ref (ad 39)), (2, .int v2), (3, .int v3)] 51 []
    unfold bd_X6_status_51 at h; try dsimp only at h
    refine g_iload_n F (dAt dk_X6_status 9 rfl) 2 rfl ?_
    refine g_bipush (v := 64) F (dAt dk_X6_status 10 rfl) (by decide) ?_
    refine g_icmp_ge (tgt := 75) F (dAt dk_X6_status 11 rfl) (by decide) h (fun c11 h => ?_) (fun c11 h => ?_)
    · refine g_iload_n F (dAt dk_X6_status 20 rfl) 1 rfl ?_
      refine g_iconst (v := 2) F (dAt dk_X6_status 21 rfl) (by decide) ?_
      refine g_idiv F (dAt dk_X6_status 22 rfl) (by decide) ?_
      cases h
      exact E (dAt dk_X6_status 23 rfl) rfl
    · refine g_aload_n F (dAt dk_X6_status 12 rfl) 0 rfl ?_
      refine gg_Model_miles F (gm mw_870 rfl) (dAt dk_X6_status 13 rfl) ?_
      refine g_iload_n F (dAt dk_X6_status 14 rfl) 2 rfl ?_
      refine g_ck h (fun hi12 h => ?_)
      refine g_ialoadm F am_miles (dAt dk_X6_status 15 rfl) hi12 ?_
      refine g_if_le (tgt := 69) F (dAt dk_X6_status 16 rfl) (by decide) h (fun c13 h => ?_) (fun c13 h => ?_)
      · refine g_iinc (lv' := [(3, .int (v3 + 1)), (0, .ref (ad 39)), (2, .int v2)]) F (dAt dk_X6_status 18 rfl) 2 rfl (w := 1) (by decide) (by decide) rfl ?_
        refine g_goto (tgt := 51) F (dAt dk_X6_status 19 rfl) (by decide) ?_
        refine g_sub (lv' := [(0, .ref (ad 39)), (2, .int v2), (3, .int (v3 + 1))]) [1, 2, 0] rfl ?_
        exact ih51 (v2, (v3 + 1), u0) h
      · refine g_iinc (lv' := [(2, .int (v2 + 1)), (0, .ref (ad 39)), (3, .int v3)]) F (dAt dk_X6_status 17 rfl) 1 rfl (w := 1) (by decide) (by decide) rfl ?_
        refine g_iinc (lv' := [(3, .int (v3 + 1)), (2, .int (v2 + 1)), (0, .ref (ad 39))]) F (dAt dk_X6_status 18 rfl) 2 rfl (w := 1) (by decide) (by decide) rfl ?_
        refine g_goto (tgt := 51) F (dAt dk_X6_status 19 rfl) (by decide) ?_
        refine g_sub (lv' := [(0, .ref (ad 39)), (2, .int (v2 + 1)), (3, .int (v3 + 1))]) [2, 1, 0] rfl ?_
        exact ih51 ((v2 + 1), (v3 + 1), u0) h
  have H81 : ∀ (k : Nat) (s : Int32 × Int32 × Mem), iter (bd_X6_status_81 n x1) k s = some (r, u') → G X D ad g t s.2.2 [(0, .ref (ad 39)), (2, .int s.1), (3, .int s.2.1)] 81 [] := by
    refine iter_walk (P := fun (s : Int32 × Int32 × Mem) => G X D ad g t s.2.2 [(0, .ref (ad 39)), (2, .int s.1), (3, .int s.2.1)] 81 []) (fun self81 ih81 s h => ?_)
    obtain ⟨v2, v3, u0⟩ := s
    change G X D ad g t u0 [(0, .ref (ad 39)), (2, .int v2), (3, .int v3)] 81 []
    unfold bd_X6_status_81 at h; try dsimp only at h
    refine g_iload_n F (dAt dk_X6_status 26 rfl) 2 rfl ?_
    refine g_bipush (v := 64) F (dAt dk_X6_status 27 rfl) (by decide) ?_
    refine g_icmp_ge (tgt := 102) F (dAt dk_X6_status 28 rfl) (by decide) h (fun c14 h => ?_) (fun c14 h => ?_)
    · refine g_iload_n F (dAt dk_X6_status 38 rfl) 1 rfl ?_
      refine g_iconst (v := 2) F (dAt dk_X6_status 39 rfl) (by decide) ?_
      refine g_idiv F (dAt dk_X6_status 40 rfl) (by decide) ?_
      cases h
      exact E (dAt dk_X6_status 41 rfl) rfl
    · refine g_iload_n F (dAt dk_X6_status 29 rfl) 1 rfl ?_
      refine g_aload_n F (dAt dk_X6_status 30 rfl) 0 rfl ?_
      refine gg_Model_miles F (gm mw_870 rfl) (dAt dk_X6_status 31 rfl) ?_
      refine g_iload_n F (dAt dk_X6_status 32 rfl) 2 rfl ?_
      refine g_ck h (fun hi15 h => ?_)
      refine g_ialoadm F am_miles (dAt dk_X6_status 33 rfl) hi15 ?_
      refine g_iadd F (dAt dk_X6_status 34 rfl) ?_
      refine g_lti h (fun y16 h => ?_)
      refine g_istore_n (lv' := [(2, .int y16), (0, .ref (ad 39)), (3, .int v3)]) F (dAt dk_X6_status 35 rfl) (by decide) rfl ?_
      refine g_iinc (lv' := [(3, .int (v3 + 1)), (2, .int y16), (0, .ref (ad 39))]) F (dAt dk_X6_status 36 rfl) 2 rfl (w := 1) (by decide) (by decide) rfl ?_
      refine g_goto (tgt := 81) F (dAt dk_X6_status 37 rfl) (by decide) ?_
      refine g_sub (lv' := [(0, .ref (ad 39)), (2, .int y16), (3, .int (v3 + 1))]) [2, 1, 0] rfl ?_
      exact ih81 (y16, (v3 + 1), u0) h
  refine g_lv (lv' := [(0, .ref (ad 39)), (1, .int x1)]) rfl ?_
  unfold f_X6_status at h
  refine g_iconst (v := 0) F (dAt dk_X6_status 0 rfl) (by decide) ?_
  refine g_istore_n (lv' := [(2, .int 0), (0, .ref (ad 39)), (1, .int x1)]) F (dAt dk_X6_status 1 rfl) (by decide) rfl ?_
  refine g_iload_n F (dAt dk_X6_status 2 rfl) 2 rfl ?_
  refine g_case 0 h (fun c1 h => ?_) (fun c1 h => ?_)
  · refine g_tabIn (v := 0) (tgt := 44) (off := 41) F (dAt dk_X6_status 3 rfl) c1 (by decide) (by decide) rfl (by decide) ?_
    refine g_aload_n F (dAt dk_X6_status 4 rfl) 1 rfl ?_
    refine gg_Model_places F (gm mw_867 rfl) (dAt dk_X6_status 5 rfl) ?_
    cases h
    exact E (dAt dk_X6_status 6 rfl) rfl
  · refine g_case 1 h (fun c2 h => ?_) (fun c2 h => ?_)
    · refine g_tabIn (v := 1) (tgt := 49) (off := 46) F (dAt dk_X6_status 3 rfl) c2 (by decide) (by decide) rfl (by decide) ?_
      refine g_iconst (v := 0) F (dAt dk_X6_status 7 rfl) (by decide) ?_
      refine g_istore_n (lv' := [(3, .int 0), (2, .int 0), (0, .ref (ad 39)), (1, .int x1)]) F (dAt dk_X6_status 8 rfl) (by decide) rfl ?_
      refine g_sub (lv' := [(0, .ref (ad 39)), (2, .int 0), (3, .int 0)]) [2, 1, 0] rfl ?_
      exact H51  n (0, 0, u) h
    · refine g_case 2 h (fun c3 h => ?_) (fun c3 h => ?_)
      · refine g_tabIn (v := 2) (tgt := 79) (off := 76) F (dAt dk_X6_status 3 rfl) c3 (by decide) (by decide) rfl (by decide) ?_
        refine g_iconst (v := 0) F (dAt dk_X6_status 24 rfl) (by decide) ?_
        refine g_istore_n (lv' := [(3, .int 0), (2, .int 0), (0, .ref (ad 39)), (1, .int x1)]) F (dAt dk_X6_status 25 rfl) (by decide) rfl ?_
        refine g_sub (lv' := [(0, .ref (ad 39)), (2, .int 0), (3, .int 0)]) [2, 1, 0] rfl ?_
        exact H81  n (0, 0, u) h
      · refine g_case 3 h (fun c4 h => ?_) (fun c4 h => ?_)
        · refine g_tabIn (v := 3) (tgt := 106) (off := 103) F (dAt dk_X6_status 3 rfl) c4 (by decide) (by decide) rfl (by decide) ?_
          refine g_aload_n F (dAt dk_X6_status 42 rfl) 1 rfl ?_
          refine gg_Model_flour F (gm mw_871 rfl) (dAt dk_X6_status 43 rfl) ?_
          cases h
          exact E (dAt dk_X6_status 44 rfl) rfl
        · refine g_case 4 h (fun c5 h => ?_) (fun c5 h => ?_)
          · refine g_tabIn (v := 4) (tgt := 111) (off := 108) F (dAt dk_X6_status 3 rfl) c5 (by decide) (by decide) rfl (by decide) ?_
            refine g_aload_n F (dAt dk_X6_status 45 rfl) 1 rfl ?_
            refine gg_Model_wind F (gm mw_872 rfl) (dAt dk_X6_status 46 rfl) ?_
            cases h
            exact E (dAt dk_X6_status 47 rfl) rfl
          · refine g_case 5 h (fun c6 h => ?_) (fun c6 h => ?_)
            · refine g_tabIn (v := 5) (tgt := 116) (off := 113) F (dAt dk_X6_status 3 rfl) c6 (by decide) (by decide) rfl (by decide) ?_
              refine g_aload_n F (dAt dk_X6_status 48 rfl) 1 rfl ?_
              refine gg_Model_seed F (gm mw_873 rfl) (dAt dk_X6_status 49 rfl) ?_
              cases h
              exact E (dAt dk_X6_status 50 rfl) rfl
            · refine g_case 6 h (fun c7 h => ?_) (fun c7 h => ?_)
              · refine g_tabIn (v := 6) (tgt := 121) (off := 118) F (dAt dk_X6_status 3 rfl) c7 (by decide) (by decide) rfl (by decide) ?_
                refine g_aload_n F (dAt dk_X6_status 51 rfl) 1 rfl ?_
                refine gg_Model_traced F (gm mw_876 rfl) (dAt dk_X6_status 52 rfl) ?_
                cases h
                exact E (dAt dk_X6_status 53 rfl) rfl
              · have := lv_neT c1 (a := 0) (by decide)
                have := lv_neT c2 (a := 1) (by decide)
                have := lv_neT c3 (a := 2) (by decide)
                have := lv_neT c4 (a := 3) (by decide)
                have := lv_neT c5 (a := 4) (by decide)
                have := lv_neT c6 (a := 5) (by decide)
                have := lv_neT c7 (a := 6) (by decide)
                refine g_tabOut (tgt := 126) F (dAt dk_X6_status 3 rfl) (by omega) (by decide) ?_
                refine g_iload_n F (dAt dk_X6_status 54 rfl) 2 rfl ?_
                refine g_bipush (v := 11) F (dAt dk_X6_status 55 rfl) (by decide) ?_
                refine g_bipush (v := 17) F (dAt dk_X6_status 56 rfl) (by decide) ?_
                refine g_invS_ip F ms_X6_within (gm mw_935 rfl) (dAt dk_X6_status 57 rfl) [.int x1, .int 11, .int 17] rfl rfl (by decide) (Nat.le_of_ble_eq_true rfl) h (fun _ hf => c_X6_within hJ hf) (fun r8 h => ?_)
                refine g_if_eq (tgt := 149) F (dAt dk_X6_status 58 rfl) (by decide) h (fun c9 h => ?_) (fun c9 h => ?_)
                · refine g_iconst (v := (-1)) F (dAt dk_X6_status 66 rfl) (by decide) ?_
                  cases h
                  exact E (dAt dk_X6_status 67 rfl) rfl
                · refine g_aload_n F (dAt dk_X6_status 59 rfl) 1 rfl ?_
                  refine gg_Model_refusals F (gm mw_875 rfl) (dAt dk_X6_status 60 rfl) ?_
                  refine g_iload_n F (dAt dk_X6_status 61 rfl) 2 rfl ?_
                  refine g_bipush (v := 10) F (dAt dk_X6_status 62 rfl) (by decide) ?_
                  refine g_isub F (dAt dk_X6_status 63 rfl) ?_
                  refine g_ck h (fun hi10 h => ?_)
                  refine g_ialoadm F am_refusals (dAt dk_X6_status 64 rfl) hi10 ?_
                  refine g_goto (tgt := 150) F (dAt dk_X6_status 65 rfl) (by decide) ?_
                  cases h
                  exact E (dAt dk_X6_status 67 rfl) rfl
