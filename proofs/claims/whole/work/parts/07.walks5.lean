theorem mi_X5_shelfAt : MI yX5_shelfAt cX5_shelfAt 2 (some (.object "MillOfDistances$Shelf")) "MillOfDistances" 1 := ⟨(gm mw_250 rfl), (gm mw_249 rfl), (gm mw_0 rfl), (gm mw_69 rfl), by decide +kernel, by decide⟩
theorem c_X5_shelfAt {l : Launch} {D : va_G} {ad : Nat → Nat} {g : Gv} {t u : Mem} {x1 : Int32} {t' : Mem} {r : Option (Fin 8)} (hJ : Jad ad) (h : f_X5_shelfAt x1 t = some (r, t')) : ConQ l yX5_shelfAt cX5_shelfAt 2 (some (.object "MillOfDistances$Shelf")) 0 [.ref (ad 0), .int x1] D ad g t u t' u (jv ad r) := by
  refine con_q hJ (by decide) (Nat.le_of_ble_eq_true rfl) rfl (fun X F E => ?_)
  refine g_lv (lv' := [(0, .ref (ad 0)), (1, .int x1)]) rfl ?_
  unfold f_X5_shelfAt at h
  refine g_iload_n F (dAt dk_X5_shelfAt 0 rfl) 1 rfl ?_
  refine g_if_lt (tgt := 19) F (dAt dk_X5_shelfAt 1 rfl) (by decide) h (fun c1 h => ?_) (fun c1 h => ?_)
  · refine g_null F (dAt dk_X5_shelfAt 10 rfl) ?_
    cases h
    exact E (dAt dk_X5_shelfAt 11 rfl)
  · refine g_iload_n F (dAt dk_X5_shelfAt 2 rfl) 1 rfl ?_
    refine g_bipush (v := 8) F (dAt dk_X5_shelfAt 3 rfl) (by decide) ?_
    refine g_icmp_ge (tgt := 19) F (dAt dk_X5_shelfAt 4 rfl) (by decide) h (fun c2 h => ?_) (fun c2 h => ?_)
    · refine g_null F (dAt dk_X5_shelfAt 10 rfl) ?_
      cases h
      exact E (dAt dk_X5_shelfAt 11 rfl)
    · refine g_aload_n F (dAt dk_X5_shelfAt 5 rfl) 0 rfl ?_
      refine gg_Main_shelves F (gm mw_217 rfl) (dAt dk_X5_shelfAt 6 rfl) ?_
      refine g_iload_n F (dAt dk_X5_shelfAt 7 rfl) 1 rfl ?_
      refine g_ck h (fun hi3 h => ?_)
      refine g_aald F (dAt dk_X5_shelfAt 8 rfl) hi3 ?_
      refine g_goto (tgt := 20) F (dAt dk_X5_shelfAt 9 rfl) (by decide) ?_
      cases h
      exact E (dAt dk_X5_shelfAt 11 rfl)
theorem mi_X5_refuse : MI yX5_refuse cX5_refuse 2 (some .int) "MillOfDistances" 1 := ⟨(gm mw_254 rfl), (gm mw_253 rfl), (gm mw_1 rfl), (gm mw_69 rfl), by decide +kernel, by decide⟩
theorem c_X5_refuse {l : Launch} {D : va_G} {ad : Nat → Nat} {g : Gv} {t u : Mem} {x1 : Int32} {t' : Mem} {r : Int32} (hJ : Jad ad) (h : f_X5_refuse x1 t = some (r, t')) : ConI l yX5_refuse cX5_refuse 2 (some .int) 0 [.ref (ad 0), .int x1] D ad g t u t' u r := by
  refine con_i hJ (by decide) (Nat.le_of_ble_eq_true rfl) rfl (fun X F E => ?_)
  refine g_lv (lv' := [(0, .ref (ad 0)), (1, .int x1)]) rfl ?_
  unfold f_X5_refuse at h
  refine g_iload_n F (dAt dk_X5_refuse 0 rfl) 1 rfl ?_
  refine g_bipush (v := (-7)) F (dAt dk_X5_refuse 1 rfl) (by decide) ?_
  refine g_icmp_lt (tgt := 22) F (dAt dk_X5_refuse 2 rfl) (by decide) h (fun c1 h => ?_) (fun c1 h => ?_)
  · refine g_iload_n F (dAt dk_X5_refuse 15 rfl) 1 rfl ?_
    cases h
    exact E (dAt dk_X5_refuse 16 rfl) rfl
  · refine g_iload_n F (dAt dk_X5_refuse 3 rfl) 1 rfl ?_
    refine g_iconst (v := (-1)) F (dAt dk_X5_refuse 4 rfl) (by decide) ?_
    refine g_icmp_gt (tgt := 22) F (dAt dk_X5_refuse 5 rfl) (by decide) h (fun c2 h => ?_) (fun c2 h => ?_)
    · refine g_iload_n F (dAt dk_X5_refuse 15 rfl) 1 rfl ?_
      cases h
      exact E (dAt dk_X5_refuse 16 rfl) rfl
    · refine g_aload_n F (dAt dk_X5_refuse 6 rfl) 0 rfl ?_
      refine gg_Main_refusals F (gm mw_218 rfl) (dAt dk_X5_refuse 7 rfl) ?_
      refine g_iload_n F (dAt dk_X5_refuse 8 rfl) 1 rfl ?_
      refine g_ineg F (dAt dk_X5_refuse 9 rfl) ?_
      refine g_dup2 F (dAt dk_X5_refuse 10 rfl) rfl rfl ?_
      refine g_ck h (fun hi3 h => ?_)
      refine g_ialoadc F ai_refusals (dAt dk_X5_refuse 11 rfl) hi3 ?_
      refine g_iconst (v := 1) F (dAt dk_X5_refuse 12 rfl) (by decide) ?_
      refine g_iadd F (dAt dk_X5_refuse 13 rfl) ?_
      refine g_ck h (fun hi4 h => ?_)
      refine g_iastorec F ai_refusals (dAt dk_X5_refuse 14 rfl) hi4 ?_
      refine g_ltt h (fun t5 h => ?_)
      refine g_iload_n F (dAt dk_X5_refuse 15 rfl) 1 rfl ?_
      cases h
      exact E (dAt dk_X5_refuse 16 rfl) rfl
theorem mi_X5_row : MI yX5_row cX5_row 5 (some .int) "MillOfDistances" 3 := ⟨(gm mw_246 rfl), (gm mw_244 rfl), (gm mw_245 rfl), (gm mw_69 rfl), by decide +kernel, by decide⟩
theorem c_X5_row {l : Launch} {D : va_G} {ad : Nat → Nat} {g : Gv} {t u : Mem} {n : Nat} {x1 : Int32} {x2 : Int32} {x3 : Int32} {t' : Mem} {r : Int32} (hJ : Jad ad) (h : f_X5_row n x1 x2 x3 t = some (r, t')) : ConI l yX5_row cX5_row 5 (some .int) 2 [.ref (ad 0), .int x1, .int x2, .int x3] D ad g t u t' u r := by
  refine con_i hJ (by decide) (Nat.le_of_ble_eq_true rfl) rfl (fun X F E => ?_)
  have J38 : ∀ (t0 : Mem), jn_X5_row_38 n x1 x2 x3 t0 = some (r, t') → G X D ad g t0 u [(0, .ref (ad 0))] 38 [] := by
    intro t0 h
    unfold jn_X5_row_38 at h
    refine g_aload_n F (dAt dk_X5_row 21 rfl) 0 rfl ?_
    refine g_bipush (v := (-6)) F (dAt dk_X5_row 22 rfl) (by decide) ?_
    refine g_invV_ic F mi_X5_refuse (gm mw_251 rfl) (dAt dk_X5_row 23 rfl) (rcx_of F rc_Main) [.int (-6)] rfl rfl (by decide) (Nat.le_of_ble_eq_true rfl) h (fun _ _ hf => c_X5_refuse hJ hf) (fun r15 t16 h => ?_)
    cases h
    exact E (dAt dk_X5_row 24 rfl) rfl
  refine g_lv (lv' := [(0, .ref (ad 0)), (1, .int x1), (2, .int x2), (3, .int x3)]) rfl ?_
  unfold f_X5_row at h
  refine g_aload_n F (dAt dk_X5_row 0 rfl) 0 rfl ?_
  refine g_iload_n F (dAt dk_X5_row 1 rfl) 1 rfl ?_
  refine g_invV_qc (jv ad) F mi_X5_shelfAt (gm mw_247 rfl) (dAt dk_X5_row 2 rfl) (rcx_of F rc_Main) [.int x1] rfl rfl (by decide) (Nat.le_of_ble_eq_true rfl) h (fun _ _ hf => c_X5_shelfAt hJ hf) (fun r1 t2 h => ?_)
  refine g_st (st' := [shv ad r1]) rfl ?_
  refine g_astoreS (lv' := [(4, shv ad r1), (0, .ref (ad 0)), (1, .int x1), (2, .int x2), (3, .int x3)]) F (dAt dk_X5_row 3 rfl) (by decide) rfl ?_
  refine g_aloadS F (dAt dk_X5_row 4 rfl) 0 rfl ?_
  refine g_ifnonnull (tgt := 18) F (dAt dk_X5_row 5 rfl) (by decide) h (fun e hhk3 => ?_) (fun k3 e hhk3 => ?_)
  · subst e
    have h := hhk3
    refine g_lv (lv' := [(4, .null), (0, .ref (ad 0)), (1, .int x1), (2, .int x2), (3, .int x3)]) rfl ?_
    refine g_aload_n F (dAt dk_X5_row 6 rfl) 1 rfl ?_
    refine g_iconst (v := (-1)) F (dAt dk_X5_row 7 rfl) (by decide) ?_
    refine g_invV_ic F mi_X5_refuse (gm mw_251 rfl) (dAt dk_X5_row 8 rfl) (rcx_of F rc_Main) [.int (-1)] rfl rfl (by decide) (Nat.le_of_ble_eq_true rfl) h (fun _ _ hf => c_X5_refuse hJ hf) (fun r4 t5 h => ?_)
    cases h
    exact E (dAt dk_X5_row 9 rfl) rfl
  · subst e
    have h := hhk3
    refine g_lv (lv' := [(4, .ref (ad (oSh k3))), (0, .ref (ad 0)), (1, .int x1), (2, .int x2), (3, .int x3)]) rfl ?_
    refine g_iload_n F (dAt dk_X5_row 10 rfl) 4 rfl ?_
    refine g_if_ge (tgt := 29) F (dAt dk_X5_row 11 rfl) (by decide) h (fun c6 h => ?_) (fun c6 h => ?_)
    · refine g_iload_n F (dAt dk_X5_row 16 rfl) 3 rfl ?_
      refine g_if_lt (tgt := 38) F (dAt dk_X5_row 17 rfl) (by decide) h (fun c7 h => ?_) (fun c7 h => ?_)
      · refine g_sub (lv' := [(0, .ref (ad 0))]) [1] rfl ?_
        exact J38  t2 h
      · refine g_iload_n F (dAt dk_X5_row 18 rfl) 3 rfl ?_
        refine g_iconst (v := 3) F (dAt dk_X5_row 19 rfl) (by decide) ?_
        refine g_icmp_le (tgt := 45) F (dAt dk_X5_row 20 rfl) (by decide) h (fun c8 h => ?_) (fun c8 h => ?_)
        · refine g_iload_n F (dAt dk_X5_row 25 rfl) 4 rfl ?_
          refine g_sipush (v := 160) F (dAt dk_X5_row 26 rfl) (by decide) ?_
          refine g_icmp_le (tgt := 59) F (dAt dk_X5_row 27 rfl) (by decide) h (fun c9 h => ?_) (fun c9 h => ?_)
          · refine g_aload F (dAt dk_X5_row 32 rfl) 0 rfl ?_
            refine g_iload_n F (dAt dk_X5_row 33 rfl) 3 rfl ?_
            refine g_iload_n F (dAt dk_X5_row 34 rfl) 4 rfl ?_
            refine g_invV_vc F mi_X4_takeRow (gm mw_255 rfl) (dAt dk_X5_row 35 rfl) (rcx_of F (rc_Shelf k3)) [.int x2, .int x3] rfl rfl (by decide) (Nat.le_of_ble_eq_true rfl) h (fun _ _ hf => c_X4_takeRow hJ hf) (fun _ t10 h => ?_)
            refine g_iconst (v := 1) F (dAt dk_X5_row 36 rfl) (by decide) ?_
            cases h
            exact E (dAt dk_X5_row 37 rfl) rfl
          · refine g_aload_n F (dAt dk_X5_row 28 rfl) 1 rfl ?_
            refine g_bipush (v := (-7)) F (dAt dk_X5_row 29 rfl) (by decide) ?_
            refine g_invV_ic F mi_X5_refuse (gm mw_251 rfl) (dAt dk_X5_row 30 rfl) (rcx_of F rc_Main) [.int (-7)] rfl rfl (by decide) (Nat.le_of_ble_eq_true rfl) h (fun _ _ hf => c_X5_refuse hJ hf) (fun r11 t12 h => ?_)
            cases h
            exact E (dAt dk_X5_row 31 rfl) rfl
        · refine g_sub (lv' := [(0, .ref (ad 0))]) [1] rfl ?_
          exact J38  t2 h
    · refine g_aload_n F (dAt dk_X5_row 12 rfl) 1 rfl ?_
      refine g_bipush (v := (-4)) F (dAt dk_X5_row 13 rfl) (by decide) ?_
      refine g_invV_ic F mi_X5_refuse (gm mw_251 rfl) (dAt dk_X5_row 14 rfl) (rcx_of F rc_Main) [.int (-4)] rfl rfl (by decide) (Nat.le_of_ble_eq_true rfl) h (fun _ _ hf => c_X5_refuse hJ hf) (fun r13 t14 h => ?_)
      cases h
      exact E (dAt dk_X5_row 15 rfl) rfl
theorem ms_X5_rowProblem : MS yX5_rowProblem cX5_rowProblem 1 (some .int) 1 := ⟨(gm mw_268 rfl), (gm mw_267 rfl), (gm mw_69 rfl), by decide +kernel, by decide⟩
theorem c_X5_rowProblem {l : Launch} {D : va_G} {ad : Nat → Nat} {g : Gv} {t u : Mem} {x0 : Option (Fin 8)} {t' : Mem} {r : Int32} (hJ : Jad ad) (h : f_X5_rowProblem x0 t = some (r, t')) : ConI l yX5_rowProblem cX5_rowProblem 1 (some .int) 1 [shv ad x0] D ad g t u t' u r := by
  refine con_i hJ (by decide) (by cases x0 <;> exact Nat.le_of_ble_eq_true rfl) rfl (fun X F E => ?_)
  refine g_lv (lv' := [(0, shv ad x0)]) (by cases x0 <;> rfl) ?_
  unfold f_X5_rowProblem at h
  refine g_aloadS_n F (dAt dk_X5_rowProblem 0 rfl) 0 rfl ?_
  refine g_ifnonnull (tgt := 6) F (dAt dk_X5_rowProblem 1 rfl) (by decide) h (fun e hhk1 => ?_) (fun k1 e hhk1 => ?_)
  · subst e
    have h := hhk1
    refine g_lv (lv' := [(0, .null)]) rfl ?_
    refine g_iconst (v := (-1)) F (dAt dk_X5_rowProblem 2 rfl) (by decide) ?_
    cases h
    exact E (dAt dk_X5_rowProblem 3 rfl) rfl
  · subst e
    have h := hhk1
    refine g_lv (lv' := [(0, .ref (ad (oSh k1)))]) rfl ?_
    refine g_aload_n F (dAt dk_X5_rowProblem 4 rfl) 0 rfl ?_
    refine g_invV_ic F mi_X4_holdsPlace (gm mw_269 rfl) (dAt dk_X5_rowProblem 5 rfl) (rcx_of F (rc_Shelf k1)) [] rfl rfl (by decide) (Nat.le_of_ble_eq_true rfl) h (fun _ _ hf => c_X4_holdsPlace hJ hf) (fun r2 t3 h => ?_)
    refine g_if_eq (tgt := 16) F (dAt dk_X5_rowProblem 6 rfl) (by decide) h (fun c4 h => ?_) (fun c4 h => ?_)
    · refine g_aload_n F (dAt dk_X5_rowProblem 9 rfl) 0 rfl ?_
      refine g_invV_ic F mi_X4_holdsRow (gm mw_273 rfl) (dAt dk_X5_rowProblem 10 rfl) (rcx_of F (rc_Shelf k1)) [] rfl rfl (by decide) (Nat.le_of_ble_eq_true rfl) h (fun _ _ hf => c_X4_holdsRow hJ hf) (fun r5 t6 h => ?_)
      refine g_if_eq (tgt := 27) F (dAt dk_X5_rowProblem 11 rfl) (by decide) h (fun c7 h => ?_) (fun c7 h => ?_)
      · refine g_bipush (v := (-3)) F (dAt dk_X5_rowProblem 14 rfl) (by decide) ?_
        cases h
        exact E (dAt dk_X5_rowProblem 15 rfl) rfl
      · refine g_iconst (v := 0) F (dAt dk_X5_rowProblem 12 rfl) (by decide) ?_
        refine g_goto (tgt := 29) F (dAt dk_X5_rowProblem 13 rfl) (by decide) ?_
        cases h
        exact E (dAt dk_X5_rowProblem 15 rfl) rfl
    · refine g_bipush (v := (-2)) F (dAt dk_X5_rowProblem 7 rfl) (by decide) ?_
      cases h
      exact E (dAt dk_X5_rowProblem 8 rfl) rfl
theorem mi_X5_set : MI yX5_set cX5_set 7 (some .int) "MillOfDistances" 3 := ⟨(gm mw_265 rfl), (gm mw_263 rfl), (gm mw_264 rfl), (gm mw_69 rfl), by decide +kernel, by decide⟩
theorem c_X5_set {l : Launch} {D : va_G} {ad : Nat → Nat} {g : Gv} {t u : Mem} {x1 : Int32} {x2 : Int32} {x3 : Int64} {t' : Mem} {r : Int32} (hJ : Jad ad) (h : f_X5_set x1 x2 x3 t = some (r, t')) : ConI l yX5_set cX5_set 7 (some .int) 2 [.ref (ad 0), .int x1, .int x2, .long x3] D ad g t u t' u r := by
  refine con_i hJ (by decide) (Nat.le_of_ble_eq_true rfl) rfl (fun X F E => ?_)
  have J33 : ∀ (v5 : Option (Fin 8)) (v6 : Int32) (t0 : Mem), jn_X5_set_33 x1 x2 x3 v5 v6 t0 = some (r, t') → G X D ad g t0 u [(0, .ref (ad 0)), (2, .int x2), (3, .long x3), (5, shv ad v5), (6, .int v6)] 33 [] := by
    intro v5 v6 t0 h
    unfold jn_X5_set_33 at h
    refine g_iload F (dAt dk_X5_set 16 rfl) 4 rfl ?_
    refine g_if_eq (tgt := 45) F (dAt dk_X5_set 17 rfl) (by decide) h (fun c10 h => ?_) (fun c10 h => ?_)
    · refine g_aloadS F (dAt dk_X5_set 22 rfl) 3 rfl ?_
      refine g_iload_n F (dAt dk_X5_set 23 rfl) 1 rfl ?_
      refine g_lload_n F (dAt dk_X5_set 24 rfl) 2 rfl ?_
      refine g_nn h (fun k11 e hhk11 => ?_)
      subst e
      have h := hhk11
      refine g_lv (lv' := [(0, .ref (ad 0)), (2, .int x2), (3, .long x3), (5, .ref (ad (oSh k11))), (6, .int v6)]) rfl ?_
      refine g_st (st' := [.long x3, .int x2, .ref (ad (oSh k11))]) rfl ?_
      refine g_invV_vc F mi_X4_put (gm mw_281 rfl) (dAt dk_X5_set 25 rfl) (rcx_of F (rc_Shelf k11)) [.int x2, .long x3] rfl rfl (by decide) (Nat.le_of_ble_eq_true rfl) h (fun _ _ hf => c_X4_put hJ hf) (fun _ t12 h => ?_)
      refine g_iconst (v := 1) F (dAt dk_X5_set 26 rfl) (by decide) ?_
      cases h
      exact E (dAt dk_X5_set 27 rfl) rfl
    · refine g_aload_n F (dAt dk_X5_set 18 rfl) 0 rfl ?_
      refine g_iload F (dAt dk_X5_set 19 rfl) 4 rfl ?_
      refine g_invV_ic F mi_X5_refuse (gm mw_251 rfl) (dAt dk_X5_set 20 rfl) (rcx_of F rc_Main) [.int v6] rfl rfl (by decide) (Nat.le_of_ble_eq_true rfl) h (fun _ _ hf => c_X5_refuse hJ hf) (fun r13 t14 h => ?_)
      cases h
      exact E (dAt dk_X5_set 21 rfl) rfl
  refine g_lv (lv' := [(0, .ref (ad 0)), (1, .int x1), (2, .int x2), (3, .long x3)]) rfl ?_
  unfold f_X5_set at h
  refine g_aload_n F (dAt dk_X5_set 0 rfl) 0 rfl ?_
  refine g_iload_n F (dAt dk_X5_set 1 rfl) 1 rfl ?_
  refine g_invV_qc (jv ad) F mi_X5_shelfAt (gm mw_247 rfl) (dAt dk_X5_set 2 rfl) (rcx_of F rc_Main) [.int x1] rfl rfl (by decide) (Nat.le_of_ble_eq_true rfl) h (fun _ _ hf => c_X5_shelfAt hJ hf) (fun r1 t2 h => ?_)
  refine g_st (st' := [shv ad r1]) rfl ?_
  refine g_astoreS (lv' := [(5, shv ad r1), (0, .ref (ad 0)), (1, .int x1), (2, .int x2), (3, .long x3)]) F (dAt dk_X5_set 3 rfl) (by decide) rfl ?_
  refine g_aloadS F (dAt dk_X5_set 4 rfl) 0 rfl ?_
  refine g_invS_ic F ms_X5_rowProblem (gm mw_266 rfl) (dAt dk_X5_set 5 rfl) [shv ad r1] rfl rfl (by decide) (Nat.le_of_ble_eq_true rfl) h (fun _ _ hf => c_X5_rowProblem hJ hf) (fun r3 t4 h => ?_)
  refine g_istore (lv' := [(6, .int r3), (5, shv ad r1), (0, .ref (ad 0)), (1, .int x1), (2, .int x2), (3, .long x3)]) F (dAt dk_X5_set 6 rfl) (by decide) (by cases r1 <;> rfl) ?_
  refine g_iload F (dAt dk_X5_set 7 rfl) 0 rfl ?_
  refine g_if_ne (tgt := 33) F (dAt dk_X5_set 8 rfl) (by decide) h (fun c5 h => ?_) (fun c5 h => ?_)
  · refine g_sub (lv' := [(0, .ref (ad 0)), (2, .int x2), (3, .long x3), (5, shv ad r1), (6, .int r3)]) [2, 4, 5, 1, 0] rfl ?_
    exact J33  r1 r3 t4 h
  · refine g_aloadS F (dAt dk_X5_set 9 rfl) 1 rfl ?_
    refine g_iload_n F (dAt dk_X5_set 10 rfl) 4 rfl ?_
    refine g_iconst (v := 1) F (dAt dk_X5_set 11 rfl) (by decide) ?_
    refine g_nn h (fun k6 e hhk6 => ?_)
    subst e
    have h := hhk6
    refine g_lv (lv' := [(6, .int r3), (5, .ref (ad (oSh k6))), (0, .ref (ad 0)), (1, .int x1), (2, .int x2), (3, .long x3)]) rfl ?_
    refine g_st (st' := [.int 1, .int x2, .ref (ad (oSh k6))]) rfl ?_
    refine g_invV_ic F mi_X4_hasElements (gm mw_277 rfl) (dAt dk_X5_set 12 rfl) (rcx_of F (rc_Shelf k6)) [.int x2, .int 1] rfl rfl (by decide) (Nat.le_of_ble_eq_true rfl) h (fun _ _ hf => c_X4_hasElements hJ hf) (fun r7 t8 h => ?_)
    refine g_if_ne (tgt := 33) F (dAt dk_X5_set 13 rfl) (by decide) h (fun c9 h => ?_) (fun c9 h => ?_)
    · refine g_sub (lv' := [(0, .ref (ad 0)), (2, .int x2), (3, .long x3), (5, shv ad (some k6)), (6, .int r3)]) [2, 4, 5, 1, 0] rfl ?_
      exact J33  (some k6) r3 t8 h
    · refine g_bipush (v := (-5)) F (dAt dk_X5_set 14 rfl) (by decide) ?_
      refine g_istore (lv' := [(6, .int (-5)), (5, .ref (ad (oSh k6))), (0, .ref (ad 0)), (1, .int x1), (2, .int x2), (3, .long x3)]) F (dAt dk_X5_set 15 rfl) (by decide) rfl ?_
      refine g_sub (lv' := [(0, .ref (ad 0)), (2, .int x2), (3, .long x3), (5, shv ad (some k6)), (6, .int (-5))]) [2, 4, 5, 1, 0] rfl ?_
      exact J33  (some k6) (-5) t8 h
theorem ms_X5_rowsProblem : MS yX5_rowsProblem cX5_rowsProblem 2 (some .int) 2 := ⟨(gm mw_296 rfl), (gm mw_295 rfl), (gm mw_69 rfl), by decide +kernel, by decide⟩
theorem c_X5_rowsProblem {l : Launch} {D : va_G} {ad : Nat → Nat} {g : Gv} {t u : Mem} {x0 : Option (Fin 8)} {x1 : Option (Fin 8)} {t' : Mem} {r : Int32} (hJ : Jad ad) (h : f_X5_rowsProblem x0 x1 t = some (r, t')) : ConI l yX5_rowsProblem cX5_rowsProblem 2 (some .int) 1 [shv ad x0, shv ad x1] D ad g t u t' u r := by
  refine con_i hJ (by decide) (by cases x0 <;> cases x1 <;> exact Nat.le_of_ble_eq_true rfl) rfl (fun X F E => ?_)
  refine g_lv (lv' := [(0, shv ad x0), (1, shv ad x1)]) (by cases x0 <;> cases x1 <;> rfl) ?_
  unfold f_X5_rowsProblem at h
  refine g_aloadS_n F (dAt dk_X5_rowsProblem 0 rfl) 0 rfl ?_
  refine g_ifnull (tgt := 8) F (dAt dk_X5_rowsProblem 1 rfl) (by decide) h (fun e hhk1 => ?_) (fun k1 e hhk1 => ?_)
  · subst e
    have h := hhk1
    refine g_lv (lv' := [(0, .null), (1, shv ad x1)]) rfl ?_
    refine g_iconst (v := (-1)) F (dAt dk_X5_rowsProblem 4 rfl) (by decide) ?_
    cases h
    exact E (dAt dk_X5_rowsProblem 5 rfl) rfl
  · subst e
    have h := hhk1
    refine g_lv (lv' := [(0, .ref (ad (oSh k1))), (1, shv ad x1)]) rfl ?_
    refine g_aloadS_n F (dAt dk_X5_rowsProblem 2 rfl) 1 rfl ?_
    refine g_ifnonnull (tgt := 10) F (dAt dk_X5_rowsProblem 3 rfl) (by decide) h (fun e hhk2 => ?_) (fun k2 e hhk2 => ?_)
    · subst e
      have h := hhk2
      refine g_lv (lv' := [(0, .ref (ad (oSh k1))), (1, .null)]) rfl ?_
      refine g_iconst (v := (-1)) F (dAt dk_X5_rowsProblem 4 rfl) (by decide) ?_
      cases h
      exact E (dAt dk_X5_rowsProblem 5 rfl) rfl
    · subst e
      have h := hhk2
      refine g_lv (lv' := [(0, .ref (ad (oSh k1))), (1, .ref (ad (oSh k2)))]) rfl ?_
      refine g_aload_n F (dAt dk_X5_rowsProblem 6 rfl) 0 rfl ?_
      refine g_invV_ic F mi_X4_holdsPlace (gm mw_269 rfl) (dAt dk_X5_rowsProblem 7 rfl) (rcx_of F (rc_Shelf k1)) [] rfl rfl (by decide) (Nat.le_of_ble_eq_true rfl) h (fun _ _ hf => c_X4_holdsPlace hJ hf) (fun r3 t4 h => ?_)
      refine g_if_ne (tgt := 24) F (dAt dk_X5_rowsProblem 8 rfl) (by decide) h (fun c5 h => ?_) (fun c5 h => ?_)
      · refine g_bipush (v := (-2)) F (dAt dk_X5_rowsProblem 12 rfl) (by decide) ?_
        cases h
        exact E (dAt dk_X5_rowsProblem 13 rfl) rfl
      · refine g_aload_n F (dAt dk_X5_rowsProblem 9 rfl) 1 rfl ?_
        refine g_invV_ic F mi_X4_holdsPlace (gm mw_269 rfl) (dAt dk_X5_rowsProblem 10 rfl) (rcx_of F (rc_Shelf k2)) [] rfl rfl (by decide) (Nat.le_of_ble_eq_true rfl) h (fun _ _ hf => c_X4_holdsPlace hJ hf) (fun r6 t7 h => ?_)
        refine g_if_eq (tgt := 27) F (dAt dk_X5_rowsProblem 11 rfl) (by decide) h (fun c8 h => ?_) (fun c8 h => ?_)
        · refine g_aload_n F (dAt dk_X5_rowsProblem 14 rfl) 0 rfl ?_
          refine g_invV_ic F mi_X4_holdsRow (gm mw_273 rfl) (dAt dk_X5_rowsProblem 15 rfl) (rcx_of F (rc_Shelf k1)) [] rfl rfl (by decide) (Nat.le_of_ble_eq_true rfl) h (fun _ _ hf => c_X4_holdsRow hJ hf) (fun r9 t10 h => ?_)
          refine g_if_eq (tgt := 41) F (dAt dk_X5_rowsProblem 16 rfl) (by decide) h (fun c11 h => ?_) (fun c11 h => ?_)
          · refine g_bipush (v := (-3)) F (dAt dk_X5_rowsProblem 20 rfl) (by decide) ?_
            cases h
            exact E (dAt dk_X5_rowsProblem 21 rfl) rfl
          · refine g_aload_n F (dAt dk_X5_rowsProblem 17 rfl) 1 rfl ?_
            refine g_invV_ic F mi_X4_holdsRow (gm mw_273 rfl) (dAt dk_X5_rowsProblem 18 rfl) (rcx_of F (rc_Shelf k2)) [] rfl rfl (by decide) (Nat.le_of_ble_eq_true rfl) h (fun _ _ hf => c_X4_holdsRow hJ hf) (fun r12 t13 h => ?_)
            refine g_if_ne (tgt := 44) F (dAt dk_X5_rowsProblem 19 rfl) (by decide) h (fun c14 h => ?_) (fun c14 h => ?_)
            · refine g_aload_n F (dAt dk_X5_rowsProblem 22 rfl) 0 rfl ?_
              refine gg_Shelf_sort k1 F (gm mw_199 rfl) (dAt dk_X5_rowsProblem 23 rfl) ?_
              refine g_aload_n F (dAt dk_X5_rowsProblem 24 rfl) 1 rfl ?_
              refine gg_Shelf_sort k2 F (gm mw_199 rfl) (dAt dk_X5_rowsProblem 25 rfl) ?_
              refine g_icmp_ne (tgt := 59) F (dAt dk_X5_rowsProblem 26 rfl) (by decide) h (fun c15 h => ?_) (fun c15 h => ?_)
              · refine g_bipush (v := (-2)) F (dAt dk_X5_rowsProblem 29 rfl) (by decide) ?_
                cases h
                exact E (dAt dk_X5_rowsProblem 30 rfl) rfl
              · refine g_iconst (v := 0) F (dAt dk_X5_rowsProblem 27 rfl) (by decide) ?_
                refine g_goto (tgt := 61) F (dAt dk_X5_rowsProblem 28 rfl) (by decide) ?_
                cases h
                exact E (dAt dk_X5_rowsProblem 30 rfl) rfl
            · refine g_bipush (v := (-3)) F (dAt dk_X5_rowsProblem 20 rfl) (by decide) ?_
              cases h
              exact E (dAt dk_X5_rowsProblem 21 rfl) rfl
        · refine g_bipush (v := (-2)) F (dAt dk_X5_rowsProblem 12 rfl) (by decide) ?_
          cases h
          exact E (dAt dk_X5_rowsProblem 13 rfl) rfl
theorem mi_X5_copy : MI yX5_copy cX5_copy 9 (some .int) "MillOfDistances" 5 := ⟨(gm mw_293 rfl), (gm mw_291 rfl), (gm mw_292 rfl), (gm mw_69 rfl), by decide +kernel, by decide⟩
theorem c_X5_copy {l : Launch} {D : va_G} {ad : Nat → Nat} {g : Gv} {t u : Mem} {x1 : Int32} {x2 : Int32} {x3 : Int32} {x4 : Int32} {x5 : Int32} {t' : Mem} {r : Int32} (hJ : Jad ad) (h : f_X5_copy x1 x2 x3 x4 x5 t = some (r, t')) : ConI l yX5_copy cX5_copy 9 (some .int) 2 [.ref (ad 0), .int x1, .int x2, .int x3, .int x4, .int x5] D ad g t u t' u r := by
  refine con_i hJ (by decide) (Nat.le_of_ble_eq_true rfl) rfl (fun X F E => ?_)
  have J69 : ∀ (v6 : Option (Fin 8)) (v7 : Option (Fin 8)) (v8 : Int32) (t0 : Mem), jn_X5_copy_69 x1 x2 x3 x4 x5 v6 v7 v8 t0 = some (r, t') → G X D ad g t0 u [(0, .ref (ad 0)), (3, .int x3), (4, .int x4), (5, .int x5), (6, shv ad v6), (7, shv ad v7), (8, .int v8)] 69 [] := by
    intro v6 v7 v8 t0 h
    unfold jn_X5_copy_69 at h
    refine g_iload F (dAt dk_X5_copy 32 rfl) 6 rfl ?_
    refine g_if_eq (tgt := 81) F (dAt dk_X5_copy 33 rfl) (by decide) h (fun c18 h => ?_) (fun c18 h => ?_)
    · refine g_aloadS F (dAt dk_X5_copy 38 rfl) 4 rfl ?_
      refine g_nn h (fun k19 e hhk19 => ?_)
      subst e
      have h := hhk19
      refine g_lv (lv' := [(0, .ref (ad 0)), (3, .int x3), (4, .int x4), (5, .int x5), (6, .ref (ad (oSh k19))), (7, shv ad v7), (8, .int v8)]) rfl ?_
      refine g_st (st' := [.ref (ad (oSh k19))]) rfl ?_
      refine gg_Shelf_elements k19 F (gm mw_194 rfl) (dAt dk_X5_copy 39 rfl) ?_
      refine g_iload_n F (dAt dk_X5_copy 40 rfl) 1 rfl ?_
      refine g_aloadS F (dAt dk_X5_copy 41 rfl) 5 rfl ?_
      refine g_nn h (fun k20 e hhk20 => ?_)
      subst e
      have h := hhk20
      refine g_lv (lv' := [(0, .ref (ad 0)), (3, .int x3), (4, .int x4), (5, .int x5), (6, .ref (ad (oSh k19))), (7, .ref (ad (oSh k20))), (8, .int v8)]) rfl ?_
      refine g_st (st' := [.ref (ad (oSh k20)), .int x3, .ref (ad (oEl k19))]) rfl ?_
      refine gg_Shelf_elements k20 F (gm mw_194 rfl) (dAt dk_X5_copy 42 rfl) ?_
      refine g_iload F (dAt dk_X5_copy 43 rfl) 2 rfl ?_
      refine g_iload F (dAt dk_X5_copy 44 rfl) 3 rfl ?_
      refine g_ck h (fun hz21 h => ?_)
      have hz21 := of_decide_eq_true hz21
      refine g_copyl F (ai_elements k19) (ai_elements k20) (gm mw_297 rfl) (gm mw_299 rfl) (gm mw_298 rfl) (gm mw_77 rfl) (dAt dk_X5_copy 45 rfl) hz21.1 hz21.2.1 hz21.2.2.1 hz21.2.2.2.1 hz21.2.2.2.2 (by decide) (Nat.le_of_ble_eq_true rfl) ?_
      refine g_ltt h (fun t22 h => ?_)
      refine g_iconst (v := 1) F (dAt dk_X5_copy 46 rfl) (by decide) ?_
      cases h
      exact E (dAt dk_X5_copy 47 rfl) rfl
    · refine g_aload_n F (dAt dk_X5_copy 34 rfl) 0 rfl ?_
      refine g_iload F (dAt dk_X5_copy 35 rfl) 6 rfl ?_
      refine g_invV_ic F mi_X5_refuse (gm mw_251 rfl) (dAt dk_X5_copy 36 rfl) (rcx_of F rc_Main) [.int v8] rfl rfl (by decide) (Nat.le_of_ble_eq_true rfl) h (fun _ _ hf => c_X5_refuse hJ hf) (fun r23 t24 h => ?_)
      cases h
      exact E (dAt dk_X5_copy 37 rfl) rfl
  have J65 : ∀ (v6 : Option (Fin 8)) (v7 : Option (Fin 8)) (t0 : Mem), jn_X5_copy_65 x1 x2 x3 x4 x5 v6 v7 t0 = some (r, t') → G X D ad g t0 u [(0, .ref (ad 0)), (3, .int x3), (4, .int x4), (5, .int x5), (6, shv ad v6), (7, shv ad v7)] 65 [] := by
    intro v6 v7 t0 h
    unfold jn_X5_copy_65 at h
    refine g_bipush (v := (-5)) F (dAt dk_X5_copy 30 rfl) (by decide) ?_
    refine g_istore (lv' := [(8, .int (-5)), (0, .ref (ad 0)), (3, .int x3), (4, .int x4), (5, .int x5), (6, shv ad v6), (7, shv ad v7)]) F (dAt dk_X5_copy 31 rfl) (by decide) (by cases v7 <;> rfl) ?_
    refine g_sub (lv' := [(0, .ref (ad 0)), (3, .int x3), (4, .int x4), (5, .int x5), (6, shv ad v6), (7, shv ad v7), (8, .int (-5))]) [1, 2, 3, 4, 5, 6, 0] rfl ?_
    exact J69  v6 v7 (-5) t0 h
  have J37 : ∀ (v6 : Option (Fin 8)) (v7 : Option (Fin 8)) (v8 : Int32) (t0 : Mem), jn_X5_copy_37 x1 x2 x3 x4 x5 v6 v7 v8 t0 = some (r, t') → G X D ad g t0 u [(0, .ref (ad 0)), (3, .int x3), (4, .int x4), (5, .int x5), (6, shv ad v6), (7, shv ad v7), (8, .int v8)] 37 [] := by
    intro v6 v7 v8 t0 h
    unfold jn_X5_copy_37 at h
    refine g_iload F (dAt dk_X5_copy 18 rfl) 6 rfl ?_
    refine g_if_ne (tgt := 69) F (dAt dk_X5_copy 19 rfl) (by decide) h (fun c9 h => ?_) (fun c9 h => ?_)
    · refine g_sub (lv' := [(0, .ref (ad 0)), (3, .int x3), (4, .int x4), (5, .int x5), (6, shv ad v6), (7, shv ad v7), (8, .int v8)]) [0, 1, 2, 3, 4, 5, 6] rfl ?_
      exact J69  v6 v7 v8 t0 h
    · refine g_aloadS F (dAt dk_X5_copy 20 rfl) 4 rfl ?_
      refine g_iload_n F (dAt dk_X5_copy 21 rfl) 1 rfl ?_
      refine g_iload F (dAt dk_X5_copy 22 rfl) 3 rfl ?_
      refine g_nn h (fun k10 e hhk10 => ?_)
      subst e
      have h := hhk10
      refine g_lv (lv' := [(0, .ref (ad 0)), (3, .int x3), (4, .int x4), (5, .int x5), (6, .ref (ad (oSh k10))), (7, shv ad v7), (8, .int v8)]) rfl ?_
      refine g_st (st' := [.int x5, .int x3, .ref (ad (oSh k10))]) rfl ?_
      refine g_invV_ic F mi_X4_hasElements (gm mw_277 rfl) (dAt dk_X5_copy 23 rfl) (rcx_of F (rc_Shelf k10)) [.int x3, .int x5] rfl rfl (by decide) (Nat.le_of_ble_eq_true rfl) h (fun _ _ hf => c_X4_hasElements hJ hf) (fun r11 t12 h => ?_)
      refine g_if_eq (tgt := 65) F (dAt dk_X5_copy 24 rfl) (by decide) h (fun c13 h => ?_) (fun c13 h => ?_)
      · refine g_sub (lv' := [(0, .ref (ad 0)), (3, .int x3), (4, .int x4), (5, .int x5), (6, shv ad (some k10)), (7, shv ad v7)]) [0, 1, 2, 3, 4, 5] rfl ?_
        exact J65  (some k10) v7 t12 h
      · refine g_aloadS F (dAt dk_X5_copy 25 rfl) 5 rfl ?_
        refine g_iload F (dAt dk_X5_copy 26 rfl) 2 rfl ?_
        refine g_iload F (dAt dk_X5_copy 27 rfl) 3 rfl ?_
        refine g_nn h (fun k14 e hhk14 => ?_)
        subst e
        have h := hhk14
        refine g_lv (lv' := [(0, .ref (ad 0)), (3, .int x3), (4, .int x4), (5, .int x5), (6, .ref (ad (oSh k10))), (7, .ref (ad (oSh k14))), (8, .int v8)]) rfl ?_
        refine g_st (st' := [.int x5, .int x4, .ref (ad (oSh k14))]) rfl ?_
        refine g_invV_ic F mi_X4_hasElements (gm mw_277 rfl) (dAt dk_X5_copy 28 rfl) (rcx_of F (rc_Shelf k14)) [.int x4, .int x5] rfl rfl (by decide) (Nat.le_of_ble_eq_true rfl) h (fun _ _ hf => c_X4_hasElements hJ hf) (fun r15 t16 h => ?_)
        refine g_if_ne (tgt := 69) F (dAt dk_X5_copy 29 rfl) (by decide) h (fun c17 h => ?_) (fun c17 h => ?_)
        · refine g_sub (lv' := [(0, .ref (ad 0)), (3, .int x3), (4, .int x4), (5, .int x5), (6, shv ad (some k10)), (7, shv ad (some k14)), (8, .int v8)]) [0, 1, 2, 3, 4, 5, 6] rfl ?_
          exact J69  (some k10) (some k14) v8 t16 h
        · refine g_sub (lv' := [(0, .ref (ad 0)), (3, .int x3), (4, .int x4), (5, .int x5), (6, shv ad (some k10)), (7, shv ad (some k14))]) [0, 1, 2, 3, 4, 5] rfl ?_
          exact J65  (some k10) (some k14) t16 h
  refine g_lv (lv' := [(0, .ref (ad 0)), (1, .int x1), (2, .int x2), (3, .int x3), (4, .int x4), (5, .int x5)]) rfl ?_
  unfold f_X5_copy at h
  refine g_aload_n F (dAt dk_X5_copy 0 rfl) 0 rfl ?_
  refine g_iload_n F (dAt dk_X5_copy 1 rfl) 1 rfl ?_
  refine g_invV_qc (jv ad) F mi_X5_shelfAt (gm mw_247 rfl) (dAt dk_X5_copy 2 rfl) (rcx_of F rc_Main) [.int x1] rfl rfl (by decide) (Nat.le_of_ble_eq_true rfl) h (fun _ _ hf => c_X5_shelfAt hJ hf) (fun r1 t2 h => ?_)
  refine g_st (st' := [shv ad r1]) rfl ?_
  refine g_astoreS (lv' := [(6, shv ad r1), (0, .ref (ad 0)), (1, .int x1), (2, .int x2), (3, .int x3), (4, .int x4), (5, .int x5)]) F (dAt dk_X5_copy 3 rfl) (by decide) rfl ?_
  refine g_aload_n F (dAt dk_X5_copy 4 rfl) 1 rfl ?_
  refine g_iload_n F (dAt dk_X5_copy 5 rfl) 3 rfl ?_
  refine g_invV_qc (jv ad) F mi_X5_shelfAt (gm mw_247 rfl) (dAt dk_X5_copy 6 rfl) (rcx_of F rc_Main) [.int x2] rfl rfl (by decide) (Nat.le_of_ble_eq_true rfl) h (fun _ _ hf => c_X5_shelfAt hJ hf) (fun r3 t4 h => ?_)
  refine g_st (st' := [shv ad r3]) rfl ?_
  refine g_astoreS (lv' := [(7, shv ad r3), (6, shv ad r1), (0, .ref (ad 0)), (1, .int x1), (2, .int x2), (3, .int x3), (4, .int x4), (5, .int x5)]) F (dAt dk_X5_copy 7 rfl) (by decide) (by cases r1 <;> rfl) ?_
  refine g_aloadS F (dAt dk_X5_copy 8 rfl) 1 rfl ?_
  refine g_aloadS F (dAt dk_X5_copy 9 rfl) 0 rfl ?_
  refine g_invS_ic F ms_X5_rowsProblem (gm mw_294 rfl) (dAt dk_X5_copy 10 rfl) [shv ad r1, shv ad r3] rfl rfl (by decide) (Nat.le_of_ble_eq_true rfl) h (fun _ _ hf => c_X5_rowsProblem hJ hf) (fun r5 t6 h => ?_)
  refine g_istore (lv' := [(8, .int r5), (7, shv ad r3), (6, shv ad r1), (0, .ref (ad 0)), (1, .int x1), (2, .int x2), (3, .int x3), (4, .int x4), (5, .int x5)]) F (dAt dk_X5_copy 11 rfl) (by decide) (by cases r3 <;> rfl) ?_
  refine g_iload F (dAt dk_X5_copy 12 rfl) 0 rfl ?_
  refine g_if_ne (tgt := 37) F (dAt dk_X5_copy 13 rfl) (by decide) h (fun c7 h => ?_) (fun c7 h => ?_)
  · refine g_sub (lv' := [(0, .ref (ad 0)), (3, .int x3), (4, .int x4), (5, .int x5), (6, shv ad r1), (7, shv ad r3), (8, .int r5)]) [3, 6, 7, 8, 2, 1, 0] rfl ?_
    exact J37  r1 r3 r5 t6 h
  · refine g_iload F (dAt dk_X5_copy 14 rfl) 8 rfl ?_
    refine g_if_ge (tgt := 37) F (dAt dk_X5_copy 15 rfl) (by decide) h (fun c8 h => ?_) (fun c8 h => ?_)
    · refine g_sub (lv' := [(0, .ref (ad 0)), (3, .int x3), (4, .int x4), (5, .int x5), (6, shv ad r1), (7, shv ad r3), (8, .int r5)]) [3, 6, 7, 8, 2, 1, 0] rfl ?_
      exact J37  r1 r3 r5 t6 h
    · refine g_bipush (v := (-4)) F (dAt dk_X5_copy 16 rfl) (by decide) ?_
      refine g_istore (lv' := [(8, .int (-4)), (7, shv ad r3), (6, shv ad r1), (0, .ref (ad 0)), (1, .int x1), (2, .int x2), (3, .int x3), (4, .int x4), (5, .int x5)]) F (dAt dk_X5_copy 17 rfl) (by decide) (by cases r3 <;> rfl) ?_
      refine g_sub (lv' := [(0, .ref (ad 0)), (3, .int x3), (4, .int x4), (5, .int x5), (6, shv ad r1), (7, shv ad r3), (8, .int (-4))]) [3, 6, 7, 8, 2, 1, 0] rfl ?_
      exact J37  r1 r3 (-4) t6 h
theorem mi_X5_element : MI yX5_element cX5_element 4 (some .long) "MillOfDistances" 2 := ⟨(gm mw_303 rfl), (gm mw_301 rfl), (gm mw_302 rfl), (gm mw_69 rfl), by decide +kernel, by decide⟩
theorem c_X5_element {l : Launch} {D : va_G} {ad : Nat → Nat} {g : Gv} {t u : Mem} {x1 : Int32} {x2 : Int32} {t' : Mem} {r : Int64} (hJ : Jad ad) (h : f_X5_element x1 x2 t = some (r, t')) : ConL l yX5_element cX5_element 4 (some .long) 2 [.ref (ad 0), .int x1, .int x2] D ad g t u t' u r := by
  refine con_l hJ (by decide) (Nat.le_of_ble_eq_true rfl) rfl (fun X F E => ?_)
  refine g_lv (lv' := [(0, .ref (ad 0)), (1, .int x1), (2, .int x2)]) rfl ?_
  unfold f_X5_element at h
  refine g_aload_n F (dAt dk_X5_element 0 rfl) 0 rfl ?_
  refine g_iload_n F (dAt dk_X5_element 1 rfl) 1 rfl ?_
  refine g_invV_qc (jv ad) F mi_X5_shelfAt (gm mw_247 rfl) (dAt dk_X5_element 2 rfl) (rcx_of F rc_Main) [.int x1] rfl rfl (by decide) (Nat.le_of_ble_eq_true rfl) h (fun _ _ hf => c_X5_shelfAt hJ hf) (fun r1 t2 h => ?_)
  refine g_st (st' := [shv ad r1]) rfl ?_
  refine g_astoreS_n (lv' := [(3, shv ad r1), (0, .ref (ad 0)), (1, .int x1), (2, .int x2)]) F (dAt dk_X5_element 3 rfl) (by decide) rfl ?_
  refine g_aloadS_n F (dAt dk_X5_element 4 rfl) 0 rfl ?_
  refine g_invS_ic F ms_X5_rowProblem (gm mw_266 rfl) (dAt dk_X5_element 5 rfl) [shv ad r1] rfl rfl (by decide) (Nat.le_of_ble_eq_true rfl) h (fun _ _ hf => c_X5_rowProblem hJ hf) (fun r3 t4 h => ?_)
  refine g_if_ne (tgt := 21) F (dAt dk_X5_element 6 rfl) (by decide) h (fun c5 h => ?_) (fun c5 h => ?_)
  · refine g_lconst (v := 0) F (dAt dk_X5_element 11 rfl) (by decide) ?_
    cases h
    exact E (dAt dk_X5_element 12 rfl)
  · refine g_aloadS_n F (dAt dk_X5_element 7 rfl) 0 rfl ?_
    refine g_iload_n F (dAt dk_X5_element 8 rfl) 3 rfl ?_
    refine g_nn h (fun k6 e hhk6 => ?_)
    subst e
    have h := hhk6
    refine g_lv (lv' := [(3, .ref (ad (oSh k6))), (0, .ref (ad 0)), (1, .int x1), (2, .int x2)]) rfl ?_
    refine g_st (st' := [.int x2, .ref (ad (oSh k6))]) rfl ?_
    refine g_invV_lc F mi_X4_at (gm mw_304 rfl) (dAt dk_X5_element 9 rfl) (rcx_of F (rc_Shelf k6)) [.int x2] rfl rfl (by decide) (Nat.le_of_ble_eq_true rfl) h (fun _ _ hf => c_X4_at hJ hf) (fun r7 t8 h => ?_)
    refine g_goto (tgt := 22) F (dAt dk_X5_element 10 rfl) (by decide) ?_
    cases h
    exact E (dAt dk_X5_element 12 rfl)
theorem mi_X5_show : MI yX5_show cX5_show 4 (some .int) "MillOfDistances" 2 := ⟨(gm mw_311 rfl), (gm mw_309 rfl), (gm mw_310 rfl), (gm mw_69 rfl), by decide +kernel, by decide⟩
theorem c_X5_show {l : Launch} {D : va_G} {ad : Nat → Nat} {g : Gv} {t u : Mem} {x1 : Int32} {x2 : Int32} {t' : Mem} {r : Int32} (hJ : Jad ad) (h : f_X5_show x1 x2 t = some (r, t')) : ConI l yX5_show cX5_show 4 (some .int) 1 [.ref (ad 0), .int x1, .int x2] D ad g t u t' u r := by
  refine con_i hJ (by decide) (Nat.le_of_ble_eq_true rfl) rfl (fun X F E => ?_)
  have J26 : ∀ (t0 : Mem), jn_X5_show_26 x1 x2 t0 = some (r, t') → G X D ad g t0 u [(0, .ref (ad 0))] 26 [] := by
    intro t0 h
    unfold jn_X5_show_26 at h
    refine g_aload_n F (dAt dk_X5_show 14 rfl) 0 rfl ?_
    refine g_iconst (v := (-1)) F (dAt dk_X5_show 15 rfl) (by decide) ?_
    refine g_invV_ic F mi_X5_refuse (gm mw_251 rfl) (dAt dk_X5_show 16 rfl) (rcx_of F rc_Main) [.int (-1)] rfl rfl (by decide) (Nat.le_of_ble_eq_true rfl) h (fun _ _ hf => c_X5_refuse hJ hf) (fun r8 t9 h => ?_)
    cases h
    exact E (dAt dk_X5_show 17 rfl) rfl
  have J32 : ∀ (v3 : Option (Fin 8)) (t0 : Mem), jn_X5_show_32 x1 x2 v3 t0 = some (r, t') → G X D ad g t0 u [(2, .int x2), (3, shv ad v3)] 32 [] := by
    intro v3 t0 h
    unfold jn_X5_show_32 at h
    refine g_aloadS_n F (dAt dk_X5_show 18 rfl) 1 rfl ?_
    refine g_iload_n F (dAt dk_X5_show 19 rfl) 0 rfl ?_
    refine g_nn h (fun k10 e hhk10 => ?_)
    subst e
    have h := hhk10
    refine g_lv (lv' := [(2, .int x2), (3, .ref (ad (oSh k10)))]) rfl ?_
    refine g_st (st' := [.int x2, .ref (ad (oSh k10))]) rfl ?_
    refine g_invV_vc F mi_X4_takePlace (gm mw_316 rfl) (dAt dk_X5_show 20 rfl) (rcx_of F (rc_Shelf k10)) [.int x2] rfl rfl (by decide) (Nat.le_of_ble_eq_true rfl) h (fun _ _ hf => c_X4_takePlace hJ hf) (fun _ t11 h => ?_)
    refine g_iload_n F (dAt dk_X5_show 21 rfl) 0 rfl ?_
    refine g_iconst (v := (-1)) F (dAt dk_X5_show 22 rfl) (by decide) ?_
    refine g_icmp_ne (tgt := 46) F (dAt dk_X5_show 23 rfl) (by decide) h (fun c12 h => ?_) (fun c12 h => ?_)
    · refine g_iconst (v := 1) F (dAt dk_X5_show 26 rfl) (by decide) ?_
      cases h
      exact E (dAt dk_X5_show 27 rfl) rfl
    · refine g_iconst (v := 0) F (dAt dk_X5_show 24 rfl) (by decide) ?_
      refine g_goto (tgt := 47) F (dAt dk_X5_show 25 rfl) (by decide) ?_
      cases h
      exact E (dAt dk_X5_show 27 rfl) rfl
  refine g_lv (lv' := [(0, .ref (ad 0)), (1, .int x1), (2, .int x2)]) rfl ?_
  unfold f_X5_show at h
  refine g_aload_n F (dAt dk_X5_show 0 rfl) 0 rfl ?_
  refine g_iload_n F (dAt dk_X5_show 1 rfl) 1 rfl ?_
  refine g_invV_qc (jv ad) F mi_X5_shelfAt (gm mw_247 rfl) (dAt dk_X5_show 2 rfl) (rcx_of F rc_Main) [.int x1] rfl rfl (by decide) (Nat.le_of_ble_eq_true rfl) h (fun _ _ hf => c_X5_shelfAt hJ hf) (fun r1 t2 h => ?_)
  refine g_st (st' := [shv ad r1]) rfl ?_
  refine g_astoreS_n (lv' := [(3, shv ad r1), (0, .ref (ad 0)), (1, .int x1), (2, .int x2)]) F (dAt dk_X5_show 3 rfl) (by decide) rfl ?_
  refine g_aloadS_n F (dAt dk_X5_show 4 rfl) 0 rfl ?_
  refine g_ifnull (tgt := 26) F (dAt dk_X5_show 5 rfl) (by decide) h (fun e hhk3 => ?_) (fun k3 e hhk3 => ?_)
  · subst e
    have h := hhk3
    refine g_lv (lv' := [(3, .null), (0, .ref (ad 0)), (1, .int x1), (2, .int x2)]) rfl ?_
    refine g_sub (lv' := [(0, .ref (ad 0))]) [1] rfl ?_
    exact J26  t2 h
  · subst e
    have h := hhk3
    refine g_lv (lv' := [(3, .ref (ad (oSh k3))), (0, .ref (ad 0)), (1, .int x1), (2, .int x2)]) rfl ?_
    refine g_iload_n F (dAt dk_X5_show 6 rfl) 3 rfl ?_
    refine g_iconst (v := (-1)) F (dAt dk_X5_show 7 rfl) (by decide) ?_
    refine g_icmp_eq (tgt := 32) F (dAt dk_X5_show 8 rfl) (by decide) h (fun c4 h => ?_) (fun c4 h => ?_)
    · refine g_sub (lv' := [(2, .int x2), (3, shv ad (some k3))]) [3, 0] rfl ?_
      exact J32  (some k3) t2 h
    · refine g_aload_n F (dAt dk_X5_show 9 rfl) 1 rfl ?_
      refine gg_Main_land F (gm mw_212 rfl) (dAt dk_X5_show 10 rfl) ?_
      refine g_iload_n F (dAt dk_X5_show 11 rfl) 3 rfl ?_
      refine g_invV_ic F mi_X1_has (gm mw_312 rfl) (dAt dk_X5_show 12 rfl) (rcx_of F (rc_Land 0)) [.int x2] rfl rfl (by decide) (Nat.le_of_ble_eq_true rfl) h (fun _ _ hf => c_X1_has hJ hf) (fun r5 t6 h => ?_)
      refine g_if_ne (tgt := 32) F (dAt dk_X5_show 13 rfl) (by decide) h (fun c7 h => ?_) (fun c7 h => ?_)
      · refine g_sub (lv' := [(2, .int x2), (3, shv ad (some k3))]) [3, 0] rfl ?_
        exact J32  (some k3) t6 h
      · refine g_sub (lv' := [(0, .ref (ad 0))]) [1] rfl ?_
        exact J26  t6 h
theorem mi_X5_holds : MI yX5_holds cX5_holds 3 (some .int) "MillOfDistances" 1 := ⟨(gm mw_323 rfl), (gm mw_321 rfl), (gm mw_322 rfl), (gm mw_69 rfl), by decide +kernel, by decide⟩
theorem c_X5_holds {l : Launch} {D : va_G} {ad : Nat → Nat} {g : Gv} {t u : Mem} {x1 : Int32} {t' : Mem} {r : Int32} (hJ : Jad ad) (h : f_X5_holds x1 t = some (r, t')) : ConI l yX5_holds cX5_holds 3 (some .int) 1 [.ref (ad 0), .int x1] D ad g t u t' u r := by
  refine con_i hJ (by decide) (Nat.le_of_ble_eq_true rfl) rfl (fun X F E => ?_)
  refine g_lv (lv' := [(0, .ref (ad 0)), (1, .int x1)]) rfl ?_
  unfold f_X5_holds at h
  refine g_aload_n F (dAt dk_X5_holds 0 rfl) 0 rfl ?_
  refine g_iload_n F (dAt dk_X5_holds 1 rfl) 1 rfl ?_
  refine g_invV_qc (jv ad) F mi_X5_shelfAt (gm mw_247 rfl) (dAt dk_X5_holds 2 rfl) (rcx_of F rc_Main) [.int x1] rfl rfl (by decide) (Nat.le_of_ble_eq_true rfl) h (fun _ _ hf => c_X5_shelfAt hJ hf) (fun r1 t2 h => ?_)
  refine g_st (st' := [shv ad r1]) rfl ?_
  refine g_astoreS_n (lv' := [(2, shv ad r1), (0, .ref (ad 0)), (1, .int x1)]) F (dAt dk_X5_holds 3 rfl) (by decide) rfl ?_
  refine g_aloadS_n F (dAt dk_X5_holds 4 rfl) 0 rfl ?_
  refine g_ifnonnull (tgt := 12) F (dAt dk_X5_holds 5 rfl) (by decide) h (fun e hhk3 => ?_) (fun k3 e hhk3 => ?_)
  · subst e
    have h := hhk3
    refine g_lv (lv' := [(2, .null), (0, .ref (ad 0)), (1, .int x1)]) rfl ?_
    refine g_iconst (v := (-1)) F (dAt dk_X5_holds 6 rfl) (by decide) ?_
    cases h
    exact E (dAt dk_X5_holds 7 rfl) rfl
  · subst e
    have h := hhk3
    refine g_lv (lv' := [(2, .ref (ad (oSh k3))), (0, .ref (ad 0)), (1, .int x1)]) rfl ?_
    refine g_aload_n F (dAt dk_X5_holds 8 rfl) 0 rfl ?_
    refine g_invV_ic F mi_X4_holdsRow (gm mw_273 rfl) (dAt dk_X5_holds 9 rfl) (rcx_of F (rc_Shelf k3)) [] rfl rfl (by decide) (Nat.le_of_ble_eq_true rfl) h (fun _ _ hf => c_X4_holdsRow hJ hf) (fun r4 t5 h => ?_)
    refine g_if_eq (tgt := 29) F (dAt dk_X5_holds 10 rfl) (by decide) h (fun c6 h => ?_) (fun c6 h => ?_)
    · refine g_aload_n F (dAt dk_X5_holds 16 rfl) 0 rfl ?_
      refine gg_Shelf_place k3 F (gm mw_201 rfl) (dAt dk_X5_holds 17 rfl) ?_
      cases h
      exact E (dAt dk_X5_holds 18 rfl) rfl
    · refine g_bipush (v := 100) F (dAt dk_X5_holds 11 rfl) (by decide) ?_
      refine g_aload_n F (dAt dk_X5_holds 12 rfl) 0 rfl ?_
      refine gg_Shelf_sort k3 F (gm mw_199 rfl) (dAt dk_X5_holds 13 rfl) ?_
      refine g_iadd F (dAt dk_X5_holds 14 rfl) ?_
      refine g_goto (tgt := 33) F (dAt dk_X5_holds 15 rfl) (by decide) ?_
      cases h
      exact E (dAt dk_X5_holds 18 rfl) rfl
theorem mi_X5_says : MI yX5_says cX5_says 5 (some .int) "MillOfDistances" 2 := ⟨(gm mw_327 rfl), (gm mw_325 rfl), (gm mw_326 rfl), (gm mw_69 rfl), by decide +kernel, by decide⟩
theorem c_X5_says {l : Launch} {D : va_G} {ad : Nat → Nat} {g : Gv} {t u : Mem} {n : Nat} {x1 : Int32} {x2 : Int32} {t' : Mem} {r : Int32} (hJ : Jad ad) (h : f_X5_says n x1 x2 t = some (r, t')) : ConI l yX5_says cX5_says 5 (some .int) 2 [.ref (ad 0), .int x1, .int x2] D ad g t u t' u r := by
  refine con_i hJ (by decide) (Nat.le_of_ble_eq_true rfl) rfl (fun X F E => ?_)
  have J73 : ∀ (v3 : Option (Fin 8)) (v4 : Int32) (t0 : Mem), jn_X5_says_73 n x1 x2 v3 v4 t0 = some (r, t') → G X D ad g t0 u [(0, .ref (ad 0)), (2, .int x2), (3, shv ad v3), (4, .int v4)] 73 [] := by
    intro v3 v4 t0 h
    unfold jn_X5_says_73 at h
    refine g_iload F (dAt dk_X5_says 35 rfl) 3 rfl ?_
    refine g_if_eq (tgt := 85) F (dAt dk_X5_says 36 rfl) (by decide) h (fun c15 h => ?_) (fun c15 h => ?_)
    · refine g_iload_n F (dAt dk_X5_says 41 rfl) 1 rfl ?_
      refine g_case 1 h (fun c16 h => ?_) (fun c16 h => ?_)
      · refine g_tabIn (v := 1) (tgt := 124) (off := 38) F (dAt dk_X5_says 42 rfl) c16 (by decide) (by decide) rfl (by decide) ?_
        refine g_aload_n F (dAt dk_X5_says 43 rfl) 0 rfl ?_
        refine gg_Main_land F (gm mw_212 rfl) (dAt dk_X5_says 44 rfl) ?_
        refine g_aloadS_n F (dAt dk_X5_says 45 rfl) 2 rfl ?_
        refine g_nn h (fun k17 e hhk17 => ?_)
        subst e
        have h := hhk17
        refine g_lv (lv' := [(0, .ref (ad 0)), (2, .int x2), (3, .ref (ad (oSh k17))), (4, .int v4)]) rfl ?_
        refine g_st (st' := [.ref (ad (oSh k17)), .ref (ad (oLd 0))]) rfl ?_
        refine gg_Shelf_place k17 F (gm mw_201 rfl) (dAt dk_X5_says 46 rfl) ?_
        refine g_bipush (v := 10) F (dAt dk_X5_says 47 rfl) (by decide) ?_
        refine g_invV_ic F mi_X1_asks (gm mw_337 rfl) (dAt dk_X5_says 48 rfl) (rcx_of F (rc_Land 0)) [.int (t0.1 (oSh k17) 3), .int 10] rfl rfl (by decide) (Nat.le_of_ble_eq_true rfl) h (fun _ _ hf => c_X1_asks hJ hf) (fun r18 t19 h => ?_)
        cases h
        exact E (dAt dk_X5_says 49 rfl) rfl
      · refine g_case 2 h (fun c20 h => ?_) (fun c20 h => ?_)
        · refine g_tabIn (v := 2) (tgt := 138) (off := 52) F (dAt dk_X5_says 42 rfl) c20 (by decide) (by decide) rfl (by decide) ?_
          refine g_aload_n F (dAt dk_X5_says 50 rfl) 0 rfl ?_
          refine gg_Main_land F (gm mw_212 rfl) (dAt dk_X5_says 51 rfl) ?_
          refine g_aloadS_n F (dAt dk_X5_says 52 rfl) 2 rfl ?_
          refine g_nn h (fun k21 e hhk21 => ?_)
          subst e
          have h := hhk21
          refine g_lv (lv' := [(0, .ref (ad 0)), (2, .int x2), (3, .ref (ad (oSh k21))), (4, .int v4)]) rfl ?_
          refine g_st (st' := [.ref (ad (oSh k21)), .ref (ad (oLd 0))]) rfl ?_
          refine gg_Shelf_place k21 F (gm mw_201 rfl) (dAt dk_X5_says 53 rfl) ?_
          refine g_iconst (v := 1) F (dAt dk_X5_says 54 rfl) (by decide) ?_
          refine g_invV_ic F mi_X1_asks (gm mw_337 rfl) (dAt dk_X5_says 55 rfl) (rcx_of F (rc_Land 0)) [.int (t0.1 (oSh k21) 3), .int 1] rfl rfl (by decide) (Nat.le_of_ble_eq_true rfl) h (fun _ _ hf => c_X1_asks hJ hf) (fun r22 t23 h => ?_)
          cases h
          exact E (dAt dk_X5_says 56 rfl) rfl
        · refine g_case 3 h (fun c24 h => ?_) (fun c24 h => ?_)
          · refine g_tabIn (v := 3) (tgt := 124) (off := 38) F (dAt dk_X5_says 42 rfl) c24 (by decide) (by decide) rfl (by decide) ?_
            refine g_aload_n F (dAt dk_X5_says 43 rfl) 0 rfl ?_
            refine gg_Main_land F (gm mw_212 rfl) (dAt dk_X5_says 44 rfl) ?_
            refine g_aloadS_n F (dAt dk_X5_says 45 rfl) 2 rfl ?_
            refine g_nn h (fun k25 e hhk25 => ?_)
            subst e
            have h := hhk25
            refine g_lv (lv' := [(0, .ref (ad 0)), (2, .int x2), (3, .ref (ad (oSh k25))), (4, .int v4)]) rfl ?_
            refine g_st (st' := [.ref (ad (oSh k25)), .ref (ad (oLd 0))]) rfl ?_
            refine gg_Shelf_place k25 F (gm mw_201 rfl) (dAt dk_X5_says 46 rfl) ?_
            refine g_bipush (v := 10) F (dAt dk_X5_says 47 rfl) (by decide) ?_
            refine g_invV_ic F mi_X1_asks (gm mw_337 rfl) (dAt dk_X5_says 48 rfl) (rcx_of F (rc_Land 0)) [.int (t0.1 (oSh k25) 3), .int 10] rfl rfl (by decide) (Nat.le_of_ble_eq_true rfl) h (fun _ _ hf => c_X1_asks hJ hf) (fun r26 t27 h => ?_)
            cases h
            exact E (dAt dk_X5_says 49 rfl) rfl
          · refine g_case 4 h (fun c28 h => ?_) (fun c28 h => ?_)
            · refine g_tabIn (v := 4) (tgt := 151) (off := 65) F (dAt dk_X5_says 42 rfl) c28 (by decide) (by decide) rfl (by decide) ?_
              refine g_aload_n F (dAt dk_X5_says 57 rfl) 0 rfl ?_
              refine gg_Main_land F (gm mw_212 rfl) (dAt dk_X5_says 58 rfl) ?_
              refine g_aloadS_n F (dAt dk_X5_says 59 rfl) 2 rfl ?_
              refine g_nn h (fun k29 e hhk29 => ?_)
              subst e
              have h := hhk29
              refine g_lv (lv' := [(0, .ref (ad 0)), (2, .int x2), (3, .ref (ad (oSh k29))), (4, .int v4)]) rfl ?_
              refine g_st (st' := [.ref (ad (oSh k29)), .ref (ad (oLd 0))]) rfl ?_
              refine gg_Shelf_place k29 F (gm mw_201 rfl) (dAt dk_X5_says 60 rfl) ?_
              refine g_bipush (v := 99) F (dAt dk_X5_says 61 rfl) (by decide) ?_
              refine g_invV_ic F mi_X1_asks (gm mw_337 rfl) (dAt dk_X5_says 62 rfl) (rcx_of F (rc_Land 0)) [.int (t0.1 (oSh k29) 3), .int 99] rfl rfl (by decide) (Nat.le_of_ble_eq_true rfl) h (fun _ _ hf => c_X1_asks hJ hf) (fun r30 t31 h => ?_)
              cases h
              exact E (dAt dk_X5_says 63 rfl) rfl
            · refine g_case 5 h (fun c32 h => ?_) (fun c32 h => ?_)
              · refine g_tabIn (v := 5) (tgt := 138) (off := 52) F (dAt dk_X5_says 42 rfl) c32 (by decide) (by decide) rfl (by decide) ?_
                refine g_aload_n F (dAt dk_X5_says 50 rfl) 0 rfl ?_
                refine gg_Main_land F (gm mw_212 rfl) (dAt dk_X5_says 51 rfl) ?_
                refine g_aloadS_n F (dAt dk_X5_says 52 rfl) 2 rfl ?_
                refine g_nn h (fun k33 e hhk33 => ?_)
                subst e
                have h := hhk33
                refine g_lv (lv' := [(0, .ref (ad 0)), (2, .int x2), (3, .ref (ad (oSh k33))), (4, .int v4)]) rfl ?_
                refine g_st (st' := [.ref (ad (oSh k33)), .ref (ad (oLd 0))]) rfl ?_
                refine gg_Shelf_place k33 F (gm mw_201 rfl) (dAt dk_X5_says 53 rfl) ?_
                refine g_iconst (v := 1) F (dAt dk_X5_says 54 rfl) (by decide) ?_
                refine g_invV_ic F mi_X1_asks (gm mw_337 rfl) (dAt dk_X5_says 55 rfl) (rcx_of F (rc_Land 0)) [.int (t0.1 (oSh k33) 3), .int 1] rfl rfl (by decide) (Nat.le_of_ble_eq_true rfl) h (fun _ _ hf => c_X1_asks hJ hf) (fun r34 t35 h => ?_)
                cases h
                exact E (dAt dk_X5_says 56 rfl) rfl
              · refine g_case 6 h (fun c36 h => ?_) (fun c36 h => ?_)
                · refine g_tabIn (v := 6) (tgt := 151) (off := 65) F (dAt dk_X5_says 42 rfl) c36 (by decide) (by decide) rfl (by decide) ?_
                  refine g_aload_n F (dAt dk_X5_says 57 rfl) 0 rfl ?_
                  refine gg_Main_land F (gm mw_212 rfl) (dAt dk_X5_says 58 rfl) ?_
                  refine g_aloadS_n F (dAt dk_X5_says 59 rfl) 2 rfl ?_
                  refine g_nn h (fun k37 e hhk37 => ?_)
                  subst e
                  have h := hhk37
                  refine g_lv (lv' := [(0, .ref (ad 0)), (2, .int x2), (3, .ref (ad (oSh k37))), (4, .int v4)]) rfl ?_
                  refine g_st (st' := [.ref (ad (oSh k37)), .ref (ad (oLd 0))]) rfl ?_
                  refine gg_Shelf_place k37 F (gm mw_201 rfl) (dAt dk_X5_says 60 rfl) ?_
                  refine g_bipush (v := 99) F (dAt dk_X5_says 61 rfl) (by decide) ?_
                  refine g_invV_ic F mi_X1_asks (gm mw_337 rfl) (dAt dk_X5_says 62 rfl) (rcx_of F (rc_Land 0)) [.int (t0.1 (oSh k37) 3), .int 99] rfl rfl (by decide) (Nat.le_of_ble_eq_true rfl) h (fun _ _ hf => c_X1_asks hJ hf) (fun r38 t39 h => ?_)
                  cases h
                  exact E (dAt dk_X5_says 63 rfl) rfl
                · have := lv_neT c16 (a := 1) (by decide)
                  have := lv_neT c20 (a := 2) (by decide)
                  have := lv_neT c24 (a := 3) (by decide)
                  have := lv_neT c28 (a := 4) (by decide)
                  have := lv_neT c32 (a := 5) (by decide)
                  have := lv_neT c36 (a := 6) (by decide)
                  refine g_tabOut (tgt := 165) F (dAt dk_X5_says 42 rfl) (by omega) (by decide) ?_
                  refine g_aload_n F (dAt dk_X5_says 64 rfl) 0 rfl ?_
                  refine gg_Main_land F (gm mw_212 rfl) (dAt dk_X5_says 65 rfl) ?_
                  refine g_aloadS_n F (dAt dk_X5_says 66 rfl) 2 rfl ?_
                  refine g_nn h (fun k40 e hhk40 => ?_)
                  subst e
                  have h := hhk40
                  refine g_lv (lv' := [(0, .ref (ad 0)), (2, .int x2), (3, .ref (ad (oSh k40))), (4, .int v4)]) rfl ?_
                  refine g_st (st' := [.ref (ad (oSh k40)), .ref (ad (oLd 0))]) rfl ?_
                  refine gg_Shelf_place k40 F (gm mw_201 rfl) (dAt dk_X5_says 67 rfl) ?_
                  refine g_invV_ic F mi_X1_neighbours (gm mw_341 rfl) (dAt dk_X5_says 68 rfl) (rcx_of F (rc_Land 0)) [.int (t0.1 (oSh k40) 3)] rfl rfl (by decide) (Nat.le_of_ble_eq_true rfl) h (fun _ _ hf => c_X1_neighbours hJ hf) (fun r41 t42 h => ?_)
                  refine g_invS_ip F ms_J6_bitCount_0f7a4 (gm mw_349 rfl) (dAt dk_X5_says 69 rfl) [.int r41] rfl rfl (by decide) (Nat.le_of_ble_eq_true rfl) h (fun _ hf => c_J6_bitCount_0f7a4 hJ hf) (fun r43 h => ?_)
                  cases h
                  exact E (dAt dk_X5_says 70 rfl) rfl
    · refine g_aload_n F (dAt dk_X5_says 37 rfl) 0 rfl ?_
      refine g_iload F (dAt dk_X5_says 38 rfl) 3 rfl ?_
      refine g_invV_ic F mi_X5_refuse (gm mw_251 rfl) (dAt dk_X5_says 39 rfl) (rcx_of F rc_Main) [.int v4] rfl rfl (by decide) (Nat.le_of_ble_eq_true rfl) h (fun _ _ hf => c_X5_refuse hJ hf) (fun r44 t45 h => ?_)
      cases h
      exact E (dAt dk_X5_says 40 rfl) rfl
  have J20 : ∀ (v3 : Option (Fin 8)) (t0 : Mem), jn_X5_says_20 n x1 x2 v3 t0 = some (r, t') → G X D ad g t0 u [(0, .ref (ad 0)), (2, .int x2), (3, shv ad v3)] 20 [] := by
    intro v3 t0 h
    unfold jn_X5_says_20 at h
    refine g_iconst (v := (-1)) F (dAt dk_X5_says 11 rfl) (by decide) ?_
    refine g_istore (lv' := [(4, .int (-1)), (0, .ref (ad 0)), (2, .int x2), (3, shv ad v3)]) F (dAt dk_X5_says 12 rfl) (by decide) (by cases v3 <;> rfl) ?_
    refine g_goto (tgt := 73) F (dAt dk_X5_says 13 rfl) (by decide) ?_
    refine g_sub (lv' := [(0, .ref (ad 0)), (2, .int x2), (3, shv ad v3), (4, .int (-1))]) [1, 2, 3, 0] rfl ?_
    exact J73  v3 (-1) t0 h
  refine g_lv (lv' := [(0, .ref (ad 0)), (1, .int x1), (2, .int x2)]) rfl ?_
  unfold f_X5_says at h
  refine g_aload_n F (dAt dk_X5_says 0 rfl) 0 rfl ?_
  refine g_iload_n F (dAt dk_X5_says 1 rfl) 1 rfl ?_
  refine g_invV_qc (jv ad) F mi_X5_shelfAt (gm mw_247 rfl) (dAt dk_X5_says 2 rfl) (rcx_of F rc_Main) [.int x1] rfl rfl (by decide) (Nat.le_of_ble_eq_true rfl) h (fun _ _ hf => c_X5_shelfAt hJ hf) (fun r1 t2 h => ?_)
  refine g_st (st' := [shv ad r1]) rfl ?_
  refine g_astoreS_n (lv' := [(3, shv ad r1), (0, .ref (ad 0)), (1, .int x1), (2, .int x2)]) F (dAt dk_X5_says 3 rfl) (by decide) rfl ?_
  refine g_iconst (v := 0) F (dAt dk_X5_says 4 rfl) (by decide) ?_
  refine g_istore (lv' := [(4, .int 0), (3, shv ad r1), (0, .ref (ad 0)), (1, .int x1), (2, .int x2)]) F (dAt dk_X5_says 5 rfl) (by decide) (by cases r1 <;> rfl) ?_
  refine g_aloadS_n F (dAt dk_X5_says 6 rfl) 1 rfl ?_
  refine g_ifnull (tgt := 20) F (dAt dk_X5_says 7 rfl) (by decide) h (fun e hhk3 => ?_) (fun k3 e hhk3 => ?_)
  · subst e
    have h := hhk3
    refine g_lv (lv' := [(4, .int 0), (3, .null), (0, .ref (ad 0)), (1, .int x1), (2, .int x2)]) rfl ?_
    refine g_sub (lv' := [(0, .ref (ad 0)), (2, .int x2), (3, shv ad none)]) [2, 4, 1] rfl ?_
    exact J20  none t2 h
  · subst e
    have h := hhk3
    refine g_lv (lv' := [(4, .int 0), (3, .ref (ad (oSh k3))), (0, .ref (ad 0)), (1, .int x1), (2, .int x2)]) rfl ?_
    refine g_iload_n F (dAt dk_X5_says 8 rfl) 4 rfl ?_
    refine g_invS_ip F ms_X5_isKind (gm mw_328 rfl) (dAt dk_X5_says 9 rfl) [.int x2] rfl rfl (by decide) (Nat.le_of_ble_eq_true rfl) h (fun _ hf => c_X5_isKind hJ hf) (fun r4 h => ?_)
    refine g_if_ne (tgt := 26) F (dAt dk_X5_says 10 rfl) (by decide) h (fun c5 h => ?_) (fun c5 h => ?_)
    · refine g_aload_n F (dAt dk_X5_says 14 rfl) 1 rfl ?_
      refine g_invV_ic F mi_X4_holdsRow (gm mw_273 rfl) (dAt dk_X5_says 15 rfl) (rcx_of F (rc_Shelf k3)) [] rfl rfl (by decide) (Nat.le_of_ble_eq_true rfl) h (fun _ _ hf => c_X4_holdsRow hJ hf) (fun r6 t7 h => ?_)
      refine g_if_eq (tgt := 40) F (dAt dk_X5_says 16 rfl) (by decide) h (fun c8 h => ?_) (fun c8 h => ?_)
      · refine g_aload_n F (dAt dk_X5_says 20 rfl) 1 rfl ?_
        refine g_invV_ic F mi_X4_holdsPlace (gm mw_269 rfl) (dAt dk_X5_says 21 rfl) (rcx_of F (rc_Shelf k3)) [] rfl rfl (by decide) (Nat.le_of_ble_eq_true rfl) h (fun _ _ hf => c_X4_holdsPlace hJ hf) (fun r9 t10 h => ?_)
        refine g_if_ne (tgt := 54) F (dAt dk_X5_says 22 rfl) (by decide) h (fun c11 h => ?_) (fun c11 h => ?_)
        · refine g_aload_n F (dAt dk_X5_says 26 rfl) 2 rfl ?_
          refine gg_Main_land F (gm mw_212 rfl) (dAt dk_X5_says 27 rfl) ?_
          refine g_aload_n F (dAt dk_X5_says 28 rfl) 1 rfl ?_
          refine gg_Shelf_place k3 F (gm mw_201 rfl) (dAt dk_X5_says 29 rfl) ?_
          refine g_iload_n F (dAt dk_X5_says 30 rfl) 4 rfl ?_
          refine g_invV_ic F mi_X1_isOf (gm mw_331 rfl) (dAt dk_X5_says 31 rfl) (rcx_of F (rc_Land 0)) [.int (t10.1 (oSh k3) 3), .int x2] rfl rfl (by decide) (Nat.le_of_ble_eq_true rfl) h (fun _ _ hf => c_X1_isOf hJ hf) (fun r12 t13 h => ?_)
          refine g_if_ne (tgt := 73) F (dAt dk_X5_says 32 rfl) (by decide) h (fun c14 h => ?_) (fun c14 h => ?_)
          · refine g_sub (lv' := [(0, .ref (ad 0)), (2, .int x2), (3, shv ad (some k3)), (4, .int 0)]) [2, 4, 1, 0] rfl ?_
            exact J73  (some k3) 0 t13 h
          · refine g_bipush (v := (-2)) F (dAt dk_X5_says 33 rfl) (by decide) ?_
            refine g_istore (lv' := [(4, .int (-2)), (3, .ref (ad (oSh k3))), (0, .ref (ad 0)), (1, .int x1), (2, .int x2)]) F (dAt dk_X5_says 34 rfl) (by decide) rfl ?_
            refine g_sub (lv' := [(0, .ref (ad 0)), (2, .int x2), (3, shv ad (some k3)), (4, .int (-2))]) [2, 4, 1, 0] rfl ?_
            exact J73  (some k3) (-2) t13 h
        · refine g_bipush (v := (-3)) F (dAt dk_X5_says 23 rfl) (by decide) ?_
          refine g_istore (lv' := [(4, .int (-3)), (3, .ref (ad (oSh k3))), (0, .ref (ad 0)), (1, .int x1), (2, .int x2)]) F (dAt dk_X5_says 24 rfl) (by decide) rfl ?_
          refine g_goto (tgt := 73) F (dAt dk_X5_says 25 rfl) (by decide) ?_
          refine g_sub (lv' := [(0, .ref (ad 0)), (2, .int x2), (3, shv ad (some k3)), (4, .int (-3))]) [2, 4, 1, 0] rfl ?_
          exact J73  (some k3) (-3) t10 h
      · refine g_bipush (v := (-2)) F (dAt dk_X5_says 17 rfl) (by decide) ?_
        refine g_istore (lv' := [(4, .int (-2)), (3, .ref (ad (oSh k3))), (0, .ref (ad 0)), (1, .int x1), (2, .int x2)]) F (dAt dk_X5_says 18 rfl) (by decide) rfl ?_
        refine g_goto (tgt := 73) F (dAt dk_X5_says 19 rfl) (by decide) ?_
        refine g_sub (lv' := [(0, .ref (ad 0)), (2, .int x2), (3, shv ad (some k3)), (4, .int (-2))]) [2, 4, 1, 0] rfl ?_
        exact J73  (some k3) (-2) t7 h
    · refine g_sub (lv' := [(0, .ref (ad 0)), (2, .int x2), (3, shv ad (some k3))]) [2, 4, 1] rfl ?_
      exact J20  (some k3) t2 h
theorem mi_X5_place : MI yX5_place cX5_place 3 (some .int) "MillOfDistances" 2 := ⟨(gm mw_358 rfl), (gm mw_356 rfl), (gm mw_357 rfl), (gm mw_69 rfl), by decide +kernel, by decide⟩
theorem c_X5_place {l : Launch} {D : va_G} {ad : Nat → Nat} {g : Gv} {t u : Mem} {x1 : Int32} {x2 : Int32} {t' : Mem} {r : Int32} (hJ : Jad ad) (h : f_X5_place x1 x2 t = some (r, t')) : ConI l yX5_place cX5_place 3 (some .int) 2 [.ref (ad 0), .int x1, .int x2] D ad g t u t' u r := by
  refine con_i hJ (by decide) (Nat.le_of_ble_eq_true rfl) rfl (fun X F E => ?_)
  have J23 : ∀ (t0 : Mem), jn_X5_place_23 x1 x2 t0 = some (r, t') → G X D ad g t0 u [(0, .ref (ad 0))] 23 [] := by
    intro t0 h
    unfold jn_X5_place_23 at h
    refine g_aload_n F (dAt dk_X5_place 12 rfl) 0 rfl ?_
    refine g_bipush (v := (-6)) F (dAt dk_X5_place 13 rfl) (by decide) ?_
    refine g_invV_ic F mi_X5_refuse (gm mw_251 rfl) (dAt dk_X5_place 14 rfl) (rcx_of F rc_Main) [.int (-6)] rfl rfl (by decide) (Nat.le_of_ble_eq_true rfl) h (fun _ _ hf => c_X5_refuse hJ hf) (fun r14 t15 h => ?_)
    cases h
    exact E (dAt dk_X5_place 15 rfl) rfl
  refine g_lv (lv' := [(0, .ref (ad 0)), (1, .int x1), (2, .int x2)]) rfl ?_
  unfold f_X5_place at h
  refine g_iload_n F (dAt dk_X5_place 0 rfl) 1 rfl ?_
  refine g_invS_ip F ms_X5_isKind (gm mw_328 rfl) (dAt dk_X5_place 1 rfl) [.int x1] rfl rfl (by decide) (Nat.le_of_ble_eq_true rfl) h (fun _ hf => c_X5_isKind hJ hf) (fun r1 h => ?_)
  refine g_if_ne (tgt := 13) F (dAt dk_X5_place 2 rfl) (by decide) h (fun c2 h => ?_) (fun c2 h => ?_)
  · refine g_iload_n F (dAt dk_X5_place 7 rfl) 2 rfl ?_
    refine g_if_lt (tgt := 23) F (dAt dk_X5_place 8 rfl) (by decide) h (fun c3 h => ?_) (fun c3 h => ?_)
    · refine g_sub (lv' := [(0, .ref (ad 0))]) [0] rfl ?_
      exact J23  t h
    · refine g_iload_n F (dAt dk_X5_place 9 rfl) 2 rfl ?_
      refine g_bipush (v := 9) F (dAt dk_X5_place 10 rfl) (by decide) ?_
      refine g_icmp_le (tgt := 30) F (dAt dk_X5_place 11 rfl) (by decide) h (fun c4 h => ?_) (fun c4 h => ?_)
      · refine g_aload_n F (dAt dk_X5_place 16 rfl) 0 rfl ?_
        refine gg_Main_land F (gm mw_212 rfl) (dAt dk_X5_place 17 rfl) ?_
        refine g_invV_ic F mi_X1_hasRoom (gm mw_359 rfl) (dAt dk_X5_place 18 rfl) (rcx_of F (rc_Land 0)) [] rfl rfl (by decide) (Nat.le_of_ble_eq_true rfl) h (fun _ _ hf => c_X1_hasRoom hJ hf) (fun r5 t6 h => ?_)
        refine g_if_ne (tgt := 47) F (dAt dk_X5_place 19 rfl) (by decide) h (fun c7 h => ?_) (fun c7 h => ?_)
        · refine g_aload_n F (dAt dk_X5_place 24 rfl) 0 rfl ?_
          refine gg_Main_land F (gm mw_212 rfl) (dAt dk_X5_place 25 rfl) ?_
          refine g_iload_n F (dAt dk_X5_place 26 rfl) 1 rfl ?_
          refine g_iload_n F (dAt dk_X5_place 27 rfl) 2 rfl ?_
          refine g_invV_ic F mi_X1_found (gm mw_363 rfl) (dAt dk_X5_place 28 rfl) (rcx_of F (rc_Land 0)) [.int x1, .int x2] rfl rfl (by decide) (Nat.le_of_ble_eq_true rfl) h (fun _ _ hf => c_X1_found hJ hf) (fun r8 t9 h => ?_)
          cases h
          exact E (dAt dk_X5_place 29 rfl) rfl
        · refine g_aload_n F (dAt dk_X5_place 20 rfl) 0 rfl ?_
          refine g_bipush (v := (-7)) F (dAt dk_X5_place 21 rfl) (by decide) ?_
          refine g_invV_ic F mi_X5_refuse (gm mw_251 rfl) (dAt dk_X5_place 22 rfl) (rcx_of F rc_Main) [.int (-7)] rfl rfl (by decide) (Nat.le_of_ble_eq_true rfl) h (fun _ _ hf => c_X5_refuse hJ hf) (fun r10 t11 h => ?_)
          cases h
          exact E (dAt dk_X5_place 23 rfl) rfl
      · refine g_sub (lv' := [(0, .ref (ad 0))]) [0] rfl ?_
        exact J23  t h
  · refine g_aload_n F (dAt dk_X5_place 3 rfl) 0 rfl ?_
    refine g_iconst (v := (-1)) F (dAt dk_X5_place 4 rfl) (by decide) ?_
    refine g_invV_ic F mi_X5_refuse (gm mw_251 rfl) (dAt dk_X5_place 5 rfl) (rcx_of F rc_Main) [.int (-1)] rfl rfl (by decide) (Nat.le_of_ble_eq_true rfl) h (fun _ _ hf => c_X5_refuse hJ hf) (fun r12 t13 h => ?_)
    cases h
    exact E (dAt dk_X5_place 6 rfl) rfl
theorem mi_X5_placeOf : MI yX5_placeOf cX5_placeOf 3 (some .int) "MillOfDistances" 2 := ⟨(gm mw_371 rfl), (gm mw_369 rfl), (gm mw_370 rfl), (gm mw_69 rfl), by decide +kernel, by decide⟩
theorem c_X5_placeOf {l : Launch} {D : va_G} {ad : Nat → Nat} {g : Gv} {t u : Mem} {n : Nat} {x1 : Int32} {x2 : Int32} {t' : Mem} {r : Int32} (hJ : Jad ad) (h : f_X5_placeOf n x1 x2 t = some (r, t')) : ConI l yX5_placeOf cX5_placeOf 3 (some .int) 2 [.ref (ad 0), .int x1, .int x2] D ad g t u t' u r := by
  refine con_i hJ (by decide) (Nat.le_of_ble_eq_true rfl) rfl (fun X F E => ?_)
  have J20 : ∀ (t0 : Mem), jn_X5_placeOf_20 n x1 x2 t0 = some (r, t') → G X D ad g t0 u [(0, .ref (ad 0))] 20 [] := by
    intro t0 h
    unfold jn_X5_placeOf_20 at h
    refine g_aload_n F (dAt dk_X5_placeOf 10 rfl) 0 rfl ?_
    refine g_bipush (v := (-5)) F (dAt dk_X5_placeOf 11 rfl) (by decide) ?_
    refine g_invV_ic F mi_X5_refuse (gm mw_251 rfl) (dAt dk_X5_placeOf 12 rfl) (rcx_of F rc_Main) [.int (-5)] rfl rfl (by decide) (Nat.le_of_ble_eq_true rfl) h (fun _ _ hf => c_X5_refuse hJ hf) (fun r15 t16 h => ?_)
    cases h
    exact E (dAt dk_X5_placeOf 13 rfl) rfl
  refine g_lv (lv' := [(0, .ref (ad 0)), (1, .int x1), (2, .int x2)]) rfl ?_
  unfold f_X5_placeOf at h
  refine g_aload_n F (dAt dk_X5_placeOf 0 rfl) 0 rfl ?_
  refine gg_Main_land F (gm mw_212 rfl) (dAt dk_X5_placeOf 1 rfl) ?_
  refine g_iload_n F (dAt dk_X5_placeOf 2 rfl) 1 rfl ?_
  refine g_invV_ic F mi_X1_has (gm mw_312 rfl) (dAt dk_X5_placeOf 3 rfl) (rcx_of F (rc_Land 0)) [.int x1] rfl rfl (by decide) (Nat.le_of_ble_eq_true rfl) h (fun _ _ hf => c_X1_has hJ hf) (fun r1 t2 h => ?_)
  refine g_if_eq (tgt := 20) F (dAt dk_X5_placeOf 4 rfl) (by decide) h (fun c3 h => ?_) (fun c3 h => ?_)
  · refine g_sub (lv' := [(0, .ref (ad 0))]) [0] rfl ?_
    exact J20  t2 h
  · refine g_iload_n F (dAt dk_X5_placeOf 5 rfl) 2 rfl ?_
    refine g_if_lt (tgt := 20) F (dAt dk_X5_placeOf 6 rfl) (by decide) h (fun c4 h => ?_) (fun c4 h => ?_)
    · refine g_sub (lv' := [(0, .ref (ad 0))]) [0] rfl ?_
      exact J20  t2 h
    · refine g_iload_n F (dAt dk_X5_placeOf 7 rfl) 2 rfl ?_
      refine g_iconst (v := 3) F (dAt dk_X5_placeOf 8 rfl) (by decide) ?_
      refine g_icmp_le (tgt := 27) F (dAt dk_X5_placeOf 9 rfl) (by decide) h (fun c5 h => ?_) (fun c5 h => ?_)
      · refine g_iload_n F (dAt dk_X5_placeOf 14 rfl) 2 rfl ?_
        refine g_case 0 h (fun c6 h => ?_) (fun c6 h => ?_)
        · refine g_tabIn (v := 0) (tgt := 56) (off := 28) F (dAt dk_X5_placeOf 15 rfl) c6 (by decide) (by decide) rfl (by decide) ?_
          refine g_aload_n F (dAt dk_X5_placeOf 16 rfl) 0 rfl ?_
          refine gg_Main_land F (gm mw_212 rfl) (dAt dk_X5_placeOf 17 rfl) ?_
          refine gg_Land_kinds 0 F (gm mw_99 rfl) (dAt dk_X5_placeOf 18 rfl) ?_
          refine g_iload_n F (dAt dk_X5_placeOf 19 rfl) 1 rfl ?_
          refine g_ck h (fun hi7 h => ?_)
          refine g_ialoadc F (ai_kinds 0) (dAt dk_X5_placeOf 20 rfl) hi7 ?_
          cases h
          exact E (dAt dk_X5_placeOf 21 rfl) rfl
        · refine g_case 1 h (fun c8 h => ?_) (fun c8 h => ?_)
          · refine g_tabIn (v := 1) (tgt := 66) (off := 38) F (dAt dk_X5_placeOf 15 rfl) c8 (by decide) (by decide) rfl (by decide) ?_
            refine g_aload_n F (dAt dk_X5_placeOf 22 rfl) 0 rfl ?_
            refine gg_Main_land F (gm mw_212 rfl) (dAt dk_X5_placeOf 23 rfl) ?_
            refine gg_Land_marks 0 F (gm mw_101 rfl) (dAt dk_X5_placeOf 24 rfl) ?_
            refine g_iload_n F (dAt dk_X5_placeOf 25 rfl) 1 rfl ?_
            refine g_ck h (fun hi9 h => ?_)
            refine g_ialoadc F (ai_marks 0) (dAt dk_X5_placeOf 26 rfl) hi9 ?_
            cases h
            exact E (dAt dk_X5_placeOf 27 rfl) rfl
          · refine g_case 2 h (fun c10 h => ?_) (fun c10 h => ?_)
            · refine g_tabIn (v := 2) (tgt := 76) (off := 48) F (dAt dk_X5_placeOf 15 rfl) c10 (by decide) (by decide) rfl (by decide) ?_
              refine g_aload_n F (dAt dk_X5_placeOf 28 rfl) 0 rfl ?_
              refine gg_Main_land F (gm mw_212 rfl) (dAt dk_X5_placeOf 29 rfl) ?_
              refine g_iload_n F (dAt dk_X5_placeOf 30 rfl) 1 rfl ?_
              refine g_invV_ic F mi_X1_neighbours (gm mw_341 rfl) (dAt dk_X5_placeOf 31 rfl) (rcx_of F (rc_Land 0)) [.int x1] rfl rfl (by decide) (Nat.le_of_ble_eq_true rfl) h (fun _ _ hf => c_X1_neighbours hJ hf) (fun r11 t12 h => ?_)
              cases h
              exact E (dAt dk_X5_placeOf 32 rfl) rfl
            · have := lv_neT c6 (a := 0) (by decide)
              have := lv_neT c8 (a := 1) (by decide)
              have := lv_neT c10 (a := 2) (by decide)
              refine g_tabOut (tgt := 85) F (dAt dk_X5_placeOf 15 rfl) (by omega) (by decide) ?_
              refine g_aload_n F (dAt dk_X5_placeOf 33 rfl) 0 rfl ?_
              refine gg_Main_land F (gm mw_212 rfl) (dAt dk_X5_placeOf 34 rfl) ?_
              refine g_iload_n F (dAt dk_X5_placeOf 35 rfl) 1 rfl ?_
              refine g_invV_ic F mi_X1_milesOf (gm mw_372 rfl) (dAt dk_X5_placeOf 36 rfl) (rcx_of F (rc_Land 0)) [.int x1] rfl rfl (by decide) (Nat.le_of_ble_eq_true rfl) h (fun _ _ hf => c_X1_milesOf hJ hf) (fun r13 t14 h => ?_)
              cases h
              exact E (dAt dk_X5_placeOf 37 rfl) rfl
      · refine g_sub (lv' := [(0, .ref (ad 0))]) [0] rfl ?_
        exact J20  t2 h
theorem mi_X5_road : MI yX5_road cX5_road 5 (some .int) "MillOfDistances" 3 := ⟨(gm mw_379 rfl), (gm mw_377 rfl), (gm mw_378 rfl), (gm mw_69 rfl), by decide +kernel, by decide⟩
theorem c_X5_road {l : Launch} {D : va_G} {ad : Nat → Nat} {g : Gv} {t u : Mem} {x1 : Int32} {x2 : Int32} {x3 : Int32} {t' : Mem} {r : Int32} (hJ : Jad ad) (h : f_X5_road x1 x2 x3 t = some (r, t')) : ConI l yX5_road cX5_road 5 (some .int) 2 [.ref (ad 0), .int x1, .int x2, .int x3] D ad g t u t' u r := by
  refine con_i hJ (by decide) (Nat.le_of_ble_eq_true rfl) rfl (fun X F E => ?_)
  have J34 : ∀ (t0 : Mem), jn_X5_road_34 x1 x2 x3 t0 = some (r, t') → G X D ad g t0 u [(0, .ref (ad 0))] 34 [] := by
    intro t0 h
    unfold jn_X5_road_34 at h
    refine g_aload_n F (dAt dk_X5_road 18 rfl) 0 rfl ?_
    refine g_bipush (v := (-6)) F (dAt dk_X5_road 19 rfl) (by decide) ?_
    refine g_invV_ic F mi_X5_refuse (gm mw_251 rfl) (dAt dk_X5_road 20 rfl) (rcx_of F rc_Main) [.int (-6)] rfl rfl (by decide) (Nat.le_of_ble_eq_true rfl) h (fun _ _ hf => c_X5_refuse hJ hf) (fun r12 t13 h => ?_)
    cases h
    exact E (dAt dk_X5_road 21 rfl) rfl
  refine g_lv (lv' := [(0, .ref (ad 0)), (1, .int x1), (2, .int x2), (3, .int x3)]) rfl ?_
  unfold f_X5_road at h
  refine g_aload_n F (dAt dk_X5_road 0 rfl) 0 rfl ?_
  refine gg_Main_land F (gm mw_212 rfl) (dAt dk_X5_road 1 rfl) ?_
  refine g_iload_n F (dAt dk_X5_road 2 rfl) 1 rfl ?_
  refine g_iload_n F (dAt dk_X5_road 3 rfl) 2 rfl ?_
  refine g_invV_ic F mi_X1_hasBoth (gm mw_380 rfl) (dAt dk_X5_road 4 rfl) (rcx_of F (rc_Land 0)) [.int x1, .int x2] rfl rfl (by decide) (Nat.le_of_ble_eq_true rfl) h (fun _ _ hf => c_X1_hasBoth hJ hf) (fun r1 t2 h => ?_)
  refine g_if_ne (tgt := 18) F (dAt dk_X5_road 5 rfl) (by decide) h (fun c3 h => ?_) (fun c3 h => ?_)
  · refine g_iload_n F (dAt dk_X5_road 10 rfl) 1 rfl ?_
    refine g_iload_n F (dAt dk_X5_road 11 rfl) 2 rfl ?_
    refine g_icmp_eq (tgt := 34) F (dAt dk_X5_road 12 rfl) (by decide) h (fun c4 h => ?_) (fun c4 h => ?_)
    · refine g_sub (lv' := [(0, .ref (ad 0))]) [0] rfl ?_
      exact J34  t2 h
    · refine g_iload_n F (dAt dk_X5_road 13 rfl) 3 rfl ?_
      refine g_if_lt (tgt := 34) F (dAt dk_X5_road 14 rfl) (by decide) h (fun c5 h => ?_) (fun c5 h => ?_)
      · refine g_sub (lv' := [(0, .ref (ad 0))]) [0] rfl ?_
        exact J34  t2 h
      · refine g_iload_n F (dAt dk_X5_road 15 rfl) 3 rfl ?_
        refine g_sipush (v := 999) F (dAt dk_X5_road 16 rfl) (by decide) ?_
        refine g_icmp_le (tgt := 41) F (dAt dk_X5_road 17 rfl) (by decide) h (fun c6 h => ?_) (fun c6 h => ?_)
        · refine g_aload_n F (dAt dk_X5_road 22 rfl) 0 rfl ?_
          refine gg_Main_land F (gm mw_212 rfl) (dAt dk_X5_road 23 rfl) ?_
          refine g_iload_n F (dAt dk_X5_road 24 rfl) 1 rfl ?_
          refine g_iload_n F (dAt dk_X5_road 25 rfl) 2 rfl ?_
          refine g_invV_ic F mi_X1_between (gm mw_384 rfl) (dAt dk_X5_road 26 rfl) (rcx_of F (rc_Land 0)) [.int x1, .int x2] rfl rfl (by decide) (Nat.le_of_ble_eq_true rfl) h (fun _ _ hf => c_X1_between hJ hf) (fun r7 t8 h => ?_)
          refine g_istore (lv' := [(4, .int r7), (0, .ref (ad 0)), (1, .int x1), (2, .int x2), (3, .int x3)]) F (dAt dk_X5_road 27 rfl) (by decide) rfl ?_
          refine g_aload_n F (dAt dk_X5_road 28 rfl) 1 rfl ?_
          refine gg_Main_land F (gm mw_212 rfl) (dAt dk_X5_road 29 rfl) ?_
          refine g_iload_n F (dAt dk_X5_road 30 rfl) 2 rfl ?_
          refine g_iload_n F (dAt dk_X5_road 31 rfl) 3 rfl ?_
          refine g_iload_n F (dAt dk_X5_road 32 rfl) 4 rfl ?_
          refine g_invV_vc F mi_X1_lay (gm mw_385 rfl) (dAt dk_X5_road 33 rfl) (rcx_of F (rc_Land 0)) [.int x1, .int x2, .int x3] rfl rfl (by decide) (Nat.le_of_ble_eq_true rfl) h (fun _ _ hf => c_X1_lay hJ hf) (fun _ t9 h => ?_)
          refine g_iload F (dAt dk_X5_road 34 rfl) 0 rfl ?_
          cases h
          exact E (dAt dk_X5_road 35 rfl) rfl
        · refine g_sub (lv' := [(0, .ref (ad 0))]) [0] rfl ?_
          exact J34  t2 h
  · refine g_aload_n F (dAt dk_X5_road 6 rfl) 0 rfl ?_
    refine g_iconst (v := (-1)) F (dAt dk_X5_road 7 rfl) (by decide) ?_
    refine g_invV_ic F mi_X5_refuse (gm mw_251 rfl) (dAt dk_X5_road 8 rfl) (rcx_of F rc_Main) [.int (-1)] rfl rfl (by decide) (Nat.le_of_ble_eq_true rfl) h (fun _ _ hf => c_X5_refuse hJ hf) (fun r10 t11 h => ?_)
    cases h
    exact E (dAt dk_X5_road 9 rfl) rfl
theorem mi_X5_refuseBelowTen : MI yX5_refuseBelowTen cX5_refuseBelowTen 2 (some .int) "MillOfDistances" 1 := ⟨(gm mw_397 rfl), (gm mw_396 rfl), (gm mw_3 rfl), (gm mw_69 rfl), by decide +kernel, by decide⟩
theorem c_X5_refuseBelowTen {l : Launch} {D : va_G} {ad : Nat → Nat} {g : Gv} {t u : Mem} {x1 : Int32} {t' : Mem} {r : Int32} (hJ : Jad ad) (h : f_X5_refuseBelowTen x1 t = some (r, t')) : ConI l yX5_refuseBelowTen cX5_refuseBelowTen 2 (some .int) 1 [.ref (ad 0), .int x1] D ad g t u t' u r := by
  refine con_i hJ (by decide) (Nat.le_of_ble_eq_true rfl) rfl (fun X F E => ?_)
  refine g_lv (lv' := [(0, .ref (ad 0)), (1, .int x1)]) rfl ?_
  unfold f_X5_refuseBelowTen at h
  refine g_aload_n F (dAt dk_X5_refuseBelowTen 0 rfl) 0 rfl ?_
  refine g_iload_n F (dAt dk_X5_refuseBelowTen 1 rfl) 1 rfl ?_
  refine g_invV_ic F mi_X5_refuse (gm mw_251 rfl) (dAt dk_X5_refuseBelowTen 2 rfl) (rcx_of F rc_Main) [.int x1] rfl rfl (by decide) (Nat.le_of_ble_eq_true rfl) h (fun _ _ hf => c_X5_refuse hJ hf) (fun r1 t2 h => ?_)
  refine g_bipush (v := 10) F (dAt dk_X5_refuseBelowTen 3 rfl) (by decide) ?_
  refine g_isub F (dAt dk_X5_refuseBelowTen 4 rfl) ?_
  cases h
  exact E (dAt dk_X5_refuseBelowTen 5 rfl) rfl
theorem mi_X5_miles : MI yX5_miles cX5_miles 3 (some .int) "MillOfDistances" 2 := ⟨(gm mw_393 rfl), (gm mw_391 rfl), (gm mw_392 rfl), (gm mw_69 rfl), by decide +kernel, by decide⟩
theorem c_X5_miles {l : Launch} {D : va_G} {ad : Nat → Nat} {g : Gv} {t u : Mem} {x1 : Int32} {x2 : Int32} {t' : Mem} {r : Int32} (hJ : Jad ad) (h : f_X5_miles x1 x2 t = some (r, t')) : ConI l yX5_miles cX5_miles 3 (some .int) 2 [.ref (ad 0), .int x1, .int x2] D ad g t u t' u r := by
  refine con_i hJ (by decide) (Nat.le_of_ble_eq_true rfl) rfl (fun X F E => ?_)
  refine g_lv (lv' := [(0, .ref (ad 0)), (1, .int x1), (2, .int x2)]) rfl ?_
  unfold f_X5_miles at h
  refine g_aload_n F (dAt dk_X5_miles 0 rfl) 0 rfl ?_
  refine gg_Main_land F (gm mw_212 rfl) (dAt dk_X5_miles 1 rfl) ?_
  refine g_iload_n F (dAt dk_X5_miles 2 rfl) 1 rfl ?_
  refine g_iload_n F (dAt dk_X5_miles 3 rfl) 2 rfl ?_
  refine g_invV_ic F mi_X1_hasBoth (gm mw_380 rfl) (dAt dk_X5_miles 4 rfl) (rcx_of F (rc_Land 0)) [.int x1, .int x2] rfl rfl (by decide) (Nat.le_of_ble_eq_true rfl) h (fun _ _ hf => c_X1_hasBoth hJ hf) (fun r1 t2 h => ?_)
  refine g_if_ne (tgt := 18) F (dAt dk_X5_miles 5 rfl) (by decide) h (fun c3 h => ?_) (fun c3 h => ?_)
  · refine g_iload_n F (dAt dk_X5_miles 10 rfl) 1 rfl ?_
    refine g_iload_n F (dAt dk_X5_miles 11 rfl) 2 rfl ?_
    refine g_icmp_ne (tgt := 32) F (dAt dk_X5_miles 12 rfl) (by decide) h (fun c4 h => ?_) (fun c4 h => ?_)
    · refine g_aload_n F (dAt dk_X5_miles 17 rfl) 0 rfl ?_
      refine gg_Main_land F (gm mw_212 rfl) (dAt dk_X5_miles 18 rfl) ?_
      refine g_iload_n F (dAt dk_X5_miles 19 rfl) 1 rfl ?_
      refine g_iload_n F (dAt dk_X5_miles 20 rfl) 2 rfl ?_
      refine g_invV_ic F mi_X1_between (gm mw_384 rfl) (dAt dk_X5_miles 21 rfl) (rcx_of F (rc_Land 0)) [.int x1, .int x2] rfl rfl (by decide) (Nat.le_of_ble_eq_true rfl) h (fun _ _ hf => c_X1_between hJ hf) (fun r5 t6 h => ?_)
      cases h
      exact E (dAt dk_X5_miles 22 rfl) rfl
    · refine g_aload_n F (dAt dk_X5_miles 13 rfl) 0 rfl ?_
      refine g_bipush (v := (-6)) F (dAt dk_X5_miles 14 rfl) (by decide) ?_
      refine g_invV_ic F mi_X5_refuseBelowTen (gm mw_394 rfl) (dAt dk_X5_miles 15 rfl) (rcx_of F rc_Main) [.int (-6)] rfl rfl (by decide) (Nat.le_of_ble_eq_true rfl) h (fun _ _ hf => c_X5_refuseBelowTen hJ hf) (fun r7 t8 h => ?_)
      refine g_goto (tgt := 41) F (dAt dk_X5_miles 16 rfl) (by decide) ?_
      cases h
      exact E (dAt dk_X5_miles 22 rfl) rfl
  · refine g_aload_n F (dAt dk_X5_miles 6 rfl) 0 rfl ?_
    refine g_iconst (v := (-1)) F (dAt dk_X5_miles 7 rfl) (by decide) ?_
    refine g_invV_ic F mi_X5_refuseBelowTen (gm mw_394 rfl) (dAt dk_X5_miles 8 rfl) (rcx_of F rc_Main) [.int (-1)] rfl rfl (by decide) (Nat.le_of_ble_eq_true rfl) h (fun _ _ hf => c_X5_refuseBelowTen hJ hf) (fun r9 t10 h => ?_)
    cases h
    exact E (dAt dk_X5_miles 9 rfl) rfl
theorem mi_X5_ask : MI yX5_ask cX5_ask 4 (some .int) "MillOfDistances" 2 := ⟨(gm mw_401 rfl), (gm mw_399 rfl), (gm mw_400 rfl), (gm mw_69 rfl), by decide +kernel, by decide⟩
theorem c_X5_ask {l : Launch} {D : va_G} {ad : Nat → Nat} {g : Gv} {t u : Mem} {x1 : Int32} {x2 : Int32} {t' : Mem} {r : Int32} (hJ : Jad ad) (h : f_X5_ask x1 x2 t = some (r, t')) : ConI l yX5_ask cX5_ask 4 (some .int) 1 [.ref (ad 0), .int x1, .int x2] D ad g t u t' u r := by
  refine con_i hJ (by decide) (Nat.le_of_ble_eq_true rfl) rfl (fun X F E => ?_)
  have J65 : ∀ (t0 : Mem), jn_X5_ask_65 x1 x2 t0 = some (r, t') → G X D ad g t0 u [(0, .ref (ad 0))] 65 [] := by
    intro t0 h
    unfold jn_X5_ask_65 at h
    refine g_aload_n F (dAt dk_X5_ask 35 rfl) 0 rfl ?_
    refine g_bipush (v := (-6)) F (dAt dk_X5_ask 36 rfl) (by decide) ?_
    refine g_invV_ic F mi_X5_refuse (gm mw_251 rfl) (dAt dk_X5_ask 37 rfl) (rcx_of F rc_Main) [.int (-6)] rfl rfl (by decide) (Nat.le_of_ble_eq_true rfl) h (fun _ _ hf => c_X5_refuse hJ hf) (fun r9 t10 h => ?_)
    cases h
    exact E (dAt dk_X5_ask 38 rfl) rfl
  have J32 : ∀ (t0 : Mem), jn_X5_ask_32 x1 x2 t0 = some (r, t') → G X D ad g t0 u [(0, .ref (ad 0)), (1, .int x1), (2, .int x2)] 32 [] := by
    intro t0 h
    unfold jn_X5_ask_32 at h
    refine g_iload_n F (dAt dk_X5_ask 17 rfl) 1 rfl ?_
    refine g_iconst (v := 1) F (dAt dk_X5_ask 18 rfl) (by decide) ?_
    refine g_icmp_ne (tgt := 65) F (dAt dk_X5_ask 19 rfl) (by decide) h (fun c5 h => ?_) (fun c5 h => ?_)
    · refine g_sub (lv' := [(0, .ref (ad 0))]) [0] rfl ?_
      exact J65  t0 h
    · refine g_iload_n F (dAt dk_X5_ask 20 rfl) 2 rfl ?_
      refine g_if_lt (tgt := 65) F (dAt dk_X5_ask 21 rfl) (by decide) h (fun c6 h => ?_) (fun c6 h => ?_)
      · refine g_sub (lv' := [(0, .ref (ad 0))]) [0] rfl ?_
        exact J65  t0 h
      · refine g_iload_n F (dAt dk_X5_ask 22 rfl) 2 rfl ?_
        refine g_bipush (v := 9) F (dAt dk_X5_ask 23 rfl) (by decide) ?_
        refine g_icmp_gt (tgt := 65) F (dAt dk_X5_ask 24 rfl) (by decide) h (fun c7 h => ?_) (fun c7 h => ?_)
        · refine g_sub (lv' := [(0, .ref (ad 0))]) [0] rfl ?_
          exact J65  t0 h
        · refine g_aload_n F (dAt dk_X5_ask 25 rfl) 0 rfl ?_
          refine gg_Main_land F (gm mw_212 rfl) (dAt dk_X5_ask 26 rfl) ?_
          refine gg_Land_wind 0 F (gm mw_111 rfl) (dAt dk_X5_ask 27 rfl) ?_
          refine g_istore_n (lv' := [(3, .int (t0.1 (oLd 0) 5)), (0, .ref (ad 0)), (1, .int x1), (2, .int x2)]) F (dAt dk_X5_ask 28 rfl) (by decide) rfl ?_
          refine g_aload_n F (dAt dk_X5_ask 29 rfl) 1 rfl ?_
          refine gg_Main_land F (gm mw_212 rfl) (dAt dk_X5_ask 30 rfl) ?_
          refine g_iload_n F (dAt dk_X5_ask 31 rfl) 3 rfl ?_
          refine gp_Land_wind 0 F (gm mw_111 rfl) (dAt dk_X5_ask 32 rfl) ?_
          refine g_ltt h (fun t8 h => ?_)
          refine g_iload_n F (dAt dk_X5_ask 33 rfl) 0 rfl ?_
          cases h
          exact E (dAt dk_X5_ask 34 rfl) rfl
  refine g_lv (lv' := [(0, .ref (ad 0)), (1, .int x1), (2, .int x2)]) rfl ?_
  unfold f_X5_ask at h
  refine g_iload_n F (dAt dk_X5_ask 0 rfl) 1 rfl ?_
  refine g_if_ne (tgt := 32) F (dAt dk_X5_ask 1 rfl) (by decide) h (fun c1 h => ?_) (fun c1 h => ?_)
  · refine g_sub (lv' := [(0, .ref (ad 0)), (1, .int x1), (2, .int x2)]) [0, 1, 2] rfl ?_
    exact J32  t h
  · refine g_iload_n F (dAt dk_X5_ask 2 rfl) 2 rfl ?_
    refine g_if_lt (tgt := 32) F (dAt dk_X5_ask 3 rfl) (by decide) h (fun c2 h => ?_) (fun c2 h => ?_)
    · refine g_sub (lv' := [(0, .ref (ad 0)), (1, .int x1), (2, .int x2)]) [0, 1, 2] rfl ?_
      exact J32  t h
    · refine g_iload_n F (dAt dk_X5_ask 4 rfl) 2 rfl ?_
      refine g_ldc (v := 99999) F (dAt dk_X5_ask 5 rfl) (gm mw_402 rfl) ?_
      refine g_icmp_gt (tgt := 32) F (dAt dk_X5_ask 6 rfl) (by decide) h (fun c3 h => ?_) (fun c3 h => ?_)
      · refine g_sub (lv' := [(0, .ref (ad 0)), (1, .int x1), (2, .int x2)]) [0, 1, 2] rfl ?_
        exact J32  t h
      · refine g_aload_n F (dAt dk_X5_ask 7 rfl) 0 rfl ?_
        refine gg_Main_land F (gm mw_212 rfl) (dAt dk_X5_ask 8 rfl) ?_
        refine gg_Land_flour 0 F (gm mw_108 rfl) (dAt dk_X5_ask 9 rfl) ?_
        refine g_istore_n (lv' := [(3, .int (t.1 (oLd 0) 4)), (0, .ref (ad 0)), (1, .int x1), (2, .int x2)]) F (dAt dk_X5_ask 10 rfl) (by decide) rfl ?_
        refine g_aload_n F (dAt dk_X5_ask 11 rfl) 1 rfl ?_
        refine gg_Main_land F (gm mw_212 rfl) (dAt dk_X5_ask 12 rfl) ?_
        refine g_iload_n F (dAt dk_X5_ask 13 rfl) 3 rfl ?_
        refine gp_Land_flour 0 F (gm mw_108 rfl) (dAt dk_X5_ask 14 rfl) ?_
        refine g_ltt h (fun t4 h => ?_)
        refine g_iload_n F (dAt dk_X5_ask 15 rfl) 0 rfl ?_
        cases h
        exact E (dAt dk_X5_ask 16 rfl) rfl
theorem mi_X5_map : MI yX5_map cX5_map 5 (some .int) "MillOfDistances" 1 := ⟨(gm mw_406 rfl), (gm mw_404 rfl), (gm mw_405 rfl), (gm mw_69 rfl), by decide +kernel, by decide⟩
theorem c_X5_map {l : Launch} {D : va_G} {ad : Nat → Nat} {g : Gv} {t u : Mem} {n : Nat} {x1 : Int32} {t' : Mem} {r : Int32} (hJ : Jad ad) (h : f_X5_map n x1 t = some (r, t')) : ConI l yX5_map cX5_map 5 (some .int) 8 [.ref (ad 0), .int x1] D ad g t u t' u r := by
  refine con_i hJ (by decide) (Nat.le_of_ble_eq_true rfl) rfl (fun X F E => ?_)
  refine g_lv (lv' := [(0, .ref (ad 0)), (1, .int x1)]) rfl ?_
  unfold f_X5_map at h
  refine g_aload_n F (dAt dk_X5_map 0 rfl) 0 rfl ?_
  refine g_iload_n F (dAt dk_X5_map 1 rfl) 1 rfl ?_
  refine g_invV_qc (jv ad) F mi_X5_shelfAt (gm mw_247 rfl) (dAt dk_X5_map 2 rfl) (rcx_of F rc_Main) [.int x1] rfl rfl (by decide) (Nat.le_of_ble_eq_true rfl) h (fun _ _ hf => c_X5_shelfAt hJ hf) (fun r1 t2 h => ?_)
  refine g_st (st' := [shv ad r1]) rfl ?_
  refine g_astoreS_n (lv' := [(2, shv ad r1), (0, .ref (ad 0)), (1, .int x1)]) F (dAt dk_X5_map 3 rfl) (by decide) rfl ?_
  refine g_aloadS_n F (dAt dk_X5_map 4 rfl) 0 rfl ?_
  refine g_invS_ic F ms_X5_rowProblem (gm mw_266 rfl) (dAt dk_X5_map 5 rfl) [shv ad r1] rfl rfl (by decide) (Nat.le_of_ble_eq_true rfl) h (fun _ _ hf => c_X5_rowProblem hJ hf) (fun r3 t4 h => ?_)
  refine g_istore_n (lv' := [(3, .int r3), (2, shv ad r1), (0, .ref (ad 0)), (1, .int x1)]) F (dAt dk_X5_map 6 rfl) (by decide) (by cases r1 <;> rfl) ?_
  refine g_iload_n F (dAt dk_X5_map 7 rfl) 0 rfl ?_
  refine g_if_eq (tgt := 21) F (dAt dk_X5_map 8 rfl) (by decide) h (fun c5 h => ?_) (fun c5 h => ?_)
  · refine g_aload_n F (dAt dk_X5_map 13 rfl) 2 rfl ?_
    refine gg_Main_trial F (gm mw_213 rfl) (dAt dk_X5_map 14 rfl) ?_
    refine g_aload_n F (dAt dk_X5_map 15 rfl) 2 rfl ?_
    refine gg_Main_land F (gm mw_212 rfl) (dAt dk_X5_map 16 rfl) ?_
    refine g_invV_vc F mi_X1_becomeAs (gm mw_407 rfl) (dAt dk_X5_map 17 rfl) (rcx_of F (rc_Land 1)) [.ref (ad (oLd 0))] rfl rfl (by decide) (Nat.le_of_ble_eq_true rfl) h (fun _ _ hf => c_X1_becomeAs hJ hf) (fun _ t6 h => ?_)
    refine g_aload_n F (dAt dk_X5_map 18 rfl) 2 rfl ?_
    refine gg_Main_reader F (gm mw_219 rfl) (dAt dk_X5_map 19 rfl) ?_
    refine g_aloadS_n F (dAt dk_X5_map 20 rfl) 1 rfl ?_
    refine g_aload_n F (dAt dk_X5_map 21 rfl) 2 rfl ?_
    refine gg_Main_trial F (gm mw_213 rfl) (dAt dk_X5_map 22 rfl) ?_
    refine g_nn h (fun k7 e hhk7 => ?_)
    subst e
    have h := hhk7
    refine g_lv (lv' := [(3, .int r3), (2, .ref (ad (oSh k7))), (0, .ref (ad 0)), (1, .int x1)]) rfl ?_
    refine g_st (st' := [.ref (ad (oLd 1)), .ref (ad (oSh k7)), .ref (ad 35)]) rfl ?_
    refine g_invV_ic F mi_X3_read (gm mw_412 rfl) (dAt dk_X5_map 23 rfl) (rcx_of F rc_Reader) [.ref (ad (oSh k7)), .ref (ad (oLd 1))] rfl rfl (by decide) (Nat.le_of_ble_eq_true rfl) h (fun _ _ hf => c_X3_read hJ hf) (fun r8 t9 h => ?_)
    refine g_istore (lv' := [(4, .int r8), (3, .int r3), (2, .ref (ad (oSh k7))), (0, .ref (ad 0)), (1, .int x1)]) F (dAt dk_X5_map 24 rfl) (by decide) rfl ?_
    refine g_aload_n F (dAt dk_X5_map 25 rfl) 3 rfl ?_
    refine gg_Main_reader F (gm mw_219 rfl) (dAt dk_X5_map 26 rfl) ?_
    refine gg_Reader_fault F (gm mw_152 rfl) (dAt dk_X5_map 27 rfl) ?_
    refine g_iconst (v := (-1)) F (dAt dk_X5_map 28 rfl) (by decide) ?_
    refine g_icmp_eq (tgt := 64) F (dAt dk_X5_map 29 rfl) (by decide) h (fun c10 h => ?_) (fun c10 h => ?_)
    · refine g_aload_n F (dAt dk_X5_map 34 rfl) 3 rfl ?_
      refine gg_Main_land F (gm mw_212 rfl) (dAt dk_X5_map 35 rfl) ?_
      refine g_aload_n F (dAt dk_X5_map 36 rfl) 3 rfl ?_
      refine gg_Main_trial F (gm mw_213 rfl) (dAt dk_X5_map 37 rfl) ?_
      refine g_invV_vc F mi_X1_becomeAs (gm mw_407 rfl) (dAt dk_X5_map 38 rfl) (rcx_of F (rc_Land 0)) [.ref (ad (oLd 1))] rfl rfl (by decide) (Nat.le_of_ble_eq_true rfl) h (fun _ _ hf => c_X1_becomeAs hJ hf) (fun _ t11 h => ?_)
      refine g_iload F (dAt dk_X5_map 39 rfl) 0 rfl ?_
      cases h
      exact E (dAt dk_X5_map 40 rfl) rfl
    · refine g_aload_n F (dAt dk_X5_map 30 rfl) 3 rfl ?_
      refine g_bipush (v := (-6)) F (dAt dk_X5_map 31 rfl) (by decide) ?_
      refine g_invV_ic F mi_X5_refuse (gm mw_251 rfl) (dAt dk_X5_map 32 rfl) (rcx_of F rc_Main) [.int (-6)] rfl rfl (by decide) (Nat.le_of_ble_eq_true rfl) h (fun _ _ hf => c_X5_refuse hJ hf) (fun r12 t13 h => ?_)
      cases h
      exact E (dAt dk_X5_map 33 rfl) rfl
  · refine g_aload_n F (dAt dk_X5_map 9 rfl) 2 rfl ?_
    refine g_iload_n F (dAt dk_X5_map 10 rfl) 0 rfl ?_
    refine g_invV_ic F mi_X5_refuse (gm mw_251 rfl) (dAt dk_X5_map 11 rfl) (rcx_of F rc_Main) [.int r3] rfl rfl (by decide) (Nat.le_of_ble_eq_true rfl) h (fun _ _ hf => c_X5_refuse hJ hf) (fun r14 t15 h => ?_)
    cases h
    exact E (dAt dk_X5_map 12 rfl) rfl
theorem mi_X5_fault : MI yX5_fault cX5_fault 1 (some .int) "MillOfDistances" 0 := ⟨(gm mw_551 rfl), (gm mw_549 rfl), (gm mw_550 rfl), (gm mw_69 rfl), by decide +kernel, by decide⟩
theorem c_X5_fault {l : Launch} {D : va_G} {ad : Nat → Nat} {g : Gv} {t u : Mem}  {t' : Mem} {r : Int32} (hJ : Jad ad) (h : f_X5_fault t = some (r, t')) : ConI l yX5_fault cX5_fault 1 (some .int) 0 [.ref (ad 0)] D ad g t u t' u r := by
  refine con_i hJ (by decide) (Nat.le_of_ble_eq_true rfl) rfl (fun X F E => ?_)
  refine g_lv (lv' := [(0, .ref (ad 0))]) rfl ?_
  unfold f_X5_fault at h
  refine g_aload_n F (dAt dk_X5_fault 0 rfl) 0 rfl ?_
  refine gg_Main_reader F (gm mw_219 rfl) (dAt dk_X5_fault 1 rfl) ?_
  refine gg_Reader_fault F (gm mw_152 rfl) (dAt dk_X5_fault 2 rfl) ?_
  cases h
  exact E (dAt dk_X5_fault 3 rfl) rfl
theorem mi_X5_cost : MI yX5_cost cX5_cost 4 (some .int) "MillOfDistances" 3 := ⟨(gm mw_555 rfl), (gm mw_553 rfl), (gm mw_554 rfl), (gm mw_69 rfl), by decide +kernel, by decide⟩
theorem c_X5_cost {l : Launch} {D : va_G} {ad : Nat → Nat} {g : Gv} {t u : Mem} {x1 : Int32} {x2 : Int32} {x3 : Int32} {t' : Mem} {r : Int32} (hJ : Jad ad) (h : f_X5_cost x1 x2 x3 t = some (r, t')) : ConI l yX5_cost cX5_cost 4 (some .int) 2 [.ref (ad 0), .int x1, .int x2, .int x3] D ad g t u t' u r := by
  refine con_i hJ (by decide) (Nat.le_of_ble_eq_true rfl) rfl (fun X F E => ?_)
  have J35 : ∀ (t0 : Mem), jn_X5_cost_35 x1 x2 x3 t0 = some (r, t') → G X D ad g t0 u [(0, .ref (ad 0))] 35 [] := by
    intro t0 h
    unfold jn_X5_cost_35 at h
    refine g_aload_n F (dAt dk_X5_cost 19 rfl) 0 rfl ?_
    refine g_bipush (v := (-6)) F (dAt dk_X5_cost 20 rfl) (by decide) ?_
    refine g_invV_ic F mi_X5_refuse (gm mw_251 rfl) (dAt dk_X5_cost 21 rfl) (rcx_of F rc_Main) [.int (-6)] rfl rfl (by decide) (Nat.le_of_ble_eq_true rfl) h (fun _ _ hf => c_X5_refuse hJ hf) (fun r11 t12 h => ?_)
    cases h
    exact E (dAt dk_X5_cost 22 rfl) rfl
  refine g_lv (lv' := [(0, .ref (ad 0)), (1, .int x1), (2, .int x2), (3, .int x3)]) rfl ?_
  unfold f_X5_cost at h
  refine g_aload_n F (dAt dk_X5_cost 0 rfl) 0 rfl ?_
  refine gg_Main_land F (gm mw_212 rfl) (dAt dk_X5_cost 1 rfl) ?_
  refine g_iload_n F (dAt dk_X5_cost 2 rfl) 1 rfl ?_
  refine g_iload_n F (dAt dk_X5_cost 3 rfl) 2 rfl ?_
  refine g_invV_ic F mi_X1_hasBoth (gm mw_380 rfl) (dAt dk_X5_cost 4 rfl) (rcx_of F (rc_Land 0)) [.int x1, .int x2] rfl rfl (by decide) (Nat.le_of_ble_eq_true rfl) h (fun _ _ hf => c_X1_hasBoth hJ hf) (fun r1 t2 h => ?_)
  refine g_if_ne (tgt := 18) F (dAt dk_X5_cost 5 rfl) (by decide) h (fun c3 h => ?_) (fun c3 h => ?_)
  · refine g_iload_n F (dAt dk_X5_cost 10 rfl) 1 rfl ?_
    refine g_iload_n F (dAt dk_X5_cost 11 rfl) 2 rfl ?_
    refine g_icmp_eq (tgt := 35) F (dAt dk_X5_cost 12 rfl) (by decide) h (fun c4 h => ?_) (fun c4 h => ?_)
    · refine g_sub (lv' := [(0, .ref (ad 0))]) [0] rfl ?_
      exact J35  t2 h
    · refine g_iload_n F (dAt dk_X5_cost 13 rfl) 3 rfl ?_
      refine g_iconst (v := 1) F (dAt dk_X5_cost 14 rfl) (by decide) ?_
      refine g_icmp_lt (tgt := 35) F (dAt dk_X5_cost 15 rfl) (by decide) h (fun c5 h => ?_) (fun c5 h => ?_)
      · refine g_sub (lv' := [(0, .ref (ad 0))]) [0] rfl ?_
        exact J35  t2 h
      · refine g_iload_n F (dAt dk_X5_cost 16 rfl) 3 rfl ?_
        refine g_sipush (v := 998) F (dAt dk_X5_cost 17 rfl) (by decide) ?_
        refine g_icmp_le (tgt := 42) F (dAt dk_X5_cost 18 rfl) (by decide) h (fun c6 h => ?_) (fun c6 h => ?_)
        · refine g_aload_n F (dAt dk_X5_cost 23 rfl) 0 rfl ?_
          refine gg_Main_land F (gm mw_212 rfl) (dAt dk_X5_cost 24 rfl) ?_
          refine g_iload_n F (dAt dk_X5_cost 25 rfl) 1 rfl ?_
          refine g_iload_n F (dAt dk_X5_cost 26 rfl) 2 rfl ?_
          refine g_iload_n F (dAt dk_X5_cost 27 rfl) 3 rfl ?_
          refine g_invV_ic F mi_X1_costOf (gm mw_556 rfl) (dAt dk_X5_cost 28 rfl) (rcx_of F (rc_Land 0)) [.int x1, .int x2, .int x3] rfl rfl (by decide) (Nat.le_of_ble_eq_true rfl) h (fun _ _ hf => c_X1_costOf hJ hf) (fun r7 t8 h => ?_)
          cases h
          exact E (dAt dk_X5_cost 29 rfl) rfl
        · refine g_sub (lv' := [(0, .ref (ad 0))]) [0] rfl ?_
          exact J35  t2 h
  · refine g_aload_n F (dAt dk_X5_cost 6 rfl) 0 rfl ?_
    refine g_iconst (v := (-1)) F (dAt dk_X5_cost 7 rfl) (by decide) ?_
    refine g_invV_ic F mi_X5_refuse (gm mw_251 rfl) (dAt dk_X5_cost 8 rfl) (rcx_of F rc_Main) [.int (-1)] rfl rfl (by decide) (Nat.le_of_ble_eq_true rfl) h (fun _ _ hf => c_X5_refuse hJ hf) (fun r9 t10 h => ?_)
    cases h
    exact E (dAt dk_X5_cost 9 rfl) rfl
theorem mi_X5_roadProblem : MI yX5_roadProblem cX5_roadProblem 3 (some .int) "MillOfDistances" 2 := ⟨(gm mw_564 rfl), (gm mw_563 rfl), (gm mw_10 rfl), (gm mw_69 rfl), by decide +kernel, by decide⟩
theorem c_X5_roadProblem {l : Launch} {D : va_G} {ad : Nat → Nat} {g : Gv} {t u : Mem} {x1 : Int32} {x2 : Int32} {t' : Mem} {r : Int32} (hJ : Jad ad) (h : f_X5_roadProblem x1 x2 t = some (r, t')) : ConI l yX5_roadProblem cX5_roadProblem 3 (some .int) 1 [.ref (ad 0), .int x1, .int x2] D ad g t u t' u r := by
  refine con_i hJ (by decide) (Nat.le_of_ble_eq_true rfl) rfl (fun X F E => ?_)
  refine g_lv (lv' := [(0, .ref (ad 0)), (1, .int x1), (2, .int x2)]) rfl ?_
  unfold f_X5_roadProblem at h
  refine g_aload_n F (dAt dk_X5_roadProblem 0 rfl) 0 rfl ?_
  refine gg_Main_land F (gm mw_212 rfl) (dAt dk_X5_roadProblem 1 rfl) ?_
  refine g_iload_n F (dAt dk_X5_roadProblem 2 rfl) 1 rfl ?_
  refine g_iload_n F (dAt dk_X5_roadProblem 3 rfl) 2 rfl ?_
  refine g_invV_ic F mi_X1_hasBoth (gm mw_380 rfl) (dAt dk_X5_roadProblem 4 rfl) (rcx_of F (rc_Land 0)) [.int x1, .int x2] rfl rfl (by decide) (Nat.le_of_ble_eq_true rfl) h (fun _ _ hf => c_X1_hasBoth hJ hf) (fun r1 t2 h => ?_)
  refine g_if_ne (tgt := 14) F (dAt dk_X5_roadProblem 5 rfl) (by decide) h (fun c3 h => ?_) (fun c3 h => ?_)
  · refine g_aload_n F (dAt dk_X5_roadProblem 8 rfl) 0 rfl ?_
    refine gg_Main_land F (gm mw_212 rfl) (dAt dk_X5_roadProblem 9 rfl) ?_
    refine g_iload_n F (dAt dk_X5_roadProblem 10 rfl) 1 rfl ?_
    refine g_iload_n F (dAt dk_X5_roadProblem 11 rfl) 2 rfl ?_
    refine g_invV_ic F mi_X1_between (gm mw_384 rfl) (dAt dk_X5_roadProblem 12 rfl) (rcx_of F (rc_Land 0)) [.int x1, .int x2] rfl rfl (by decide) (Nat.le_of_ble_eq_true rfl) h (fun _ _ hf => c_X1_between hJ hf) (fun r4 t5 h => ?_)
    refine g_if_ne (tgt := 31) F (dAt dk_X5_roadProblem 13 rfl) (by decide) h (fun c6 h => ?_) (fun c6 h => ?_)
    · refine g_iconst (v := 0) F (dAt dk_X5_roadProblem 16 rfl) (by decide) ?_
      cases h
      exact E (dAt dk_X5_roadProblem 17 rfl) rfl
    · refine g_bipush (v := (-6)) F (dAt dk_X5_roadProblem 14 rfl) (by decide) ?_
      refine g_goto (tgt := 32) F (dAt dk_X5_roadProblem 15 rfl) (by decide) ?_
      cases h
      exact E (dAt dk_X5_roadProblem 17 rfl) rfl
  · refine g_iconst (v := (-1)) F (dAt dk_X5_roadProblem 6 rfl) (by decide) ?_
    cases h
    exact E (dAt dk_X5_roadProblem 7 rfl) rfl
theorem mi_X5_yields : MI yX5_yields cX5_yields 4 (some .int) "MillOfDistances" 2 := ⟨(gm mw_560 rfl), (gm mw_558 rfl), (gm mw_559 rfl), (gm mw_69 rfl), by decide +kernel, by decide⟩
theorem c_X5_yields {l : Launch} {D : va_G} {ad : Nat → Nat} {g : Gv} {t u : Mem} {n : Nat} {x1 : Int32} {x2 : Int32} {t' : Mem} {r : Int32} (hJ : Jad ad) (h : f_X5_yields n x1 x2 t = some (r, t')) : ConI l yX5_yields cX5_yields 4 (some .int) 2 [.ref (ad 0), .int x1, .int x2] D ad g t u t' u r := by
  refine con_i hJ (by decide) (Nat.le_of_ble_eq_true rfl) rfl (fun X F E => ?_)
  refine g_lv (lv' := [(0, .ref (ad 0)), (1, .int x1), (2, .int x2)]) rfl ?_
  unfold f_X5_yields at h
  refine g_aload_n F (dAt dk_X5_yields 0 rfl) 0 rfl ?_
  refine g_iload_n F (dAt dk_X5_yields 1 rfl) 1 rfl ?_
  refine g_iload_n F (dAt dk_X5_yields 2 rfl) 2 rfl ?_
  refine g_invV_ic F mi_X5_roadProblem (gm mw_561 rfl) (dAt dk_X5_yields 3 rfl) (rcx_of F rc_Main) [.int x1, .int x2] rfl rfl (by decide) (Nat.le_of_ble_eq_true rfl) h (fun _ _ hf => c_X5_roadProblem hJ hf) (fun r1 t2 h => ?_)
  refine g_istore_n (lv' := [(3, .int r1), (0, .ref (ad 0)), (1, .int x1), (2, .int x2)]) F (dAt dk_X5_yields 4 rfl) (by decide) rfl ?_
  refine g_iload_n F (dAt dk_X5_yields 5 rfl) 0 rfl ?_
  refine g_if_ne (tgt := 23) F (dAt dk_X5_yields 6 rfl) (by decide) h (fun c3 h => ?_) (fun c3 h => ?_)
  · refine g_aload_n F (dAt dk_X5_yields 13 rfl) 1 rfl ?_
    refine g_iload_n F (dAt dk_X5_yields 14 rfl) 0 rfl ?_
    refine g_invV_ic F mi_X5_refuse (gm mw_251 rfl) (dAt dk_X5_yields 15 rfl) (rcx_of F rc_Main) [.int r1] rfl rfl (by decide) (Nat.le_of_ble_eq_true rfl) h (fun _ _ hf => c_X5_refuse hJ hf) (fun r4 t5 h => ?_)
    cases h
    exact E (dAt dk_X5_yields 16 rfl) rfl
  · refine g_aload_n F (dAt dk_X5_yields 7 rfl) 1 rfl ?_
    refine gg_Main_land F (gm mw_212 rfl) (dAt dk_X5_yields 8 rfl) ?_
    refine g_iload_n F (dAt dk_X5_yields 9 rfl) 2 rfl ?_
    refine g_iload_n F (dAt dk_X5_yields 10 rfl) 3 rfl ?_
    refine g_invV_ic F mi_X1_yieldOf (gm mw_565 rfl) (dAt dk_X5_yields 11 rfl) (rcx_of F (rc_Land 0)) [.int x1, .int x2] rfl rfl (by decide) (Nat.le_of_ble_eq_true rfl) h (fun _ _ hf => c_X1_yieldOf hJ hf) (fun r6 t7 h => ?_)
    refine g_goto (tgt := 28) F (dAt dk_X5_yields 12 rfl) (by decide) ?_
    cases h
    exact E (dAt dk_X5_yields 16 rfl) rfl
theorem mi_X5_away : MI yX5_away cX5_away 3 (some .int) "MillOfDistances" 2 := ⟨(gm mw_569 rfl), (gm mw_567 rfl), (gm mw_568 rfl), (gm mw_69 rfl), by decide +kernel, by decide⟩
theorem c_X5_away {l : Launch} {D : va_G} {ad : Nat → Nat} {g : Gv} {t u : Mem} {n : Nat} {x1 : Int32} {x2 : Int32} {t' : Mem} {r : Int32} (hJ : Jad ad) (h : f_X5_away n x1 x2 t = some (r, t')) : ConI l yX5_away cX5_away 3 (some .int) 4 [.ref (ad 0), .int x1, .int x2] D ad g t u t' u r := by
  refine con_i hJ (by decide) (Nat.le_of_ble_eq_true rfl) rfl (fun X F E => ?_)
  refine g_lv (lv' := [(0, .ref (ad 0)), (1, .int x1), (2, .int x2)]) rfl ?_
  unfold f_X5_away at h
  refine g_aload_n F (dAt dk_X5_away 0 rfl) 0 rfl ?_
  refine gg_Main_land F (gm mw_212 rfl) (dAt dk_X5_away 1 rfl) ?_
  refine g_iload_n F (dAt dk_X5_away 2 rfl) 1 rfl ?_
  refine g_iload_n F (dAt dk_X5_away 3 rfl) 2 rfl ?_
  refine g_invV_ic F mi_X1_hasBoth (gm mw_380 rfl) (dAt dk_X5_away 4 rfl) (rcx_of F (rc_Land 0)) [.int x1, .int x2] rfl rfl (by decide) (Nat.le_of_ble_eq_true rfl) h (fun _ _ hf => c_X1_hasBoth hJ hf) (fun r1 t2 h => ?_)
  refine g_if_ne (tgt := 18) F (dAt dk_X5_away 5 rfl) (by decide) h (fun c3 h => ?_) (fun c3 h => ?_)
  · refine g_aload_n F (dAt dk_X5_away 10 rfl) 0 rfl ?_
    refine gg_Main_now F (gm mw_215 rfl) (dAt dk_X5_away 11 rfl) ?_
    refine g_aload_n F (dAt dk_X5_away 12 rfl) 0 rfl ?_
    refine gg_Main_land F (gm mw_212 rfl) (dAt dk_X5_away 13 rfl) ?_
    refine g_invV_vc F mi_X2_measure (gm mw_570 rfl) (dAt dk_X5_away 14 rfl) (rcx_of F (rc_Len 0)) [.ref (ad (oLd 0))] rfl rfl (by decide) (Nat.le_of_ble_eq_true rfl) h (fun _ _ hf => c_X2_measure hJ hf) (fun _ t4 h => ?_)
    refine g_aload_n F (dAt dk_X5_away 15 rfl) 0 rfl ?_
    refine gg_Main_now F (gm mw_215 rfl) (dAt dk_X5_away 16 rfl) ?_
    refine g_iload_n F (dAt dk_X5_away 17 rfl) 1 rfl ?_
    refine g_iload_n F (dAt dk_X5_away 18 rfl) 2 rfl ?_
    refine g_invV_ic F mi_X2_lengthOrNone (gm mw_592 rfl) (dAt dk_X5_away 19 rfl) (rcx_of F (rc_Len 0)) [.int x1, .int x2] rfl rfl (by decide) (Nat.le_of_ble_eq_true rfl) h (fun _ _ hf => c_X2_lengthOrNone hJ hf) (fun r5 t6 h => ?_)
    cases h
    exact E (dAt dk_X5_away 20 rfl) rfl
  · refine g_aload_n F (dAt dk_X5_away 6 rfl) 0 rfl ?_
    refine g_iconst (v := (-1)) F (dAt dk_X5_away 7 rfl) (by decide) ?_
    refine g_invV_ic F mi_X5_refuseBelowTen (gm mw_394 rfl) (dAt dk_X5_away 8 rfl) (rcx_of F rc_Main) [.int (-1)] rfl rfl (by decide) (Nat.le_of_ble_eq_true rfl) h (fun _ _ hf => c_X5_refuseBelowTen hJ hf) (fun r7 t8 h => ?_)
    cases h
    exact E (dAt dk_X5_away 9 rfl) rfl
theorem mi_X5_shortest : MI yX5_shortest cX5_shortest 6 (some .int) "MillOfDistances" 3 := ⟨(gm mw_607 rfl), (gm mw_605 rfl), (gm mw_606 rfl), (gm mw_69 rfl), by decide +kernel, by decide⟩
theorem c_X5_shortest {l : Launch} {D : va_G} {ad : Nat → Nat} {g : Gv} {t u : Mem} {n : Nat} {x1 : Int32} {x2 : Int32} {x3 : Int32} {t' : Mem} {r : Int32} (hJ : Jad ad) (h : f_X5_shortest n x1 x2 x3 t = some (r, t')) : ConI l yX5_shortest cX5_shortest 6 (some .int) 4 [.ref (ad 0), .int x1, .int x2, .int x3] D ad g t u t' u r := by
  refine con_i hJ (by decide) (Nat.le_of_ble_eq_true rfl) rfl (fun X F E => ?_)
  have J111 : ∀ (t0 : Mem), jn_X5_shortest_111 n x1 x2 x3 t0 = some (r, t') → G X D ad g t0 u [(0, .ref (ad 0))] 111 [] := by
    intro t0 h
    unfold jn_X5_shortest_111 at h
    refine g_aload_n F (dAt dk_X5_shortest 57 rfl) 0 rfl ?_
    refine g_bipush (v := (-5)) F (dAt dk_X5_shortest 58 rfl) (by decide) ?_
    refine g_invV_ic F mi_X5_refuse (gm mw_251 rfl) (dAt dk_X5_shortest 59 rfl) (rcx_of F rc_Main) [.int (-5)] rfl rfl (by decide) (Nat.le_of_ble_eq_true rfl) h (fun _ _ hf => c_X5_refuse hJ hf) (fun r18 t19 h => ?_)
    cases h
    exact E (dAt dk_X5_shortest 60 rfl) rfl
  have H35 : ∀ (k : Nat) (s : Int32 × Int32 × Mem), iter (bd_X5_shortest_35 n x1 x2 x3) k s = some (r, t') → G X D ad g s.2.2 u [(0, .ref (ad 0)), (2, .int x2), (3, .int x3), (4, .int s.1), (5, .int s.2.1)] 35 [] := by
    refine iter_walk (P := fun (s : Int32 × Int32 × Mem) => G X D ad g s.2.2 u [(0, .ref (ad 0)), (2, .int x2), (3, .int x3), (4, .int s.1), (5, .int s.2.1)] 35 []) (fun self35 ih35 s h => ?_)
    obtain ⟨v4, v5, t0⟩ := s
    change G X D ad g t0 u [(0, .ref (ad 0)), (2, .int x2), (3, .int x3), (4, .int v4), (5, .int v5)] 35 []
    unfold bd_X5_shortest_35 at h; try dsimp only at h
    refine g_iload F (dAt dk_X5_shortest 19 rfl) 4 rfl ?_
    refine g_bipush (v := 8) F (dAt dk_X5_shortest 20 rfl) (by decide) ?_
    refine g_icmp_ge (tgt := 111) F (dAt dk_X5_shortest 21 rfl) (by decide) h (fun c7 h => ?_) (fun c7 h => ?_)
    · refine g_sub (lv' := [(0, .ref (ad 0))]) [0] rfl ?_
      exact J111  t0 h
    · refine g_aload_n F (dAt dk_X5_shortest 22 rfl) 0 rfl ?_
      refine gg_Main_now F (gm mw_215 rfl) (dAt dk_X5_shortest 23 rfl) ?_
      refine g_iload F (dAt dk_X5_shortest 24 rfl) 3 rfl ?_
      refine g_iload_n F (dAt dk_X5_shortest 25 rfl) 1 rfl ?_
      refine g_invV_ic F mi_X2_joins (gm mw_608 rfl) (dAt dk_X5_shortest 26 rfl) (rcx_of F (rc_Len 0)) [.int v4, .int x2] rfl rfl (by decide) (Nat.le_of_ble_eq_true rfl) h (fun _ _ hf => c_X2_joins hJ hf) (fun r8 t9 h => ?_)
      refine g_if_eq (tgt := 111) F (dAt dk_X5_shortest 27 rfl) (by decide) h (fun c10 h => ?_) (fun c10 h => ?_)
      · refine g_sub (lv' := [(0, .ref (ad 0))]) [0] rfl ?_
        exact J111  t9 h
      · refine g_iload F (dAt dk_X5_shortest 28 rfl) 4 rfl ?_
        refine g_iload_n F (dAt dk_X5_shortest 29 rfl) 2 rfl ?_
        refine g_icmp_ne (tgt := 64) F (dAt dk_X5_shortest 30 rfl) (by decide) h (fun c11 h => ?_) (fun c11 h => ?_)
        · refine g_iload F (dAt dk_X5_shortest 33 rfl) 3 rfl ?_
          refine g_iload_n F (dAt dk_X5_shortest 34 rfl) 1 rfl ?_
          refine g_icmp_ne (tgt := 89) F (dAt dk_X5_shortest 35 rfl) (by decide) h (fun c12 h => ?_) (fun c12 h => ?_)
          · refine g_aload_n F (dAt dk_X5_shortest 47 rfl) 0 rfl ?_
            refine gg_Main_now F (gm mw_215 rfl) (dAt dk_X5_shortest 48 rfl) ?_
            refine g_aload_n F (dAt dk_X5_shortest 49 rfl) 0 rfl ?_
            refine gg_Main_land F (gm mw_212 rfl) (dAt dk_X5_shortest 50 rfl) ?_
            refine g_iload F (dAt dk_X5_shortest 51 rfl) 3 rfl ?_
            refine g_iload_n F (dAt dk_X5_shortest 52 rfl) 1 rfl ?_
            refine g_invV_ic F mi_X2_nextOnTheWay (gm mw_609 rfl) (dAt dk_X5_shortest 53 rfl) (rcx_of F (rc_Len 0)) [.ref (ad (oLd 0)), .int v4, .int x2] rfl rfl (by decide) (Nat.le_of_ble_eq_true rfl) h (fun _ _ hf => c_X2_nextOnTheWay hJ hf) (fun r13 t14 h => ?_)
            refine g_istore (lv' := [(4, .int r13), (0, .ref (ad 0)), (2, .int x2), (3, .int x3), (5, .int v5)]) F (dAt dk_X5_shortest 54 rfl) (by decide) rfl ?_
            refine g_iinc (lv' := [(5, .int (v5 + 1)), (4, .int r13), (0, .ref (ad 0)), (2, .int x2), (3, .int x3)]) F (dAt dk_X5_shortest 55 rfl) 4 rfl (w := 1) (by decide) (by decide) rfl ?_
            refine g_goto (tgt := 35) F (dAt dk_X5_shortest 56 rfl) (by decide) ?_
            refine g_sub (lv' := [(0, .ref (ad 0)), (2, .int x2), (3, .int x3), (4, .int r13), (5, .int (v5 + 1))]) [2, 3, 4, 1, 0] rfl ?_
            exact ih35 (r13, (v5 + 1), t14) h
          · refine g_iload_n F (dAt dk_X5_shortest 36 rfl) 2 rfl ?_
            refine g_iconst (v := (-1)) F (dAt dk_X5_shortest 37 rfl) (by decide) ?_
            refine g_icmp_ne (tgt := 82) F (dAt dk_X5_shortest 38 rfl) (by decide) h (fun c15 h => ?_) (fun c15 h => ?_)
            · refine g_aload_n F (dAt dk_X5_shortest 43 rfl) 0 rfl ?_
              refine g_bipush (v := (-5)) F (dAt dk_X5_shortest 44 rfl) (by decide) ?_
              refine g_invV_ic F mi_X5_refuse (gm mw_251 rfl) (dAt dk_X5_shortest 45 rfl) (rcx_of F rc_Main) [.int (-5)] rfl rfl (by decide) (Nat.le_of_ble_eq_true rfl) h (fun _ _ hf => c_X5_refuse hJ hf) (fun r16 t17 h => ?_)
              cases h
              exact E (dAt dk_X5_shortest 46 rfl) rfl
            · refine g_iload F (dAt dk_X5_shortest 39 rfl) 4 rfl ?_
              refine g_iconst (v := 1) F (dAt dk_X5_shortest 40 rfl) (by decide) ?_
              refine g_iadd F (dAt dk_X5_shortest 41 rfl) ?_
              refine g_goto (tgt := 88) F (dAt dk_X5_shortest 42 rfl) (by decide) ?_
              cases h
              exact E (dAt dk_X5_shortest 46 rfl) rfl
        · refine g_iload F (dAt dk_X5_shortest 31 rfl) 3 rfl ?_
          cases h
          exact E (dAt dk_X5_shortest 32 rfl) rfl
  refine g_lv (lv' := [(0, .ref (ad 0)), (1, .int x1), (2, .int x2), (3, .int x3)]) rfl ?_
  unfold f_X5_shortest at h
  refine g_aload_n F (dAt dk_X5_shortest 0 rfl) 0 rfl ?_
  refine gg_Main_land F (gm mw_212 rfl) (dAt dk_X5_shortest 1 rfl) ?_
  refine g_iload_n F (dAt dk_X5_shortest 2 rfl) 1 rfl ?_
  refine g_iload_n F (dAt dk_X5_shortest 3 rfl) 2 rfl ?_
  refine g_invV_ic F mi_X1_hasBoth (gm mw_380 rfl) (dAt dk_X5_shortest 4 rfl) (rcx_of F (rc_Land 0)) [.int x1, .int x2] rfl rfl (by decide) (Nat.le_of_ble_eq_true rfl) h (fun _ _ hf => c_X1_hasBoth hJ hf) (fun r1 t2 h => ?_)
  refine g_if_ne (tgt := 18) F (dAt dk_X5_shortest 5 rfl) (by decide) h (fun c3 h => ?_) (fun c3 h => ?_)
  · refine g_aload_n F (dAt dk_X5_shortest 10 rfl) 0 rfl ?_
    refine gg_Main_now F (gm mw_215 rfl) (dAt dk_X5_shortest 11 rfl) ?_
    refine g_aload_n F (dAt dk_X5_shortest 12 rfl) 0 rfl ?_
    refine gg_Main_land F (gm mw_212 rfl) (dAt dk_X5_shortest 13 rfl) ?_
    refine g_invV_vc F mi_X2_measure (gm mw_570 rfl) (dAt dk_X5_shortest 14 rfl) (rcx_of F (rc_Len 0)) [.ref (ad (oLd 0))] rfl rfl (by decide) (Nat.le_of_ble_eq_true rfl) h (fun _ _ hf => c_X2_measure hJ hf) (fun _ t4 h => ?_)
    refine g_iload_n F (dAt dk_X5_shortest 15 rfl) 1 rfl ?_
    refine g_istore (lv' := [(4, .int x1), (0, .ref (ad 0)), (1, .int x1), (2, .int x2), (3, .int x3)]) F (dAt dk_X5_shortest 16 rfl) (by decide) rfl ?_
    refine g_iconst (v := 0) F (dAt dk_X5_shortest 17 rfl) (by decide) ?_
    refine g_istore (lv' := [(5, .int 0), (4, .int x1), (0, .ref (ad 0)), (1, .int x1), (2, .int x2), (3, .int x3)]) F (dAt dk_X5_shortest 18 rfl) (by decide) rfl ?_
    refine g_sub (lv' := [(0, .ref (ad 0)), (2, .int x2), (3, .int x3), (4, .int x1), (5, .int 0)]) [2, 4, 5, 1, 0] rfl ?_
    exact H35  n (x1, 0, t4) h
  · refine g_aload_n F (dAt dk_X5_shortest 6 rfl) 0 rfl ?_
    refine g_iconst (v := (-1)) F (dAt dk_X5_shortest 7 rfl) (by decide) ?_
    refine g_invV_ic F mi_X5_refuse (gm mw_251 rfl) (dAt dk_X5_shortest 8 rfl) (rcx_of F rc_Main) [.int (-1)] rfl rfl (by decide) (Nat.le_of_ble_eq_true rfl) h (fun _ _ hf => c_X5_refuse hJ hf) (fun r5 t6 h => ?_)
    cases h
    exact E (dAt dk_X5_shortest 9 rfl) rfl
theorem mi_X5_within : MI yX5_within cX5_within 3 (some .int) "MillOfDistances" 2 := ⟨(gm mw_616 rfl), (gm mw_614 rfl), (gm mw_615 rfl), (gm mw_69 rfl), by decide +kernel, by decide⟩
theorem c_X5_within {l : Launch} {D : va_G} {ad : Nat → Nat} {g : Gv} {t u : Mem} {n : Nat} {x1 : Int32} {x2 : Int32} {t' : Mem} {r : Int32} (hJ : Jad ad) (h : f_X5_within n x1 x2 t = some (r, t')) : ConI l yX5_within cX5_within 3 (some .int) 4 [.ref (ad 0), .int x1, .int x2] D ad g t u t' u r := by
  refine con_i hJ (by decide) (Nat.le_of_ble_eq_true rfl) rfl (fun X F E => ?_)
  have J28 : ∀ (t0 : Mem), jn_X5_within_28 n x1 x2 t0 = some (r, t') → G X D ad g t0 u [(0, .ref (ad 0))] 28 [] := by
    intro t0 h
    unfold jn_X5_within_28 at h
    refine g_aload_n F (dAt dk_X5_within 14 rfl) 0 rfl ?_
    refine g_bipush (v := (-6)) F (dAt dk_X5_within 15 rfl) (by decide) ?_
    refine g_invV_ic F mi_X5_refuse (gm mw_251 rfl) (dAt dk_X5_within 16 rfl) (rcx_of F rc_Main) [.int (-6)] rfl rfl (by decide) (Nat.le_of_ble_eq_true rfl) h (fun _ _ hf => c_X5_refuse hJ hf) (fun r11 t12 h => ?_)
    cases h
    exact E (dAt dk_X5_within 17 rfl) rfl
  refine g_lv (lv' := [(0, .ref (ad 0)), (1, .int x1), (2, .int x2)]) rfl ?_
  unfold f_X5_within at h
  refine g_aload_n F (dAt dk_X5_within 0 rfl) 0 rfl ?_
  refine gg_Main_land F (gm mw_212 rfl) (dAt dk_X5_within 1 rfl) ?_
  refine g_iload_n F (dAt dk_X5_within 2 rfl) 1 rfl ?_
  refine g_invV_ic F mi_X1_has (gm mw_312 rfl) (dAt dk_X5_within 3 rfl) (rcx_of F (rc_Land 0)) [.int x1] rfl rfl (by decide) (Nat.le_of_ble_eq_true rfl) h (fun _ _ hf => c_X1_has hJ hf) (fun r1 t2 h => ?_)
  refine g_if_ne (tgt := 17) F (dAt dk_X5_within 4 rfl) (by decide) h (fun c3 h => ?_) (fun c3 h => ?_)
  · refine g_iload_n F (dAt dk_X5_within 9 rfl) 2 rfl ?_
    refine g_if_lt (tgt := 28) F (dAt dk_X5_within 10 rfl) (by decide) h (fun c4 h => ?_) (fun c4 h => ?_)
    · refine g_sub (lv' := [(0, .ref (ad 0))]) [0] rfl ?_
      exact J28  t2 h
    · refine g_iload_n F (dAt dk_X5_within 11 rfl) 2 rfl ?_
      refine g_sipush (v := 9999) F (dAt dk_X5_within 12 rfl) (by decide) ?_
      refine g_icmp_le (tgt := 35) F (dAt dk_X5_within 13 rfl) (by decide) h (fun c5 h => ?_) (fun c5 h => ?_)
      · refine g_aload_n F (dAt dk_X5_within 18 rfl) 0 rfl ?_
        refine gg_Main_now F (gm mw_215 rfl) (dAt dk_X5_within 19 rfl) ?_
        refine g_aload_n F (dAt dk_X5_within 20 rfl) 0 rfl ?_
        refine gg_Main_land F (gm mw_212 rfl) (dAt dk_X5_within 21 rfl) ?_
        refine g_invV_vc F mi_X2_measure (gm mw_570 rfl) (dAt dk_X5_within 22 rfl) (rcx_of F (rc_Len 0)) [.ref (ad (oLd 0))] rfl rfl (by decide) (Nat.le_of_ble_eq_true rfl) h (fun _ _ hf => c_X2_measure hJ hf) (fun _ t6 h => ?_)
        refine g_aload_n F (dAt dk_X5_within 23 rfl) 0 rfl ?_
        refine gg_Main_now F (gm mw_215 rfl) (dAt dk_X5_within 24 rfl) ?_
        refine g_iload_n F (dAt dk_X5_within 25 rfl) 1 rfl ?_
        refine g_iload_n F (dAt dk_X5_within 26 rfl) 2 rfl ?_
        refine g_invV_ic F mi_X2_reach (gm mw_617 rfl) (dAt dk_X5_within 27 rfl) (rcx_of F (rc_Len 0)) [.int x1, .int x2] rfl rfl (by decide) (Nat.le_of_ble_eq_true rfl) h (fun _ _ hf => c_X2_reach hJ hf) (fun r7 t8 h => ?_)
        cases h
        exact E (dAt dk_X5_within 28 rfl) rfl
      · refine g_sub (lv' := [(0, .ref (ad 0))]) [0] rfl ?_
        exact J28  t2 h
  · refine g_aload_n F (dAt dk_X5_within 5 rfl) 0 rfl ?_
    refine g_iconst (v := (-1)) F (dAt dk_X5_within 6 rfl) (by decide) ?_
    refine g_invV_ic F mi_X5_refuse (gm mw_251 rfl) (dAt dk_X5_within 7 rfl) (rcx_of F rc_Main) [.int (-1)] rfl rfl (by decide) (Nat.le_of_ble_eq_true rfl) h (fun _ _ hf => c_X5_refuse hJ hf) (fun r9 t10 h => ?_)
    cases h
    exact E (dAt dk_X5_within 8 rfl) rfl
theorem mi_X5_whole : MI yX5_whole cX5_whole 2 (some .int) "MillOfDistances" 1 := ⟨(gm mw_624 rfl), (gm mw_622 rfl), (gm mw_623 rfl), (gm mw_69 rfl), by decide +kernel, by decide⟩
theorem c_X5_whole {l : Launch} {D : va_G} {ad : Nat → Nat} {g : Gv} {t u : Mem} {n : Nat} {x1 : Int32} {t' : Mem} {r : Int32} (hJ : Jad ad) (h : f_X5_whole n x1 t = some (r, t')) : ConI l yX5_whole cX5_whole 2 (some .int) 5 [.ref (ad 0), .int x1] D ad g t u t' u r := by
  refine con_i hJ (by decide) (Nat.le_of_ble_eq_true rfl) rfl (fun X F E => ?_)
  have J24 : ∀ (t0 : Mem), jn_X5_whole_24 n x1 t0 = some (r, t') → G X D ad g t0 u [(0, .ref (ad 0))] 24 [] := by
    intro t0 h
    unfold jn_X5_whole_24 at h
    refine g_aload_n F (dAt dk_X5_whole 12 rfl) 0 rfl ?_
    refine g_bipush (v := (-5)) F (dAt dk_X5_whole 13 rfl) (by decide) ?_
    refine g_invV_ic F mi_X5_refuse (gm mw_251 rfl) (dAt dk_X5_whole 14 rfl) (rcx_of F rc_Main) [.int (-5)] rfl rfl (by decide) (Nat.le_of_ble_eq_true rfl) h (fun _ _ hf => c_X5_refuse hJ hf) (fun r5 t6 h => ?_)
    cases h
    exact E (dAt dk_X5_whole 15 rfl) rfl
  have J31 : ∀ (t0 : Mem), jn_X5_whole_31 n x1 t0 = some (r, t') → G X D ad g t0 u [(0, .ref (ad 0)), (1, .int x1)] 31 [] := by
    intro t0 h
    unfold jn_X5_whole_31 at h
    refine g_iload_n F (dAt dk_X5_whole 16 rfl) 1 rfl ?_
    refine g_iconst (v := 3) F (dAt dk_X5_whole 17 rfl) (by decide) ?_
    refine g_icmp_ne (tgt := 44) F (dAt dk_X5_whole 18 rfl) (by decide) h (fun c7 h => ?_) (fun c7 h => ?_)
    · refine g_aload_n F (dAt dk_X5_whole 23 rfl) 0 rfl ?_
      refine gg_Main_now F (gm mw_215 rfl) (dAt dk_X5_whole 24 rfl) ?_
      refine g_aload_n F (dAt dk_X5_whole 25 rfl) 0 rfl ?_
      refine gg_Main_land F (gm mw_212 rfl) (dAt dk_X5_whole 26 rfl) ?_
      refine g_invV_vc F mi_X2_measure (gm mw_570 rfl) (dAt dk_X5_whole 27 rfl) (rcx_of F (rc_Len 0)) [.ref (ad (oLd 0))] rfl rfl (by decide) (Nat.le_of_ble_eq_true rfl) h (fun _ _ hf => c_X2_measure hJ hf) (fun _ t8 h => ?_)
      refine g_iload_n F (dAt dk_X5_whole 28 rfl) 1 rfl ?_
      refine g_case 0 h (fun c9 h => ?_) (fun c9 h => ?_)
      · refine g_look (tgt := 84) (off := 28) F (dAt dk_X5_whole 29 rfl) (by decide) (by rw [c9]; rfl) (by decide) ?_
        refine g_aload_n F (dAt dk_X5_whole 30 rfl) 0 rfl ?_
        refine gg_Main_now F (gm mw_215 rfl) (dAt dk_X5_whole 31 rfl) ?_
        refine g_invV_ic F mi_X2_parts (gm mw_633 rfl) (dAt dk_X5_whole 32 rfl) (rcx_of F (rc_Len 0)) [] rfl rfl (by decide) (Nat.le_of_ble_eq_true rfl) h (fun _ _ hf => c_X2_parts hJ hf) (fun r10 t11 h => ?_)
        cases h
        exact E (dAt dk_X5_whole 33 rfl) rfl
      · refine g_case 1 h (fun c12 h => ?_) (fun c12 h => ?_)
        · refine g_look (tgt := 92) (off := 36) F (dAt dk_X5_whole 29 rfl) (by decide) (by rw [c12]; rfl) (by decide) ?_
          refine g_aload_n F (dAt dk_X5_whole 34 rfl) 0 rfl ?_
          refine gg_Main_now F (gm mw_215 rfl) (dAt dk_X5_whole 35 rfl) ?_
          refine g_invV_ic F mi_X2_middle (gm mw_638 rfl) (dAt dk_X5_whole 36 rfl) (rcx_of F (rc_Len 0)) [] rfl rfl (by decide) (Nat.le_of_ble_eq_true rfl) h (fun _ _ hf => c_X2_middle hJ hf) (fun r13 t14 h => ?_)
          cases h
          exact E (dAt dk_X5_whole 37 rfl) rfl
        · refine g_look (tgt := 100) (off := 44) F (dAt dk_X5_whole 29 rfl) (by decide) (by rw [lv_osw c9 (by decide), lv_osw c12 (by decide)]; rfl) (by decide) ?_
          refine g_aload_n F (dAt dk_X5_whole 38 rfl) 0 rfl ?_
          refine gg_Main_now F (gm mw_215 rfl) (dAt dk_X5_whole 39 rfl) ?_
          refine g_invV_ic F mi_X2_greatest (gm mw_643 rfl) (dAt dk_X5_whole 40 rfl) (rcx_of F (rc_Len 0)) [] rfl rfl (by decide) (Nat.le_of_ble_eq_true rfl) h (fun _ _ hf => c_X2_greatest hJ hf) (fun r15 t16 h => ?_)
          cases h
          exact E (dAt dk_X5_whole 41 rfl) rfl
    · refine g_aload_n F (dAt dk_X5_whole 19 rfl) 0 rfl ?_
      refine gg_Main_land F (gm mw_212 rfl) (dAt dk_X5_whole 20 rfl) ?_
      refine g_invV_ic F mi_X1_leastMilesThatKeep (gm mw_625 rfl) (dAt dk_X5_whole 21 rfl) (rcx_of F (rc_Land 0)) [] rfl rfl (by decide) (Nat.le_of_ble_eq_true rfl) h (fun _ _ hf => c_X1_leastMilesThatKeep hJ hf) (fun r17 t18 h => ?_)
      cases h
      exact E (dAt dk_X5_whole 22 rfl) rfl
  refine g_lv (lv' := [(0, .ref (ad 0)), (1, .int x1)]) rfl ?_
  unfold f_X5_whole at h
  refine g_iload_n F (dAt dk_X5_whole 0 rfl) 1 rfl ?_
  refine g_if_lt (tgt := 24) F (dAt dk_X5_whole 1 rfl) (by decide) h (fun c1 h => ?_) (fun c1 h => ?_)
  · refine g_sub (lv' := [(0, .ref (ad 0))]) [0] rfl ?_
    exact J24  t h
  · refine g_iload_n F (dAt dk_X5_whole 2 rfl) 1 rfl ?_
    refine g_iconst (v := 3) F (dAt dk_X5_whole 3 rfl) (by decide) ?_
    refine g_icmp_gt (tgt := 24) F (dAt dk_X5_whole 4 rfl) (by decide) h (fun c2 h => ?_) (fun c2 h => ?_)
    · refine g_sub (lv' := [(0, .ref (ad 0))]) [0] rfl ?_
      exact J24  t h
    · refine g_iload_n F (dAt dk_X5_whole 5 rfl) 1 rfl ?_
      refine g_iconst (v := 1) F (dAt dk_X5_whole 6 rfl) (by decide) ?_
      refine g_icmp_ne (tgt := 31) F (dAt dk_X5_whole 7 rfl) (by decide) h (fun c3 h => ?_) (fun c3 h => ?_)
      · refine g_sub (lv' := [(0, .ref (ad 0)), (1, .int x1)]) [0, 1] rfl ?_
        exact J31  t h
      · refine g_aload_n F (dAt dk_X5_whole 8 rfl) 0 rfl ?_
        refine gg_Main_land F (gm mw_212 rfl) (dAt dk_X5_whole 9 rfl) ?_
        refine gg_Land_count 0 F (gm mw_105 rfl) (dAt dk_X5_whole 10 rfl) ?_
        refine g_if_ne (tgt := 31) F (dAt dk_X5_whole 11 rfl) (by decide) h (fun c4 h => ?_) (fun c4 h => ?_)
        · refine g_sub (lv' := [(0, .ref (ad 0)), (1, .int x1)]) [0, 1] rfl ?_
          exact J31  t h
        · refine g_sub (lv' := [(0, .ref (ad 0))]) [0] rfl ?_
          exact J24  t h
theorem mi_X5_harm : MI yX5_harm cX5_harm 5 (some .int) "MillOfDistances" 3 := ⟨(gm mw_651 rfl), (gm mw_649 rfl), (gm mw_650 rfl), (gm mw_69 rfl), by decide +kernel, by decide⟩
theorem c_X5_harm {l : Launch} {D : va_G} {ad : Nat → Nat} {g : Gv} {t u : Mem} {n : Nat} {x1 : Int32} {x2 : Int32} {x3 : Int32} {t' : Mem} {r : Int32} (hJ : Jad ad) (h : f_X5_harm n x1 x2 x3 t = some (r, t')) : ConI l yX5_harm cX5_harm 5 (some .int) 4 [.ref (ad 0), .int x1, .int x2, .int x3] D ad g t u t' u r := by
  refine con_i hJ (by decide) (Nat.le_of_ble_eq_true rfl) rfl (fun X F E => ?_)
  have J27 : ∀ (t0 : Mem), jn_X5_harm_27 n x1 x2 x3 t0 = some (r, t') → G X D ad g t0 u [(0, .ref (ad 0))] 27 [] := by
    intro t0 h
    unfold jn_X5_harm_27 at h
    refine g_aload_n F (dAt dk_X5_harm 15 rfl) 0 rfl ?_
    refine g_bipush (v := (-5)) F (dAt dk_X5_harm 16 rfl) (by decide) ?_
    refine g_invV_ic F mi_X5_refuse (gm mw_251 rfl) (dAt dk_X5_harm 17 rfl) (rcx_of F rc_Main) [.int (-5)] rfl rfl (by decide) (Nat.le_of_ble_eq_true rfl) h (fun _ _ hf => c_X5_refuse hJ hf) (fun r24 t25 h => ?_)
    cases h
    exact E (dAt dk_X5_harm 18 rfl) rfl
  refine g_lv (lv' := [(0, .ref (ad 0)), (1, .int x1), (2, .int x2), (3, .int x3)]) rfl ?_
  unfold f_X5_harm at h
  refine g_aload_n F (dAt dk_X5_harm 0 rfl) 0 rfl ?_
  refine gg_Main_land F (gm mw_212 rfl) (dAt dk_X5_harm 1 rfl) ?_
  refine g_iload_n F (dAt dk_X5_harm 2 rfl) 1 rfl ?_
  refine g_iload_n F (dAt dk_X5_harm 3 rfl) 2 rfl ?_
  refine g_invV_ic F mi_X1_hasBoth (gm mw_380 rfl) (dAt dk_X5_harm 4 rfl) (rcx_of F (rc_Land 0)) [.int x1, .int x2] rfl rfl (by decide) (Nat.le_of_ble_eq_true rfl) h (fun _ _ hf => c_X1_hasBoth hJ hf) (fun r1 t2 h => ?_)
  refine g_if_ne (tgt := 18) F (dAt dk_X5_harm 5 rfl) (by decide) h (fun c3 h => ?_) (fun c3 h => ?_)
  · refine g_iload_n F (dAt dk_X5_harm 10 rfl) 3 rfl ?_
    refine g_if_lt (tgt := 27) F (dAt dk_X5_harm 11 rfl) (by decide) h (fun c4 h => ?_) (fun c4 h => ?_)
    · refine g_sub (lv' := [(0, .ref (ad 0))]) [0] rfl ?_
      exact J27  t2 h
    · refine g_iload_n F (dAt dk_X5_harm 12 rfl) 3 rfl ?_
      refine g_iconst (v := 1) F (dAt dk_X5_harm 13 rfl) (by decide) ?_
      refine g_icmp_le (tgt := 34) F (dAt dk_X5_harm 14 rfl) (by decide) h (fun c5 h => ?_) (fun c5 h => ?_)
      · refine g_aload_n F (dAt dk_X5_harm 19 rfl) 0 rfl ?_
        refine g_iload_n F (dAt dk_X5_harm 20 rfl) 1 rfl ?_
        refine g_iload_n F (dAt dk_X5_harm 21 rfl) 2 rfl ?_
        refine g_invV_ic F mi_X5_roadProblem (gm mw_561 rfl) (dAt dk_X5_harm 22 rfl) (rcx_of F rc_Main) [.int x1, .int x2] rfl rfl (by decide) (Nat.le_of_ble_eq_true rfl) h (fun _ _ hf => c_X5_roadProblem hJ hf) (fun r6 t7 h => ?_)
        refine g_istore (lv' := [(4, .int r6), (0, .ref (ad 0)), (1, .int x1), (2, .int x2), (3, .int x3)]) F (dAt dk_X5_harm 23 rfl) (by decide) rfl ?_
        refine g_iload F (dAt dk_X5_harm 24 rfl) 0 rfl ?_
        refine g_if_eq (tgt := 54) F (dAt dk_X5_harm 25 rfl) (by decide) h (fun c8 h => ?_) (fun c8 h => ?_)
        · refine g_aload_n F (dAt dk_X5_harm 30 rfl) 1 rfl ?_
          refine gg_Main_now F (gm mw_215 rfl) (dAt dk_X5_harm 31 rfl) ?_
          refine g_aload_n F (dAt dk_X5_harm 32 rfl) 1 rfl ?_
          refine gg_Main_land F (gm mw_212 rfl) (dAt dk_X5_harm 33 rfl) ?_
          refine g_invV_vc F mi_X2_measure (gm mw_570 rfl) (dAt dk_X5_harm 34 rfl) (rcx_of F (rc_Len 0)) [.ref (ad (oLd 0))] rfl rfl (by decide) (Nat.le_of_ble_eq_true rfl) h (fun _ _ hf => c_X2_measure hJ hf) (fun _ t9 h => ?_)
          refine g_aload_n F (dAt dk_X5_harm 35 rfl) 1 rfl ?_
          refine gg_Main_then F (gm mw_216 rfl) (dAt dk_X5_harm 36 rfl) ?_
          refine g_aload_n F (dAt dk_X5_harm 37 rfl) 1 rfl ?_
          refine gg_Main_land F (gm mw_212 rfl) (dAt dk_X5_harm 38 rfl) ?_
          refine g_iload_n F (dAt dk_X5_harm 39 rfl) 2 rfl ?_
          refine g_iload_n F (dAt dk_X5_harm 40 rfl) 3 rfl ?_
          refine g_invV_vc F mi_X2_measureWithout (gm mw_652 rfl) (dAt dk_X5_harm 41 rfl) (rcx_of F (rc_Len 1)) [.ref (ad (oLd 0)), .int x1, .int x2] rfl rfl (by decide) (Nat.le_of_ble_eq_true rfl) h (fun _ _ hf => c_X2_measureWithout hJ hf) (fun _ t10 h => ?_)
          refine g_iload_n F (dAt dk_X5_harm 42 rfl) 4 rfl ?_
          refine g_if_ne (tgt := 98) F (dAt dk_X5_harm 43 rfl) (by decide) h (fun c11 h => ?_) (fun c11 h => ?_)
          · refine g_aload_n F (dAt dk_X5_harm 52 rfl) 1 rfl ?_
            refine gg_Main_now F (gm mw_215 rfl) (dAt dk_X5_harm 53 rfl) ?_
            refine g_iload_n F (dAt dk_X5_harm 54 rfl) 2 rfl ?_
            refine g_sipush (v := 9999) F (dAt dk_X5_harm 55 rfl) (by decide) ?_
            refine g_invV_ic F mi_X2_reach (gm mw_617 rfl) (dAt dk_X5_harm 56 rfl) (rcx_of F (rc_Len 0)) [.int x1, .int 9999] rfl rfl (by decide) (Nat.le_of_ble_eq_true rfl) h (fun _ _ hf => c_X2_reach hJ hf) (fun r12 t13 h => ?_)
            refine g_aload_n F (dAt dk_X5_harm 57 rfl) 1 rfl ?_
            refine gg_Main_then F (gm mw_216 rfl) (dAt dk_X5_harm 58 rfl) ?_
            refine g_iload_n F (dAt dk_X5_harm 59 rfl) 2 rfl ?_
            refine g_sipush (v := 9999) F (dAt dk_X5_harm 60 rfl) (by decide) ?_
            refine g_invV_ic F mi_X2_reach (gm mw_617 rfl) (dAt dk_X5_harm 61 rfl) (rcx_of F (rc_Len 1)) [.int x1, .int 9999] rfl rfl (by decide) (Nat.le_of_ble_eq_true rfl) h (fun _ _ hf => c_X2_reach hJ hf) (fun r14 t15 h => ?_)
            refine g_iconst (v := (-1)) F (dAt dk_X5_harm 62 rfl) (by decide) ?_
            refine g_ixor F (dAt dk_X5_harm 63 rfl) ?_
            refine g_iand F (dAt dk_X5_harm 64 rfl) ?_
            cases h
            exact E (dAt dk_X5_harm 65 rfl) rfl
          · refine g_aload_n F (dAt dk_X5_harm 44 rfl) 1 rfl ?_
            refine gg_Main_then F (gm mw_216 rfl) (dAt dk_X5_harm 45 rfl) ?_
            refine g_invV_ic F mi_X2_total (gm mw_656 rfl) (dAt dk_X5_harm 46 rfl) (rcx_of F (rc_Len 1)) [] rfl rfl (by decide) (Nat.le_of_ble_eq_true rfl) h (fun _ _ hf => c_X2_total hJ hf) (fun r16 t17 h => ?_)
            refine g_aload_n F (dAt dk_X5_harm 47 rfl) 1 rfl ?_
            refine gg_Main_now F (gm mw_215 rfl) (dAt dk_X5_harm 48 rfl) ?_
            refine g_invV_ic F mi_X2_total (gm mw_656 rfl) (dAt dk_X5_harm 49 rfl) (rcx_of F (rc_Len 0)) [] rfl rfl (by decide) (Nat.le_of_ble_eq_true rfl) h (fun _ _ hf => c_X2_total hJ hf) (fun r18 t19 h => ?_)
            refine g_isub F (dAt dk_X5_harm 50 rfl) ?_
            cases h
            exact E (dAt dk_X5_harm 51 rfl) rfl
        · refine g_aload_n F (dAt dk_X5_harm 26 rfl) 1 rfl ?_
          refine g_iload F (dAt dk_X5_harm 27 rfl) 0 rfl ?_
          refine g_invV_ic F mi_X5_refuse (gm mw_251 rfl) (dAt dk_X5_harm 28 rfl) (rcx_of F rc_Main) [.int r6] rfl rfl (by decide) (Nat.le_of_ble_eq_true rfl) h (fun _ _ hf => c_X5_refuse hJ hf) (fun r20 t21 h => ?_)
          cases h
          exact E (dAt dk_X5_harm 29 rfl) rfl
      · refine g_sub (lv' := [(0, .ref (ad 0))]) [0] rfl ?_
        exact J27  t2 h
  · refine g_aload_n F (dAt dk_X5_harm 6 rfl) 0 rfl ?_
    refine g_iconst (v := (-1)) F (dAt dk_X5_harm 7 rfl) (by decide) ?_
    refine g_invV_ic F mi_X5_refuse (gm mw_251 rfl) (dAt dk_X5_harm 8 rfl) (rcx_of F rc_Main) [.int (-1)] rfl rfl (by decide) (Nat.le_of_ble_eq_true rfl) h (fun _ _ hf => c_X5_refuse hJ hf) (fun r22 t23 h => ?_)
    cases h
    exact E (dAt dk_X5_harm 9 rfl) rfl
theorem mi_X5_leastHarm : MI yX5_leastHarm cX5_leastHarm 6 (some .int) "MillOfDistances" 0 := ⟨(gm mw_663 rfl), (gm mw_661 rfl), (gm mw_662 rfl), (gm mw_69 rfl), by decide +kernel, by decide⟩
theorem c_X5_leastHarm {l : Launch} {D : va_G} {ad : Nat → Nat} {g : Gv} {t u : Mem} {n : Nat}  {t' : Mem} {r : Int32} (hJ : Jad ad) (h : f_X5_leastHarm n t = some (r, t')) : ConI l yX5_leastHarm cX5_leastHarm 6 (some .int) 4 [.ref (ad 0)] D ad g t u t' u r := by
  refine con_i hJ (by decide) (Nat.le_of_ble_eq_true rfl) rfl (fun X F E => ?_)
  have J81 : ∀ (self6 : Int32 × Int32 × Int32 × Mem → Option (Int32 × Mem)), (∀ s, self6 s = some (r, t') → G X D ad g s.2.2.2 u [(0, .ref (ad 0)), (1, .int s.1), (2, .int s.2.1), (3, .int s.2.2.1)] 6 []) → ∀ (self22 : Int32 × Int32 × Int32 × Int32 × Mem → Option (Int32 × Mem)), (∀ s, self22 s = some (r, t') → G X D ad g s.2.2.2.2 u [(0, .ref (ad 0)), (1, .int s.1), (2, .int s.2.1), (3, .int s.2.2.1), (4, .int s.2.2.2.1)] 22 []) → ∀ (v3 : Int32) (v4 : Int32) (v5 : Int32) (t0 : Mem), jn_X5_leastHarm_81 n self6 self22 v3 v4 v5 t0 = some (r, t') → G X D ad g t0 u [(0, .ref (ad 0)), (3, .int v3), (4, .int v4), (5, .int v5)] 81 [] := by
    intro self6 ih6 self22 ih22 v3 v4 v5 t0 h
    unfold jn_X5_leastHarm_81 at h
    refine g_bipush (v := 100) F (dAt dk_X5_leastHarm 43 rfl) (by decide) ?_
    refine g_iload_n F (dAt dk_X5_leastHarm 44 rfl) 1 rfl ?_
    refine g_imul F (dAt dk_X5_leastHarm 45 rfl) ?_
    refine g_iload F (dAt dk_X5_leastHarm 46 rfl) 2 rfl ?_
    refine g_iadd F (dAt dk_X5_leastHarm 47 rfl) ?_
    refine g_istore_n (lv' := [(1, .int ((100 * v3) + v4)), (0, .ref (ad 0)), (3, .int v3), (4, .int v4), (5, .int v5)]) F (dAt dk_X5_leastHarm 48 rfl) (by decide) rfl ?_
    refine g_iload F (dAt dk_X5_leastHarm 49 rfl) 4 rfl ?_
    refine g_istore_n (lv' := [(2, .int v5), (1, .int ((100 * v3) + v4)), (0, .ref (ad 0)), (3, .int v3), (4, .int v4), (5, .int v5)]) F (dAt dk_X5_leastHarm 50 rfl) (by decide) rfl ?_
    refine g_iinc (lv' := [(4, .int (v4 + 1)), (2, .int v5), (1, .int ((100 * v3) + v4)), (0, .ref (ad 0)), (3, .int v3), (5, .int v5)]) F (dAt dk_X5_leastHarm 51 rfl) 4 rfl (w := 1) (by decide) (by decide) rfl ?_
    refine g_goto (tgt := 22) F (dAt dk_X5_leastHarm 52 rfl) (by decide) ?_
    refine g_sub (lv' := [(0, .ref (ad 0)), (1, .int ((100 * v3) + v4)), (2, .int v5), (3, .int v3), (4, .int (v4 + 1))]) [3, 2, 1, 4, 0] rfl ?_
    exact ih22 (((100 * v3) + v4), v5, v3, (v4 + 1), t0) h
  have H22 : ∀ (self6 : Int32 × Int32 × Int32 × Mem → Option (Int32 × Mem)), (∀ s, self6 s = some (r, t') → G X D ad g s.2.2.2 u [(0, .ref (ad 0)), (1, .int s.1), (2, .int s.2.1), (3, .int s.2.2.1)] 6 []) → ∀ (k : Nat) (s : Int32 × Int32 × Int32 × Int32 × Mem), iter (bd_X5_leastHarm_22 n self6) k s = some (r, t') → G X D ad g s.2.2.2.2 u [(0, .ref (ad 0)), (1, .int s.1), (2, .int s.2.1), (3, .int s.2.2.1), (4, .int s.2.2.2.1)] 22 [] := by
    intro self6 ih6
    refine iter_walk (P := fun (s : Int32 × Int32 × Int32 × Int32 × Mem) => G X D ad g s.2.2.2.2 u [(0, .ref (ad 0)), (1, .int s.1), (2, .int s.2.1), (3, .int s.2.2.1), (4, .int s.2.2.2.1)] 22 []) (fun self22 ih22 s h => ?_)
    obtain ⟨v1, v2, v3, v4, t0⟩ := s
    change G X D ad g t0 u [(0, .ref (ad 0)), (1, .int v1), (2, .int v2), (3, .int v3), (4, .int v4)] 22 []
    unfold bd_X5_leastHarm_22 at h; try dsimp only at h
    refine g_iload F (dAt dk_X5_leastHarm 15 rfl) 4 rfl ?_
    refine g_aload_n F (dAt dk_X5_leastHarm 16 rfl) 0 rfl ?_
    refine gg_Main_land F (gm mw_212 rfl) (dAt dk_X5_leastHarm 17 rfl) ?_
    refine gg_Land_count 0 F (gm mw_105 rfl) (dAt dk_X5_leastHarm 18 rfl) ?_
    refine g_icmp_ge (tgt := 98) F (dAt dk_X5_leastHarm 19 rfl) (by decide) h (fun c5 h => ?_) (fun c5 h => ?_)
    · refine g_iinc (lv' := [(3, .int (v3 + 1)), (0, .ref (ad 0)), (1, .int v1), (2, .int v2), (4, .int v4)]) F (dAt dk_X5_leastHarm 53 rfl) 3 rfl (w := 1) (by decide) (by decide) rfl ?_
      refine g_goto (tgt := 6) F (dAt dk_X5_leastHarm 54 rfl) (by decide) ?_
      refine g_sub (lv' := [(0, .ref (ad 0)), (1, .int v1), (2, .int v2), (3, .int (v3 + 1))]) [1, 2, 3, 0] rfl ?_
      exact ih6 (v1, v2, (v3 + 1), t0) h
    · refine g_aload_n F (dAt dk_X5_leastHarm 20 rfl) 0 rfl ?_
      refine gg_Main_land F (gm mw_212 rfl) (dAt dk_X5_leastHarm 21 rfl) ?_
      refine g_iload_n F (dAt dk_X5_leastHarm 22 rfl) 3 rfl ?_
      refine g_iload F (dAt dk_X5_leastHarm 23 rfl) 4 rfl ?_
      refine g_invV_ic F mi_X1_between (gm mw_384 rfl) (dAt dk_X5_leastHarm 24 rfl) (rcx_of F (rc_Land 0)) [.int v3, .int v4] rfl rfl (by decide) (Nat.le_of_ble_eq_true rfl) h (fun _ _ hf => c_X1_between hJ hf) (fun r6 t7 h => ?_)
      refine g_if_eq (tgt := 92) F (dAt dk_X5_leastHarm 25 rfl) (by decide) h (fun c8 h => ?_) (fun c8 h => ?_)
      · refine g_iinc (lv' := [(4, .int (v4 + 1)), (0, .ref (ad 0)), (1, .int v1), (2, .int v2), (3, .int v3)]) F (dAt dk_X5_leastHarm 51 rfl) 4 rfl (w := 1) (by decide) (by decide) rfl ?_
        refine g_goto (tgt := 22) F (dAt dk_X5_leastHarm 52 rfl) (by decide) ?_
        refine g_sub (lv' := [(0, .ref (ad 0)), (1, .int v1), (2, .int v2), (3, .int v3), (4, .int (v4 + 1))]) [1, 2, 3, 4, 0] rfl ?_
        exact ih22 (v1, v2, v3, (v4 + 1), t7) h
      · refine g_aload_n F (dAt dk_X5_leastHarm 26 rfl) 0 rfl ?_
        refine gg_Main_then F (gm mw_216 rfl) (dAt dk_X5_leastHarm 27 rfl) ?_
        refine g_aload_n F (dAt dk_X5_leastHarm 28 rfl) 0 rfl ?_
        refine gg_Main_land F (gm mw_212 rfl) (dAt dk_X5_leastHarm 29 rfl) ?_
        refine g_iload_n F (dAt dk_X5_leastHarm 30 rfl) 3 rfl ?_
        refine g_iload F (dAt dk_X5_leastHarm 31 rfl) 4 rfl ?_
        refine g_invV_vc F mi_X2_measureWithout (gm mw_652 rfl) (dAt dk_X5_leastHarm 32 rfl) (rcx_of F (rc_Len 1)) [.ref (ad (oLd 0)), .int v3, .int v4] rfl rfl (by decide) (Nat.le_of_ble_eq_true rfl) h (fun _ _ hf => c_X2_measureWithout hJ hf) (fun _ t9 h => ?_)
        refine g_aload_n F (dAt dk_X5_leastHarm 33 rfl) 0 rfl ?_
        refine gg_Main_then F (gm mw_216 rfl) (dAt dk_X5_leastHarm 34 rfl) ?_
        refine g_invV_ic F mi_X2_total (gm mw_656 rfl) (dAt dk_X5_leastHarm 35 rfl) (rcx_of F (rc_Len 1)) [] rfl rfl (by decide) (Nat.le_of_ble_eq_true rfl) h (fun _ _ hf => c_X2_total hJ hf) (fun r10 t11 h => ?_)
        refine g_istore (lv' := [(5, .int r10), (0, .ref (ad 0)), (1, .int v1), (2, .int v2), (3, .int v3), (4, .int v4)]) F (dAt dk_X5_leastHarm 36 rfl) (by decide) rfl ?_
        refine g_iload_n F (dAt dk_X5_leastHarm 37 rfl) 2 rfl ?_
        refine g_iconst (v := (-1)) F (dAt dk_X5_leastHarm 38 rfl) (by decide) ?_
        refine g_icmp_eq (tgt := 81) F (dAt dk_X5_leastHarm 39 rfl) (by decide) h (fun c12 h => ?_) (fun c12 h => ?_)
        · refine g_sub (lv' := [(0, .ref (ad 0)), (3, .int v3), (4, .int v4), (5, .int r10)]) [1, 4, 5, 0] rfl ?_
          exact J81 self6 ih6 self22 ih22 v3 v4 r10 t11 h
        · refine g_iload F (dAt dk_X5_leastHarm 40 rfl) 0 rfl ?_
          refine g_iload_n F (dAt dk_X5_leastHarm 41 rfl) 3 rfl ?_
          refine g_icmp_ge (tgt := 92) F (dAt dk_X5_leastHarm 42 rfl) (by decide) h (fun c13 h => ?_) (fun c13 h => ?_)
          · refine g_iinc (lv' := [(4, .int (v4 + 1)), (5, .int r10), (0, .ref (ad 0)), (1, .int v1), (2, .int v2), (3, .int v3)]) F (dAt dk_X5_leastHarm 51 rfl) 5 rfl (w := 1) (by decide) (by decide) rfl ?_
            refine g_goto (tgt := 22) F (dAt dk_X5_leastHarm 52 rfl) (by decide) ?_
            refine g_sub (lv' := [(0, .ref (ad 0)), (1, .int v1), (2, .int v2), (3, .int v3), (4, .int (v4 + 1))]) [2, 3, 4, 5, 0] rfl ?_
            exact ih22 (v1, v2, v3, (v4 + 1), t11) h
          · refine g_sub (lv' := [(0, .ref (ad 0)), (3, .int v3), (4, .int v4), (5, .int r10)]) [1, 4, 5, 0] rfl ?_
            exact J81 self6 ih6 self22 ih22 v3 v4 r10 t11 h
  have H6 : ∀ (k : Nat) (s : Int32 × Int32 × Int32 × Mem), iter (bd_X5_leastHarm_6 n) k s = some (r, t') → G X D ad g s.2.2.2 u [(0, .ref (ad 0)), (1, .int s.1), (2, .int s.2.1), (3, .int s.2.2.1)] 6 [] := by
    refine iter_walk (P := fun (s : Int32 × Int32 × Int32 × Mem) => G X D ad g s.2.2.2 u [(0, .ref (ad 0)), (1, .int s.1), (2, .int s.2.1), (3, .int s.2.2.1)] 6 []) (fun self6 ih6 s h => ?_)
    obtain ⟨v1, v2, v3, t0⟩ := s
    change G X D ad g t0 u [(0, .ref (ad 0)), (1, .int v1), (2, .int v2), (3, .int v3)] 6 []
    unfold bd_X5_leastHarm_6 at h; try dsimp only at h
    refine g_iload_n F (dAt dk_X5_leastHarm 6 rfl) 3 rfl ?_
    refine g_aload_n F (dAt dk_X5_leastHarm 7 rfl) 0 rfl ?_
    refine gg_Main_land F (gm mw_212 rfl) (dAt dk_X5_leastHarm 8 rfl) ?_
    refine gg_Land_count 0 F (gm mw_105 rfl) (dAt dk_X5_leastHarm 9 rfl) ?_
    refine g_icmp_ge (tgt := 104) F (dAt dk_X5_leastHarm 10 rfl) (by decide) h (fun c1 h => ?_) (fun c1 h => ?_)
    · refine g_iload_n F (dAt dk_X5_leastHarm 55 rfl) 1 rfl ?_
      refine g_iconst (v := (-1)) F (dAt dk_X5_leastHarm 56 rfl) (by decide) ?_
      refine g_icmp_ne (tgt := 118) F (dAt dk_X5_leastHarm 57 rfl) (by decide) h (fun c2 h => ?_) (fun c2 h => ?_)
      · refine g_iload_n F (dAt dk_X5_leastHarm 62 rfl) 1 rfl ?_
        cases h
        exact E (dAt dk_X5_leastHarm 63 rfl) rfl
      · refine g_aload_n F (dAt dk_X5_leastHarm 58 rfl) 0 rfl ?_
        refine g_bipush (v := (-5)) F (dAt dk_X5_leastHarm 59 rfl) (by decide) ?_
        refine g_invV_ic F mi_X5_refuse (gm mw_251 rfl) (dAt dk_X5_leastHarm 60 rfl) (rcx_of F rc_Main) [.int (-5)] rfl rfl (by decide) (Nat.le_of_ble_eq_true rfl) h (fun _ _ hf => c_X5_refuse hJ hf) (fun r3 t4 h => ?_)
        refine g_goto (tgt := 119) F (dAt dk_X5_leastHarm 61 rfl) (by decide) ?_
        cases h
        exact E (dAt dk_X5_leastHarm 63 rfl) rfl
    · refine g_iload_n F (dAt dk_X5_leastHarm 11 rfl) 3 rfl ?_
      refine g_iconst (v := 1) F (dAt dk_X5_leastHarm 12 rfl) (by decide) ?_
      refine g_iadd F (dAt dk_X5_leastHarm 13 rfl) ?_
      refine g_istore (lv' := [(4, .int (v3 + 1)), (0, .ref (ad 0)), (1, .int v1), (2, .int v2), (3, .int v3)]) F (dAt dk_X5_leastHarm 14 rfl) (by decide) rfl ?_
      refine g_sub (lv' := [(0, .ref (ad 0)), (1, .int v1), (2, .int v2), (3, .int v3), (4, .int (v3 + 1))]) [1, 2, 3, 4, 0] rfl ?_
      exact H22 self6 ih6 n (v1, v2, v3, (v3 + 1), t0) h
  refine g_lv (lv' := [(0, .ref (ad 0))]) rfl ?_
  unfold f_X5_leastHarm at h
  refine g_iconst (v := (-1)) F (dAt dk_X5_leastHarm 0 rfl) (by decide) ?_
  refine g_istore_n (lv' := [(1, .int (-1)), (0, .ref (ad 0))]) F (dAt dk_X5_leastHarm 1 rfl) (by decide) rfl ?_
  refine g_iconst (v := 0) F (dAt dk_X5_leastHarm 2 rfl) (by decide) ?_
  refine g_istore_n (lv' := [(2, .int 0), (1, .int (-1)), (0, .ref (ad 0))]) F (dAt dk_X5_leastHarm 3 rfl) (by decide) rfl ?_
  refine g_iconst (v := 0) F (dAt dk_X5_leastHarm 4 rfl) (by decide) ?_
  refine g_istore_n (lv' := [(3, .int 0), (2, .int 0), (1, .int (-1)), (0, .ref (ad 0))]) F (dAt dk_X5_leastHarm 5 rfl) (by decide) rfl ?_
  refine g_sub (lv' := [(0, .ref (ad 0)), (1, .int (-1)), (2, .int 0), (3, .int 0)]) [3, 2, 1, 0] rfl ?_
  exact H6  n ((-1), 0, 0, t) h
theorem mi_X5_cheapestPinch : MI yX5_cheapestPinch cX5_cheapestPinch 12 (some .int) "MillOfDistances" 4 := ⟨(gm mw_672 rfl), (gm mw_671 rfl), (gm mw_16 rfl), (gm mw_69 rfl), by decide +kernel, by decide⟩
theorem c_X5_cheapestPinch {l : Launch} {D : va_G} {ad : Nat → Nat} {g : Gv} {t u : Mem} {n : Nat} {x1 : Int32} {x2 : Int32} {x3 : Int32} {x4 : Int32} {t' : Mem} {r : Int32} (hJ : Jad ad) (h : f_X5_cheapestPinch n x1 x2 x3 x4 t = some (r, t')) : ConI l yX5_cheapestPinch cX5_cheapestPinch 12 (some .int) 3 [.ref (ad 0), .int x1, .int x2, .int x3, .int x4] D ad g t u t' u r := by
  refine con_i hJ (by decide) (Nat.le_of_ble_eq_true rfl) rfl (fun X F E => ?_)
  have J112 : ∀ (self12 : Int32 × Int32 × Int32 × Int32 × Mem → Option (Int32 × Mem)), (∀ s, self12 s = some (r, t') → G X D ad g s.2.2.2.2 u [(0, .ref (ad 0)), (1, .int x1), (2, .int x2), (3, .int x3), (4, .int x4), (5, .int s.1), (6, .int s.2.1), (7, .int s.2.2.1), (8, .int s.2.2.2.1)] 12 []) → ∀ (self30 : Int32 × Int32 × Int32 × Int32 × Int32 × Mem → Option (Int32 × Mem)), (∀ s, self30 s = some (r, t') → G X D ad g s.2.2.2.2.2 u [(0, .ref (ad 0)), (1, .int x1), (2, .int x2), (3, .int x3), (4, .int x4), (5, .int s.1), (6, .int s.2.1), (7, .int s.2.2.1), (8, .int s.2.2.2.1), (9, .int s.2.2.2.2.1)] 30 []) → ∀ (v8 : Int32) (v9 : Int32) (v11 : Int32) (t0 : Mem), jn_X5_cheapestPinch_112 n x1 x2 x3 x4 self12 self30 v8 v9 v11 t0 = some (r, t') → G X D ad g t0 u [(0, .ref (ad 0)), (1, .int x1), (2, .int x2), (3, .int x3), (4, .int x4), (8, .int v8), (9, .int v9), (11, .int v11)] 112 [] := by
    intro self12 ih12 self30 ih30 v8 v9 v11 t0 h
    unfold jn_X5_cheapestPinch_112 at h
    refine g_aload_n F (dAt dk_X5_cheapestPinch 57 rfl) 0 rfl ?_
    refine gg_Main_land F (gm mw_212 rfl) (dAt dk_X5_cheapestPinch 58 rfl) ?_
    refine g_iload F (dAt dk_X5_cheapestPinch 59 rfl) 5 rfl ?_
    refine g_iload F (dAt dk_X5_cheapestPinch 60 rfl) 6 rfl ?_
    refine g_iload F (dAt dk_X5_cheapestPinch 61 rfl) 7 rfl ?_
    refine g_invV_ic F mi_X1_costOf (gm mw_556 rfl) (dAt dk_X5_cheapestPinch 62 rfl) (rcx_of F (rc_Land 0)) [.int v8, .int v9, .int v11] rfl rfl (by decide) (Nat.le_of_ble_eq_true rfl) h (fun _ _ hf => c_X1_costOf hJ hf) (fun r15 t16 h => ?_)
    refine g_istore (lv' := [(5, .int r15), (0, .ref (ad 0)), (1, .int x1), (2, .int x2), (3, .int x3), (4, .int x4), (8, .int v8), (9, .int v9), (11, .int v11)]) F (dAt dk_X5_cheapestPinch 63 rfl) (by decide) rfl ?_
    refine g_bipush (v := 100) F (dAt dk_X5_cheapestPinch 64 rfl) (by decide) ?_
    refine g_iload F (dAt dk_X5_cheapestPinch 65 rfl) 6 rfl ?_
    refine g_imul F (dAt dk_X5_cheapestPinch 66 rfl) ?_
    refine g_iload F (dAt dk_X5_cheapestPinch 67 rfl) 7 rfl ?_
    refine g_iadd F (dAt dk_X5_cheapestPinch 68 rfl) ?_
    refine g_istore (lv' := [(6, .int ((100 * v8) + v9)), (5, .int r15), (0, .ref (ad 0)), (1, .int x1), (2, .int x2), (3, .int x3), (4, .int x4), (8, .int v8), (9, .int v9), (11, .int v11)]) F (dAt dk_X5_cheapestPinch 69 rfl) (by decide) rfl ?_
    refine g_iload F (dAt dk_X5_cheapestPinch 70 rfl) 9 rfl ?_
    refine g_istore (lv' := [(7, .int v11), (6, .int ((100 * v8) + v9)), (5, .int r15), (0, .ref (ad 0)), (1, .int x1), (2, .int x2), (3, .int x3), (4, .int x4), (8, .int v8), (9, .int v9), (11, .int v11)]) F (dAt dk_X5_cheapestPinch 71 rfl) (by decide) rfl ?_
    refine g_iinc (lv' := [(9, .int (v9 + 1)), (7, .int v11), (6, .int ((100 * v8) + v9)), (5, .int r15), (0, .ref (ad 0)), (1, .int x1), (2, .int x2), (3, .int x3), (4, .int x4), (8, .int v8), (11, .int v11)]) F (dAt dk_X5_cheapestPinch 72 rfl) 9 rfl (w := 1) (by decide) (by decide) rfl ?_
    refine g_goto (tgt := 30) F (dAt dk_X5_cheapestPinch 73 rfl) (by decide) ?_
    refine g_sub (lv' := [(0, .ref (ad 0)), (1, .int x1), (2, .int x2), (3, .int x3), (4, .int x4), (5, .int r15), (6, .int ((100 * v8) + v9)), (7, .int v11), (8, .int v8), (9, .int (v9 + 1))]) [4, 5, 6, 7, 8, 3, 2, 1, 9, 0] rfl ?_
    exact ih30 (r15, ((100 * v8) + v9), v11, v8, (v9 + 1), t16) h
  have H30 : ∀ (self12 : Int32 × Int32 × Int32 × Int32 × Mem → Option (Int32 × Mem)), (∀ s, self12 s = some (r, t') → G X D ad g s.2.2.2.2 u [(0, .ref (ad 0)), (1, .int x1), (2, .int x2), (3, .int x3), (4, .int x4), (5, .int s.1), (6, .int s.2.1), (7, .int s.2.2.1), (8, .int s.2.2.2.1)] 12 []) → ∀ (k : Nat) (s : Int32 × Int32 × Int32 × Int32 × Int32 × Mem), iter (bd_X5_cheapestPinch_30 n x1 x2 x3 x4 self12) k s = some (r, t') → G X D ad g s.2.2.2.2.2 u [(0, .ref (ad 0)), (1, .int x1), (2, .int x2), (3, .int x3), (4, .int x4), (5, .int s.1), (6, .int s.2.1), (7, .int s.2.2.1), (8, .int s.2.2.2.1), (9, .int s.2.2.2.2.1)] 30 [] := by
    intro self12 ih12
    refine iter_walk (P := fun (s : Int32 × Int32 × Int32 × Int32 × Int32 × Mem) => G X D ad g s.2.2.2.2.2 u [(0, .ref (ad 0)), (1, .int x1), (2, .int x2), (3, .int x3), (4, .int x4), (5, .int s.1), (6, .int s.2.1), (7, .int s.2.2.1), (8, .int s.2.2.2.1), (9, .int s.2.2.2.2.1)] 30 []) (fun self30 ih30 s h => ?_)
    obtain ⟨v5, v6, v7, v8, v9, t0⟩ := s
    change G X D ad g t0 u [(0, .ref (ad 0)), (1, .int x1), (2, .int x2), (3, .int x3), (4, .int x4), (5, .int v5), (6, .int v6), (7, .int v7), (8, .int v8), (9, .int v9)] 30 []
    unfold bd_X5_cheapestPinch_30 at h; try dsimp only at h
    refine g_iload F (dAt dk_X5_cheapestPinch 17 rfl) 9 rfl ?_
    refine g_aload_n F (dAt dk_X5_cheapestPinch 18 rfl) 0 rfl ?_
    refine gg_Main_land F (gm mw_212 rfl) (dAt dk_X5_cheapestPinch 19 rfl) ?_
    refine gg_Land_count 0 F (gm mw_105 rfl) (dAt dk_X5_cheapestPinch 20 rfl) ?_
    refine g_icmp_ge (tgt := 147) F (dAt dk_X5_cheapestPinch 21 rfl) (by decide) h (fun c4 h => ?_) (fun c4 h => ?_)
    · refine g_iinc (lv' := [(8, .int (v8 + 1)), (0, .ref (ad 0)), (1, .int x1), (2, .int x2), (3, .int x3), (4, .int x4), (5, .int v5), (6, .int v6), (7, .int v7), (9, .int v9)]) F (dAt dk_X5_cheapestPinch 74 rfl) 8 rfl (w := 1) (by decide) (by decide) rfl ?_
      refine g_goto (tgt := 12) F (dAt dk_X5_cheapestPinch 75 rfl) (by decide) ?_
      refine g_sub (lv' := [(0, .ref (ad 0)), (1, .int x1), (2, .int x2), (3, .int x3), (4, .int x4), (5, .int v5), (6, .int v6), (7, .int v7), (8, .int (v8 + 1))]) [1, 2, 3, 4, 5, 6, 7, 8, 0] rfl ?_
      exact ih12 (v5, v6, v7, (v8 + 1), t0) h
    · refine g_aload_n F (dAt dk_X5_cheapestPinch 22 rfl) 0 rfl ?_
      refine gg_Main_land F (gm mw_212 rfl) (dAt dk_X5_cheapestPinch 23 rfl) ?_
      refine g_iload F (dAt dk_X5_cheapestPinch 24 rfl) 8 rfl ?_
      refine g_iload F (dAt dk_X5_cheapestPinch 25 rfl) 9 rfl ?_
      refine g_invV_ic F mi_X1_between (gm mw_384 rfl) (dAt dk_X5_cheapestPinch 26 rfl) (rcx_of F (rc_Land 0)) [.int v8, .int v9] rfl rfl (by decide) (Nat.le_of_ble_eq_true rfl) h (fun _ _ hf => c_X1_between hJ hf) (fun r5 t6 h => ?_)
      refine g_istore (lv' := [(10, .int r5), (0, .ref (ad 0)), (1, .int x1), (2, .int x2), (3, .int x3), (4, .int x4), (5, .int v5), (6, .int v6), (7, .int v7), (8, .int v8), (9, .int v9)]) F (dAt dk_X5_cheapestPinch 27 rfl) (by decide) rfl ?_
      refine g_iload F (dAt dk_X5_cheapestPinch 28 rfl) 0 rfl ?_
      refine g_aload_n F (dAt dk_X5_cheapestPinch 29 rfl) 1 rfl ?_
      refine gg_Main_now F (gm mw_215 rfl) (dAt dk_X5_cheapestPinch 30 rfl) ?_
      refine g_iload_n F (dAt dk_X5_cheapestPinch 31 rfl) 2 rfl ?_
      refine g_iload_n F (dAt dk_X5_cheapestPinch 32 rfl) 3 rfl ?_
      refine g_iload F (dAt dk_X5_cheapestPinch 33 rfl) 9 rfl ?_
      refine g_iload F (dAt dk_X5_cheapestPinch 34 rfl) 10 rfl ?_
      refine g_invV_ic F mi_X2_lengthBeside (gm mw_673 rfl) (dAt dk_X5_cheapestPinch 35 rfl) (rcx_of F (rc_Len 0)) [.int x1, .int x2, .int v8, .int v9] rfl rfl (by decide) (Nat.le_of_ble_eq_true rfl) h (fun _ _ hf => c_X2_lengthBeside hJ hf) (fun r7 t8 h => ?_)
      refine g_iadd F (dAt dk_X5_cheapestPinch 36 rfl) ?_
      refine g_iload_n F (dAt dk_X5_cheapestPinch 37 rfl) 4 rfl ?_
      refine g_isub F (dAt dk_X5_cheapestPinch 38 rfl) ?_
      refine g_istore (lv' := [(11, .int ((r5 + r7) - x3)), (10, .int r5), (0, .ref (ad 0)), (1, .int x1), (2, .int x2), (3, .int x3), (4, .int x4), (5, .int v5), (6, .int v6), (7, .int v7), (8, .int v8), (9, .int v9)]) F (dAt dk_X5_cheapestPinch 39 rfl) (by decide) rfl ?_
      refine g_iload F (dAt dk_X5_cheapestPinch 40 rfl) 0 rfl ?_
      refine g_iconst (v := 1) F (dAt dk_X5_cheapestPinch 41 rfl) (by decide) ?_
      refine g_icmp_lt (tgt := 141) F (dAt dk_X5_cheapestPinch 42 rfl) (by decide) h (fun c9 h => ?_) (fun c9 h => ?_)
      · refine g_iinc (lv' := [(9, .int (v9 + 1)), (11, .int ((r5 + r7) - x3)), (10, .int r5), (0, .ref (ad 0)), (1, .int x1), (2, .int x2), (3, .int x3), (4, .int x4), (5, .int v5), (6, .int v6), (7, .int v7), (8, .int v8)]) F (dAt dk_X5_cheapestPinch 72 rfl) 11 rfl (w := 1) (by decide) (by decide) rfl ?_
        refine g_goto (tgt := 30) F (dAt dk_X5_cheapestPinch 73 rfl) (by decide) ?_
        refine g_sub (lv' := [(0, .ref (ad 0)), (1, .int x1), (2, .int x2), (3, .int x3), (4, .int x4), (5, .int v5), (6, .int v6), (7, .int v7), (8, .int v8), (9, .int (v9 + 1))]) [3, 4, 5, 6, 7, 8, 9, 10, 11, 0] rfl ?_
        exact ih30 (v5, v6, v7, v8, (v9 + 1), t8) h
      · refine g_iload F (dAt dk_X5_cheapestPinch 43 rfl) 0 rfl ?_
        refine g_iload F (dAt dk_X5_cheapestPinch 44 rfl) 1 rfl ?_
        refine g_icmp_ge (tgt := 141) F (dAt dk_X5_cheapestPinch 45 rfl) (by decide) h (fun c10 h => ?_) (fun c10 h => ?_)
        · refine g_iinc (lv' := [(9, .int (v9 + 1)), (11, .int ((r5 + r7) - x3)), (10, .int r5), (0, .ref (ad 0)), (1, .int x1), (2, .int x2), (3, .int x3), (4, .int x4), (5, .int v5), (6, .int v6), (7, .int v7), (8, .int v8)]) F (dAt dk_X5_cheapestPinch 72 rfl) 11 rfl (w := 1) (by decide) (by decide) rfl ?_
          refine g_goto (tgt := 30) F (dAt dk_X5_cheapestPinch 73 rfl) (by decide) ?_
          refine g_sub (lv' := [(0, .ref (ad 0)), (1, .int x1), (2, .int x2), (3, .int x3), (4, .int x4), (5, .int v5), (6, .int v6), (7, .int v7), (8, .int v8), (9, .int (v9 + 1))]) [3, 4, 5, 6, 7, 8, 9, 10, 11, 0] rfl ?_
          exact ih30 (v5, v6, v7, v8, (v9 + 1), t8) h
        · refine g_iload F (dAt dk_X5_cheapestPinch 46 rfl) 7 rfl ?_
          refine g_iconst (v := (-1)) F (dAt dk_X5_cheapestPinch 47 rfl) (by decide) ?_
          refine g_icmp_eq (tgt := 112) F (dAt dk_X5_cheapestPinch 48 rfl) (by decide) h (fun c11 h => ?_) (fun c11 h => ?_)
          · refine g_sub (lv' := [(0, .ref (ad 0)), (1, .int x1), (2, .int x2), (3, .int x3), (4, .int x4), (8, .int v8), (9, .int v9), (11, .int ((r5 + r7) - x3))]) [2, 3, 4, 5, 6, 10, 11, 0] rfl ?_
            exact J112 self12 ih12 self30 ih30 v8 v9 ((r5 + r7) - x3) t8 h
          · refine g_aload_n F (dAt dk_X5_cheapestPinch 49 rfl) 2 rfl ?_
            refine gg_Main_land F (gm mw_212 rfl) (dAt dk_X5_cheapestPinch 50 rfl) ?_
            refine g_iload F (dAt dk_X5_cheapestPinch 51 rfl) 10 rfl ?_
            refine g_iload F (dAt dk_X5_cheapestPinch 52 rfl) 11 rfl ?_
            refine g_iload F (dAt dk_X5_cheapestPinch 53 rfl) 0 rfl ?_
            refine g_invV_ic F mi_X1_costOf (gm mw_556 rfl) (dAt dk_X5_cheapestPinch 54 rfl) (rcx_of F (rc_Land 0)) [.int v8, .int v9, .int ((r5 + r7) - x3)] rfl rfl (by decide) (Nat.le_of_ble_eq_true rfl) h (fun _ _ hf => c_X1_costOf hJ hf) (fun r12 t13 h => ?_)
            refine g_iload F (dAt dk_X5_cheapestPinch 55 rfl) 7 rfl ?_
            refine g_icmp_ge (tgt := 141) F (dAt dk_X5_cheapestPinch 56 rfl) (by decide) h (fun c14 h => ?_) (fun c14 h => ?_)
            · refine g_iinc (lv' := [(9, .int (v9 + 1)), (11, .int ((r5 + r7) - x3)), (10, .int r5), (0, .ref (ad 0)), (1, .int x1), (2, .int x2), (3, .int x3), (4, .int x4), (5, .int v5), (6, .int v6), (7, .int v7), (8, .int v8)]) F (dAt dk_X5_cheapestPinch 72 rfl) 11 rfl (w := 1) (by decide) (by decide) rfl ?_
              refine g_goto (tgt := 30) F (dAt dk_X5_cheapestPinch 73 rfl) (by decide) ?_
              refine g_sub (lv' := [(0, .ref (ad 0)), (1, .int x1), (2, .int x2), (3, .int x3), (4, .int x4), (5, .int v5), (6, .int v6), (7, .int v7), (8, .int v8), (9, .int (v9 + 1))]) [3, 4, 5, 6, 7, 8, 9, 10, 11, 0] rfl ?_
              exact ih30 (v5, v6, v7, v8, (v9 + 1), t13) h
            · refine g_sub (lv' := [(0, .ref (ad 0)), (1, .int x1), (2, .int x2), (3, .int x3), (4, .int x4), (8, .int v8), (9, .int v9), (11, .int ((r5 + r7) - x3))]) [2, 3, 4, 5, 6, 10, 11, 0] rfl ?_
              exact J112 self12 ih12 self30 ih30 v8 v9 ((r5 + r7) - x3) t13 h
  have H12 : ∀ (k : Nat) (s : Int32 × Int32 × Int32 × Int32 × Mem), iter (bd_X5_cheapestPinch_12 n x1 x2 x3 x4) k s = some (r, t') → G X D ad g s.2.2.2.2 u [(0, .ref (ad 0)), (1, .int x1), (2, .int x2), (3, .int x3), (4, .int x4), (5, .int s.1), (6, .int s.2.1), (7, .int s.2.2.1), (8, .int s.2.2.2.1)] 12 [] := by
    refine iter_walk (P := fun (s : Int32 × Int32 × Int32 × Int32 × Mem) => G X D ad g s.2.2.2.2 u [(0, .ref (ad 0)), (1, .int x1), (2, .int x2), (3, .int x3), (4, .int x4), (5, .int s.1), (6, .int s.2.1), (7, .int s.2.2.1), (8, .int s.2.2.2.1)] 12 []) (fun self12 ih12 s h => ?_)
    obtain ⟨v5, v6, v7, v8, t0⟩ := s
    change G X D ad g t0 u [(0, .ref (ad 0)), (1, .int x1), (2, .int x2), (3, .int x3), (4, .int x4), (5, .int v5), (6, .int v6), (7, .int v7), (8, .int v8)] 12 []
    unfold bd_X5_cheapestPinch_12 at h; try dsimp only at h
    refine g_iload F (dAt dk_X5_cheapestPinch 8 rfl) 8 rfl ?_
    refine g_aload_n F (dAt dk_X5_cheapestPinch 9 rfl) 0 rfl ?_
    refine gg_Main_land F (gm mw_212 rfl) (dAt dk_X5_cheapestPinch 10 rfl) ?_
    refine gg_Land_count 0 F (gm mw_105 rfl) (dAt dk_X5_cheapestPinch 11 rfl) ?_
    refine g_icmp_ge (tgt := 153) F (dAt dk_X5_cheapestPinch 12 rfl) (by decide) h (fun c1 h => ?_) (fun c1 h => ?_)
    · refine g_iload F (dAt dk_X5_cheapestPinch 76 rfl) 4 rfl ?_
      refine g_case 0 h (fun c2 h => ?_) (fun c2 h => ?_)
      · refine g_look (tgt := 180) (off := 25) F (dAt dk_X5_cheapestPinch 77 rfl) (by decide) (by rw [c2]; rfl) (by decide) ?_
        refine g_iload F (dAt dk_X5_cheapestPinch 78 rfl) 5 rfl ?_
        cases h
        exact E (dAt dk_X5_cheapestPinch 79 rfl) rfl
      · refine g_case 1 h (fun c3 h => ?_) (fun c3 h => ?_)
        · refine g_look (tgt := 183) (off := 28) F (dAt dk_X5_cheapestPinch 77 rfl) (by decide) (by rw [c3]; rfl) (by decide) ?_
          refine g_iload F (dAt dk_X5_cheapestPinch 80 rfl) 6 rfl ?_
          cases h
          exact E (dAt dk_X5_cheapestPinch 81 rfl) rfl
        · refine g_look (tgt := 186) (off := 31) F (dAt dk_X5_cheapestPinch 77 rfl) (by decide) (by rw [lv_osw c2 (by decide), lv_osw c3 (by decide)]; rfl) (by decide) ?_
          refine g_iload F (dAt dk_X5_cheapestPinch 82 rfl) 7 rfl ?_
          cases h
          exact E (dAt dk_X5_cheapestPinch 83 rfl) rfl
    · refine g_iload F (dAt dk_X5_cheapestPinch 13 rfl) 8 rfl ?_
      refine g_iconst (v := 1) F (dAt dk_X5_cheapestPinch 14 rfl) (by decide) ?_
      refine g_iadd F (dAt dk_X5_cheapestPinch 15 rfl) ?_
      refine g_istore (lv' := [(9, .int (v8 + 1)), (0, .ref (ad 0)), (1, .int x1), (2, .int x2), (3, .int x3), (4, .int x4), (5, .int v5), (6, .int v6), (7, .int v7), (8, .int v8)]) F (dAt dk_X5_cheapestPinch 16 rfl) (by decide) rfl ?_
      refine g_sub (lv' := [(0, .ref (ad 0)), (1, .int x1), (2, .int x2), (3, .int x3), (4, .int x4), (5, .int v5), (6, .int v6), (7, .int v7), (8, .int v8), (9, .int (v8 + 1))]) [1, 2, 3, 4, 5, 6, 7, 8, 9, 0] rfl ?_
      exact H30 self12 ih12 n (v5, v6, v7, v8, (v8 + 1), t0) h
  refine g_lv (lv' := [(0, .ref (ad 0)), (1, .int x1), (2, .int x2), (3, .int x3), (4, .int x4)]) rfl ?_
  unfold f_X5_cheapestPinch at h
  refine g_iconst (v := (-1)) F (dAt dk_X5_cheapestPinch 0 rfl) (by decide) ?_
  refine g_istore (lv' := [(5, .int (-1)), (0, .ref (ad 0)), (1, .int x1), (2, .int x2), (3, .int x3), (4, .int x4)]) F (dAt dk_X5_cheapestPinch 1 rfl) (by decide) rfl ?_
  refine g_iconst (v := (-1)) F (dAt dk_X5_cheapestPinch 2 rfl) (by decide) ?_
  refine g_istore (lv' := [(6, .int (-1)), (5, .int (-1)), (0, .ref (ad 0)), (1, .int x1), (2, .int x2), (3, .int x3), (4, .int x4)]) F (dAt dk_X5_cheapestPinch 3 rfl) (by decide) rfl ?_
  refine g_iconst (v := (-1)) F (dAt dk_X5_cheapestPinch 4 rfl) (by decide) ?_
  refine g_istore (lv' := [(7, .int (-1)), (6, .int (-1)), (5, .int (-1)), (0, .ref (ad 0)), (1, .int x1), (2, .int x2), (3, .int x3), (4, .int x4)]) F (dAt dk_X5_cheapestPinch 5 rfl) (by decide) rfl ?_
  refine g_iconst (v := 0) F (dAt dk_X5_cheapestPinch 6 rfl) (by decide) ?_
  refine g_istore (lv' := [(8, .int 0), (7, .int (-1)), (6, .int (-1)), (5, .int (-1)), (0, .ref (ad 0)), (1, .int x1), (2, .int x2), (3, .int x3), (4, .int x4)]) F (dAt dk_X5_cheapestPinch 7 rfl) (by decide) rfl ?_
  refine g_sub (lv' := [(0, .ref (ad 0)), (1, .int x1), (2, .int x2), (3, .int x3), (4, .int x4), (5, .int (-1)), (6, .int (-1)), (7, .int (-1)), (8, .int 0)]) [4, 5, 6, 7, 8, 3, 2, 1, 0] rfl ?_
  exact H12  n ((-1), (-1), (-1), 0, t) h
theorem mi_X5_cheapest : MI yX5_cheapest cX5_cheapest 5 (some .int) "MillOfDistances" 4 := ⟨(gm mw_667 rfl), (gm mw_665 rfl), (gm mw_666 rfl), (gm mw_69 rfl), by decide +kernel, by decide⟩
theorem c_X5_cheapest {l : Launch} {D : va_G} {ad : Nat → Nat} {g : Gv} {t u : Mem} {n : Nat} {x1 : Int32} {x2 : Int32} {x3 : Int32} {x4 : Int32} {t' : Mem} {r : Int32} (hJ : Jad ad) (h : f_X5_cheapest n x1 x2 x3 x4 t = some (r, t')) : ConI l yX5_cheapest cX5_cheapest 5 (some .int) 4 [.ref (ad 0), .int x1, .int x2, .int x3, .int x4] D ad g t u t' u r := by
  refine con_i hJ (by decide) (Nat.le_of_ble_eq_true rfl) rfl (fun X F E => ?_)
  have J29 : ∀ (t0 : Mem), jn_X5_cheapest_29 n x1 x2 x3 x4 t0 = some (r, t') → G X D ad g t0 u [(0, .ref (ad 0))] 29 [] := by
    intro t0 h
    unfold jn_X5_cheapest_29 at h
    refine g_aload_n F (dAt dk_X5_cheapest 15 rfl) 0 rfl ?_
    refine g_bipush (v := (-5)) F (dAt dk_X5_cheapest 16 rfl) (by decide) ?_
    refine g_invV_ic F mi_X5_refuseBelowTen (gm mw_394 rfl) (dAt dk_X5_cheapest 17 rfl) (rcx_of F rc_Main) [.int (-5)] rfl rfl (by decide) (Nat.le_of_ble_eq_true rfl) h (fun _ _ hf => c_X5_refuseBelowTen hJ hf) (fun r18 t19 h => ?_)
    cases h
    exact E (dAt dk_X5_cheapest 18 rfl) rfl
  have J53 : ∀ (t0 : Mem), jn_X5_cheapest_53 n x1 x2 x3 x4 t0 = some (r, t') → G X D ad g t0 u [(0, .ref (ad 0))] 53 [] := by
    intro t0 h
    unfold jn_X5_cheapest_53 at h
    refine g_aload_n F (dAt dk_X5_cheapest 28 rfl) 0 rfl ?_
    refine g_bipush (v := (-6)) F (dAt dk_X5_cheapest 29 rfl) (by decide) ?_
    refine g_invV_ic F mi_X5_refuseBelowTen (gm mw_394 rfl) (dAt dk_X5_cheapest 30 rfl) (rcx_of F rc_Main) [.int (-6)] rfl rfl (by decide) (Nat.le_of_ble_eq_true rfl) h (fun _ _ hf => c_X5_refuseBelowTen hJ hf) (fun r20 t21 h => ?_)
    cases h
    exact E (dAt dk_X5_cheapest 31 rfl) rfl
  refine g_lv (lv' := [(0, .ref (ad 0)), (1, .int x1), (2, .int x2), (3, .int x3), (4, .int x4)]) rfl ?_
  unfold f_X5_cheapest at h
  refine g_aload_n F (dAt dk_X5_cheapest 0 rfl) 0 rfl ?_
  refine gg_Main_land F (gm mw_212 rfl) (dAt dk_X5_cheapest 1 rfl) ?_
  refine g_iload_n F (dAt dk_X5_cheapest 2 rfl) 1 rfl ?_
  refine g_iload_n F (dAt dk_X5_cheapest 3 rfl) 2 rfl ?_
  refine g_invV_ic F mi_X1_hasBoth (gm mw_380 rfl) (dAt dk_X5_cheapest 4 rfl) (rcx_of F (rc_Land 0)) [.int x1, .int x2] rfl rfl (by decide) (Nat.le_of_ble_eq_true rfl) h (fun _ _ hf => c_X1_hasBoth hJ hf) (fun r1 t2 h => ?_)
  refine g_if_ne (tgt := 18) F (dAt dk_X5_cheapest 5 rfl) (by decide) h (fun c3 h => ?_) (fun c3 h => ?_)
  · refine g_iload F (dAt dk_X5_cheapest 10 rfl) 4 rfl ?_
    refine g_if_lt (tgt := 29) F (dAt dk_X5_cheapest 11 rfl) (by decide) h (fun c4 h => ?_) (fun c4 h => ?_)
    · refine g_sub (lv' := [(0, .ref (ad 0))]) [0] rfl ?_
      exact J29  t2 h
    · refine g_iload F (dAt dk_X5_cheapest 12 rfl) 4 rfl ?_
      refine g_iconst (v := 2) F (dAt dk_X5_cheapest 13 rfl) (by decide) ?_
      refine g_icmp_le (tgt := 36) F (dAt dk_X5_cheapest 14 rfl) (by decide) h (fun c5 h => ?_) (fun c5 h => ?_)
      · refine g_iload_n F (dAt dk_X5_cheapest 19 rfl) 1 rfl ?_
        refine g_iload_n F (dAt dk_X5_cheapest 20 rfl) 2 rfl ?_
        refine g_icmp_eq (tgt := 53) F (dAt dk_X5_cheapest 21 rfl) (by decide) h (fun c6 h => ?_) (fun c6 h => ?_)
        · refine g_sub (lv' := [(0, .ref (ad 0))]) [0] rfl ?_
          exact J53  t2 h
        · refine g_iload_n F (dAt dk_X5_cheapest 22 rfl) 3 rfl ?_
          refine g_iconst (v := 1) F (dAt dk_X5_cheapest 23 rfl) (by decide) ?_
          refine g_icmp_lt (tgt := 53) F (dAt dk_X5_cheapest 24 rfl) (by decide) h (fun c7 h => ?_) (fun c7 h => ?_)
          · refine g_sub (lv' := [(0, .ref (ad 0))]) [0] rfl ?_
            exact J53  t2 h
          · refine g_iload_n F (dAt dk_X5_cheapest 25 rfl) 3 rfl ?_
            refine g_sipush (v := 9999) F (dAt dk_X5_cheapest 26 rfl) (by decide) ?_
            refine g_icmp_le (tgt := 60) F (dAt dk_X5_cheapest 27 rfl) (by decide) h (fun c8 h => ?_) (fun c8 h => ?_)
            · refine g_aload_n F (dAt dk_X5_cheapest 32 rfl) 0 rfl ?_
              refine gg_Main_now F (gm mw_215 rfl) (dAt dk_X5_cheapest 33 rfl) ?_
              refine g_aload_n F (dAt dk_X5_cheapest 34 rfl) 0 rfl ?_
              refine gg_Main_land F (gm mw_212 rfl) (dAt dk_X5_cheapest 35 rfl) ?_
              refine g_invV_vc F mi_X2_measure (gm mw_570 rfl) (dAt dk_X5_cheapest 36 rfl) (rcx_of F (rc_Len 0)) [.ref (ad (oLd 0))] rfl rfl (by decide) (Nat.le_of_ble_eq_true rfl) h (fun _ _ hf => c_X2_measure hJ hf) (fun _ t9 h => ?_)
              refine g_aload_n F (dAt dk_X5_cheapest 37 rfl) 0 rfl ?_
              refine gg_Main_now F (gm mw_215 rfl) (dAt dk_X5_cheapest 38 rfl) ?_
              refine g_iload_n F (dAt dk_X5_cheapest 39 rfl) 1 rfl ?_
              refine g_iload_n F (dAt dk_X5_cheapest 40 rfl) 2 rfl ?_
              refine g_invV_ic F mi_X2_length (gm mw_668 rfl) (dAt dk_X5_cheapest 41 rfl) (rcx_of F (rc_Len 0)) [.int x1, .int x2] rfl rfl (by decide) (Nat.le_of_ble_eq_true rfl) h (fun _ _ hf => c_X2_length hJ hf) (fun r10 t11 h => ?_)
              refine g_iload_n F (dAt dk_X5_cheapest 42 rfl) 3 rfl ?_
              refine g_icmp_gt (tgt := 95) F (dAt dk_X5_cheapest 43 rfl) (by decide) h (fun c12 h => ?_) (fun c12 h => ?_)
              · refine g_aload_n F (dAt dk_X5_cheapest 50 rfl) 0 rfl ?_
                refine g_iload_n F (dAt dk_X5_cheapest 51 rfl) 1 rfl ?_
                refine g_iload_n F (dAt dk_X5_cheapest 52 rfl) 2 rfl ?_
                refine g_iload_n F (dAt dk_X5_cheapest 53 rfl) 3 rfl ?_
                refine g_iload F (dAt dk_X5_cheapest 54 rfl) 4 rfl ?_
                refine g_invV_ic F mi_X5_cheapestPinch (gm mw_669 rfl) (dAt dk_X5_cheapest 55 rfl) (rcx_of F rc_Main) [.int x1, .int x2, .int x3, .int x4] rfl rfl (by decide) (Nat.le_of_ble_eq_true rfl) h (fun _ _ hf => c_X5_cheapestPinch hJ hf) (fun r13 t14 h => ?_)
                cases h
                exact E (dAt dk_X5_cheapest 56 rfl) rfl
              · refine g_iload F (dAt dk_X5_cheapest 44 rfl) 4 rfl ?_
                refine g_if_ne (tgt := 93) F (dAt dk_X5_cheapest 45 rfl) (by decide) h (fun c15 h => ?_) (fun c15 h => ?_)
                · refine g_iconst (v := (-1)) F (dAt dk_X5_cheapest 48 rfl) (by decide) ?_
                  cases h
                  exact E (dAt dk_X5_cheapest 49 rfl) rfl
                · refine g_iconst (v := 0) F (dAt dk_X5_cheapest 46 rfl) (by decide) ?_
                  refine g_goto (tgt := 94) F (dAt dk_X5_cheapest 47 rfl) (by decide) ?_
                  cases h
                  exact E (dAt dk_X5_cheapest 49 rfl) rfl
            · refine g_sub (lv' := [(0, .ref (ad 0))]) [0] rfl ?_
              exact J53  t2 h
      · refine g_sub (lv' := [(0, .ref (ad 0))]) [0] rfl ?_
        exact J29  t2 h
  · refine g_aload_n F (dAt dk_X5_cheapest 6 rfl) 0 rfl ?_
    refine g_iconst (v := (-1)) F (dAt dk_X5_cheapest 7 rfl) (by decide) ?_
    refine g_invV_ic F mi_X5_refuseBelowTen (gm mw_394 rfl) (dAt dk_X5_cheapest 8 rfl) (rcx_of F rc_Main) [.int (-1)] rfl rfl (by decide) (Nat.le_of_ble_eq_true rfl) h (fun _ _ hf => c_X5_refuseBelowTen hJ hf) (fun r16 t17 h => ?_)
    cases h
    exact E (dAt dk_X5_cheapest 9 rfl) rfl
theorem mi_X5_meet : MI yX5_meet cX5_meet 7 (some .int) "MillOfDistances" 2 := ⟨(gm mw_680 rfl), (gm mw_678 rfl), (gm mw_679 rfl), (gm mw_69 rfl), by decide +kernel, by decide⟩
theorem c_X5_meet {l : Launch} {D : va_G} {ad : Nat → Nat} {g : Gv} {t u : Mem} {n : Nat} {x1 : Int32} {x2 : Int32} {t' : Mem} {r : Int32} (hJ : Jad ad) (h : f_X5_meet n x1 x2 t = some (r, t')) : ConI l yX5_meet cX5_meet 7 (some .int) 4 [.ref (ad 0), .int x1, .int x2] D ad g t u t' u r := by
  refine con_i hJ (by decide) (Nat.le_of_ble_eq_true rfl) rfl (fun X F E => ?_)
  have H39 : ∀ (k : Nat) (s : Int32 × Int32 × Int32 × Mem), iter (bd_X5_meet_39 n x1 x2) k s = some (r, t') → G X D ad g s.2.2.2 u [(0, .ref (ad 0)), (1, .int x1), (2, .int x2), (3, .int s.1), (4, .int s.2.1), (5, .int s.2.2.1)] 39 [] := by
    refine iter_walk (P := fun (s : Int32 × Int32 × Int32 × Mem) => G X D ad g s.2.2.2 u [(0, .ref (ad 0)), (1, .int x1), (2, .int x2), (3, .int s.1), (4, .int s.2.1), (5, .int s.2.2.1)] 39 []) (fun self39 ih39 s h => ?_)
    obtain ⟨v3, v4, v5, t0⟩ := s
    change G X D ad g t0 u [(0, .ref (ad 0)), (1, .int x1), (2, .int x2), (3, .int v3), (4, .int v4), (5, .int v5)] 39 []
    unfold bd_X5_meet_39 at h; try dsimp only at h
    refine g_iload F (dAt dk_X5_meet 21 rfl) 5 rfl ?_
    refine g_aload_n F (dAt dk_X5_meet 22 rfl) 0 rfl ?_
    refine gg_Main_land F (gm mw_212 rfl) (dAt dk_X5_meet 23 rfl) ?_
    refine gg_Land_count 0 F (gm mw_105 rfl) (dAt dk_X5_meet 24 rfl) ?_
    refine g_icmp_ge (tgt := 96) F (dAt dk_X5_meet 25 rfl) (by decide) h (fun c7 h => ?_) (fun c7 h => ?_)
    · refine g_iload_n F (dAt dk_X5_meet 47 rfl) 3 rfl ?_
      cases h
      exact E (dAt dk_X5_meet 48 rfl) rfl
    · refine g_aload_n F (dAt dk_X5_meet 26 rfl) 0 rfl ?_
      refine gg_Main_now F (gm mw_215 rfl) (dAt dk_X5_meet 27 rfl) ?_
      refine g_iload_n F (dAt dk_X5_meet 28 rfl) 1 rfl ?_
      refine g_iload F (dAt dk_X5_meet 29 rfl) 5 rfl ?_
      refine g_invV_ic F mi_X2_length (gm mw_668 rfl) (dAt dk_X5_meet 30 rfl) (rcx_of F (rc_Len 0)) [.int x1, .int v5] rfl rfl (by decide) (Nat.le_of_ble_eq_true rfl) h (fun _ _ hf => c_X2_length hJ hf) (fun r8 t9 h => ?_)
      refine g_aload_n F (dAt dk_X5_meet 31 rfl) 0 rfl ?_
      refine gg_Main_now F (gm mw_215 rfl) (dAt dk_X5_meet 32 rfl) ?_
      refine g_iload_n F (dAt dk_X5_meet 33 rfl) 2 rfl ?_
      refine g_iload F (dAt dk_X5_meet 34 rfl) 5 rfl ?_
      refine g_invV_ic F mi_X2_length (gm mw_668 rfl) (dAt dk_X5_meet 35 rfl) (rcx_of F (rc_Len 0)) [.int x2, .int v5] rfl rfl (by decide) (Nat.le_of_ble_eq_true rfl) h (fun _ _ hf => c_X2_length hJ hf) (fun r10 t11 h => ?_)
      refine g_mmax F (gm mw_681 rfl) (dAt dk_X5_meet 36 rfl) (by decide) (Nat.le_of_ble_eq_true rfl) h (fun r12 h => ?_)
      refine g_istore (lv' := [(6, .int r12), (0, .ref (ad 0)), (1, .int x1), (2, .int x2), (3, .int v3), (4, .int v4), (5, .int v5)]) F (dAt dk_X5_meet 37 rfl) (by decide) rfl ?_
      refine g_iload F (dAt dk_X5_meet 38 rfl) 0 rfl ?_
      refine g_iload F (dAt dk_X5_meet 39 rfl) 5 rfl ?_
      refine g_icmp_ge (tgt := 90) F (dAt dk_X5_meet 40 rfl) (by decide) h (fun c13 h => ?_) (fun c13 h => ?_)
      · refine g_iinc (lv' := [(5, .int (v5 + 1)), (6, .int r12), (0, .ref (ad 0)), (1, .int x1), (2, .int x2), (3, .int v3), (4, .int v4)]) F (dAt dk_X5_meet 45 rfl) 6 rfl (w := 1) (by decide) (by decide) rfl ?_
        refine g_goto (tgt := 39) F (dAt dk_X5_meet 46 rfl) (by decide) ?_
        refine g_sub (lv' := [(0, .ref (ad 0)), (1, .int x1), (2, .int x2), (3, .int v3), (4, .int v4), (5, .int (v5 + 1))]) [2, 3, 4, 5, 6, 0] rfl ?_
        exact ih39 (v3, v4, (v5 + 1), t11) h
      · refine g_iload F (dAt dk_X5_meet 41 rfl) 6 rfl ?_
        refine g_istore_n (lv' := [(3, .int v5), (6, .int r12), (0, .ref (ad 0)), (1, .int x1), (2, .int x2), (4, .int v4), (5, .int v5)]) F (dAt dk_X5_meet 42 rfl) (by decide) rfl ?_
        refine g_iload F (dAt dk_X5_meet 43 rfl) 1 rfl ?_
        refine g_istore (lv' := [(4, .int r12), (3, .int v5), (6, .int r12), (0, .ref (ad 0)), (1, .int x1), (2, .int x2), (5, .int v5)]) F (dAt dk_X5_meet 44 rfl) (by decide) rfl ?_
        refine g_iinc (lv' := [(5, .int (v5 + 1)), (4, .int r12), (3, .int v5), (6, .int r12), (0, .ref (ad 0)), (1, .int x1), (2, .int x2)]) F (dAt dk_X5_meet 45 rfl) 6 rfl (w := 1) (by decide) (by decide) rfl ?_
        refine g_goto (tgt := 39) F (dAt dk_X5_meet 46 rfl) (by decide) ?_
        refine g_sub (lv' := [(0, .ref (ad 0)), (1, .int x1), (2, .int x2), (3, .int v5), (4, .int r12), (5, .int (v5 + 1))]) [4, 5, 6, 2, 1, 0] rfl ?_
        exact ih39 (v5, r12, (v5 + 1), t11) h
  refine g_lv (lv' := [(0, .ref (ad 0)), (1, .int x1), (2, .int x2)]) rfl ?_
  unfold f_X5_meet at h
  refine g_aload_n F (dAt dk_X5_meet 0 rfl) 0 rfl ?_
  refine gg_Main_land F (gm mw_212 rfl) (dAt dk_X5_meet 1 rfl) ?_
  refine g_iload_n F (dAt dk_X5_meet 2 rfl) 1 rfl ?_
  refine g_iload_n F (dAt dk_X5_meet 3 rfl) 2 rfl ?_
  refine g_invV_ic F mi_X1_hasBoth (gm mw_380 rfl) (dAt dk_X5_meet 4 rfl) (rcx_of F (rc_Land 0)) [.int x1, .int x2] rfl rfl (by decide) (Nat.le_of_ble_eq_true rfl) h (fun _ _ hf => c_X1_hasBoth hJ hf) (fun r1 t2 h => ?_)
  refine g_if_ne (tgt := 18) F (dAt dk_X5_meet 5 rfl) (by decide) h (fun c3 h => ?_) (fun c3 h => ?_)
  · refine g_aload_n F (dAt dk_X5_meet 10 rfl) 0 rfl ?_
    refine gg_Main_now F (gm mw_215 rfl) (dAt dk_X5_meet 11 rfl) ?_
    refine g_aload_n F (dAt dk_X5_meet 12 rfl) 0 rfl ?_
    refine gg_Main_land F (gm mw_212 rfl) (dAt dk_X5_meet 13 rfl) ?_
    refine g_invV_vc F mi_X2_measure (gm mw_570 rfl) (dAt dk_X5_meet 14 rfl) (rcx_of F (rc_Len 0)) [.ref (ad (oLd 0))] rfl rfl (by decide) (Nat.le_of_ble_eq_true rfl) h (fun _ _ hf => c_X2_measure hJ hf) (fun _ t4 h => ?_)
    refine g_iconst (v := (-1)) F (dAt dk_X5_meet 15 rfl) (by decide) ?_
    refine g_istore_n (lv' := [(3, .int (-1)), (0, .ref (ad 0)), (1, .int x1), (2, .int x2)]) F (dAt dk_X5_meet 16 rfl) (by decide) rfl ?_
    refine g_sipush (v := 10000) F (dAt dk_X5_meet 17 rfl) (by decide) ?_
    refine g_istore (lv' := [(4, .int 10000), (3, .int (-1)), (0, .ref (ad 0)), (1, .int x1), (2, .int x2)]) F (dAt dk_X5_meet 18 rfl) (by decide) rfl ?_
    refine g_iconst (v := 0) F (dAt dk_X5_meet 19 rfl) (by decide) ?_
    refine g_istore (lv' := [(5, .int 0), (4, .int 10000), (3, .int (-1)), (0, .ref (ad 0)), (1, .int x1), (2, .int x2)]) F (dAt dk_X5_meet 20 rfl) (by decide) rfl ?_
    refine g_sub (lv' := [(0, .ref (ad 0)), (1, .int x1), (2, .int x2), (3, .int (-1)), (4, .int 10000), (5, .int 0)]) [3, 4, 5, 2, 1, 0] rfl ?_
    exact H39  n ((-1), 10000, 0, t4) h
  · refine g_aload_n F (dAt dk_X5_meet 6 rfl) 0 rfl ?_
    refine g_iconst (v := (-1)) F (dAt dk_X5_meet 7 rfl) (by decide) ?_
    refine g_invV_ic F mi_X5_refuseBelowTen (gm mw_394 rfl) (dAt dk_X5_meet 8 rfl) (rcx_of F rc_Main) [.int (-1)] rfl rfl (by decide) (Nat.le_of_ble_eq_true rfl) h (fun _ _ hf => c_X5_refuseBelowTen hJ hf) (fun r5 t6 h => ?_)
    cases h
    exact E (dAt dk_X5_meet 9 rfl) rfl
theorem ms_X5_toldProblem : MS yX5_toldProblem cX5_toldProblem 4 (some .int) 4 := ⟨(gm mw_688 rfl), (gm mw_687 rfl), (gm mw_69 rfl), by decide +kernel, by decide⟩
theorem c_X5_toldProblem {l : Launch} {D : va_G} {ad : Nat → Nat} {g : Gv} {t u : Mem} {x0 : Fin 8} {x1 : Int32} {x2 : Int32} {x3 : Int32} {t' : Mem} {r : Int32} (hJ : Jad ad) (h : f_X5_toldProblem x0 x1 x2 x3 t = some (r, t')) : ConI l yX5_toldProblem cX5_toldProblem 4 (some .int) 0 [.ref (ad (oSh x0)), .int x1, .int x2, .int x3] D ad g t u t' u r := by
  refine con_i hJ (by decide) (Nat.le_of_ble_eq_true rfl) rfl (fun X F E => ?_)
  refine g_lv (lv' := [(0, .ref (ad (oSh x0))), (1, .int x1), (2, .int x2), (3, .int x3)]) rfl ?_
  unfold f_X5_toldProblem at h
  refine g_iload_n F (dAt dk_X5_toldProblem 0 rfl) 1 rfl ?_
  refine g_if_ge (tgt := 7) F (dAt dk_X5_toldProblem 1 rfl) (by decide) h (fun c1 h => ?_) (fun c1 h => ?_)
  · refine g_iload_n F (dAt dk_X5_toldProblem 4 rfl) 1 rfl ?_
    refine g_i2l F (dAt dk_X5_toldProblem 5 rfl) ?_
    refine g_iload_n F (dAt dk_X5_toldProblem 6 rfl) 2 rfl ?_
    refine g_i2l F (dAt dk_X5_toldProblem 7 rfl) ?_
    refine g_lmul F (dAt dk_X5_toldProblem 8 rfl) ?_
    refine g_aload_n F (dAt dk_X5_toldProblem 9 rfl) 0 rfl ?_
    refine gg_Shelf_size x0 F (gm mw_197 rfl) (dAt dk_X5_toldProblem 10 rfl) ?_
    refine g_i2l F (dAt dk_X5_toldProblem 11 rfl) ?_
    refine g_lcmp F (dAt dk_X5_toldProblem 12 rfl) ?_
    refine g_if_le (tgt := 24) F (dAt dk_X5_toldProblem 13 rfl) (by decide) h (fun c2 h => ?_) (fun c2 h => ?_)
    · refine g_iload_n F (dAt dk_X5_toldProblem 16 rfl) 1 rfl ?_
      refine g_iload_n F (dAt dk_X5_toldProblem 17 rfl) 3 rfl ?_
      refine g_icmp_le (tgt := 34) F (dAt dk_X5_toldProblem 18 rfl) (by decide) h (fun c3 h => ?_) (fun c3 h => ?_)
      · refine g_iconst (v := 0) F (dAt dk_X5_toldProblem 21 rfl) (by decide) ?_
        cases h
        exact E (dAt dk_X5_toldProblem 22 rfl) rfl
      · refine g_bipush (v := (-6)) F (dAt dk_X5_toldProblem 19 rfl) (by decide) ?_
        refine g_goto (tgt := 35) F (dAt dk_X5_toldProblem 20 rfl) (by decide) ?_
        cases h
        exact E (dAt dk_X5_toldProblem 22 rfl) rfl
    · refine g_bipush (v := (-5)) F (dAt dk_X5_toldProblem 14 rfl) (by decide) ?_
      cases h
      exact E (dAt dk_X5_toldProblem 15 rfl) rfl
  · refine g_bipush (v := (-4)) F (dAt dk_X5_toldProblem 2 rfl) (by decide) ?_
    cases h
    exact E (dAt dk_X5_toldProblem 3 rfl) rfl
theorem mi_X5_canBeWalkedBy : MI yX5_canBeWalkedBy cX5_canBeWalkedBy 6 (some .boolean) "MillOfDistances" 2 := ⟨(gm mw_692 rfl), (gm mw_691 rfl), (gm mw_17 rfl), (gm mw_69 rfl), by decide +kernel, by decide⟩
theorem c_X5_canBeWalkedBy {l : Launch} {D : va_G} {ad : Nat → Nat} {g : Gv} {t u : Mem} {n : Nat} {x1 : Fin 8} {x2 : Int32} {t' : Mem} {r : Int32} (hJ : Jad ad) (h : f_X5_canBeWalkedBy n x1 x2 t = some (r, t')) : ConI l yX5_canBeWalkedBy cX5_canBeWalkedBy 6 (some .boolean) 1 [.ref (ad 0), .ref (ad (oSh x1)), .int x2] D ad g t u t' u r := by
  refine con_i hJ (by decide) (Nat.le_of_ble_eq_true rfl) rfl (fun X F E => ?_)
  have H5 : ∀ (k : Nat) (s : Int32 × Int32 × Mem), iter (bd_X5_canBeWalkedBy_5 n x1 x2) k s = some (r, t') → G X D ad g s.2.2 u [(0, .ref (ad 0)), (1, .ref (ad (oSh x1))), (2, .int x2), (3, .int s.1), (4, .int s.2.1)] 5 [] := by
    refine iter_walk (P := fun (s : Int32 × Int32 × Mem) => G X D ad g s.2.2 u [(0, .ref (ad 0)), (1, .ref (ad (oSh x1))), (2, .int x2), (3, .int s.1), (4, .int s.2.1)] 5 []) (fun self5 ih5 s h => ?_)
    obtain ⟨v3, v4, t0⟩ := s
    change G X D ad g t0 u [(0, .ref (ad 0)), (1, .ref (ad (oSh x1))), (2, .int x2), (3, .int v3), (4, .int v4)] 5 []
    unfold bd_X5_canBeWalkedBy_5 at h; try dsimp only at h
    refine g_iload F (dAt dk_X5_canBeWalkedBy 4 rfl) 4 rfl ?_
    refine g_iload_n F (dAt dk_X5_canBeWalkedBy 5 rfl) 2 rfl ?_
    refine g_icmp_ge (tgt := 81) F (dAt dk_X5_canBeWalkedBy 6 rfl) (by decide) h (fun c1 h => ?_) (fun c1 h => ?_)
    · refine g_iconst (v := 1) F (dAt dk_X5_canBeWalkedBy 48 rfl) (by decide) ?_
      cases h
      exact E (dAt dk_X5_canBeWalkedBy 49 rfl) rfl
    · refine g_aload_n F (dAt dk_X5_canBeWalkedBy 7 rfl) 1 rfl ?_
      refine g_iconst (v := 4) F (dAt dk_X5_canBeWalkedBy 8 rfl) (by decide) ?_
      refine g_iload F (dAt dk_X5_canBeWalkedBy 9 rfl) 4 rfl ?_
      refine g_imul F (dAt dk_X5_canBeWalkedBy 10 rfl) ?_
      refine g_iconst (v := 3) F (dAt dk_X5_canBeWalkedBy 11 rfl) (by decide) ?_
      refine g_iadd F (dAt dk_X5_canBeWalkedBy 12 rfl) ?_
      refine g_invV_ic F mi_X4_asInt (gm mw_693 rfl) (dAt dk_X5_canBeWalkedBy 13 rfl) (rcx_of F (rc_Shelf x1)) [.int ((4 * v4) + 3)] rfl rfl (by decide) (Nat.le_of_ble_eq_true rfl) h (fun _ _ hf => c_X4_asInt hJ hf) (fun r2 t3 h => ?_)
      refine g_istore (lv' := [(5, .int r2), (0, .ref (ad 0)), (1, .ref (ad (oSh x1))), (2, .int x2), (3, .int v3), (4, .int v4)]) F (dAt dk_X5_canBeWalkedBy 14 rfl) (by decide) rfl ?_
      refine g_aload_n F (dAt dk_X5_canBeWalkedBy 15 rfl) 1 rfl ?_
      refine gg_Main_land F (gm mw_212 rfl) (dAt dk_X5_canBeWalkedBy 16 rfl) ?_
      refine g_aload_n F (dAt dk_X5_canBeWalkedBy 17 rfl) 2 rfl ?_
      refine g_iconst (v := 4) F (dAt dk_X5_canBeWalkedBy 18 rfl) (by decide) ?_
      refine g_iload F (dAt dk_X5_canBeWalkedBy 19 rfl) 5 rfl ?_
      refine g_imul F (dAt dk_X5_canBeWalkedBy 20 rfl) ?_
      refine g_invV_ic F mi_X4_asInt (gm mw_693 rfl) (dAt dk_X5_canBeWalkedBy 21 rfl) (rcx_of F (rc_Shelf x1)) [.int (4 * v4)] rfl rfl (by decide) (Nat.le_of_ble_eq_true rfl) h (fun _ _ hf => c_X4_asInt hJ hf) (fun r4 t5 h => ?_)
      refine g_aload_n F (dAt dk_X5_canBeWalkedBy 22 rfl) 2 rfl ?_
      refine g_iconst (v := 4) F (dAt dk_X5_canBeWalkedBy 23 rfl) (by decide) ?_
      refine g_iload F (dAt dk_X5_canBeWalkedBy 24 rfl) 5 rfl ?_
      refine g_imul F (dAt dk_X5_canBeWalkedBy 25 rfl) ?_
      refine g_iconst (v := 1) F (dAt dk_X5_canBeWalkedBy 26 rfl) (by decide) ?_
      refine g_iadd F (dAt dk_X5_canBeWalkedBy 27 rfl) ?_
      refine g_invV_ic F mi_X4_asInt (gm mw_693 rfl) (dAt dk_X5_canBeWalkedBy 28 rfl) (rcx_of F (rc_Shelf x1)) [.int ((4 * v4) + 1)] rfl rfl (by decide) (Nat.le_of_ble_eq_true rfl) h (fun _ _ hf => c_X4_asInt hJ hf) (fun r6 t7 h => ?_)
      refine g_invV_ic F mi_X1_between (gm mw_384 rfl) (dAt dk_X5_canBeWalkedBy 29 rfl) (rcx_of F (rc_Land 0)) [.int r4, .int r6] rfl rfl (by decide) (Nat.le_of_ble_eq_true rfl) h (fun _ _ hf => c_X1_between hJ hf) (fun r8 t9 h => ?_)
      refine g_if_eq (tgt := 70) F (dAt dk_X5_canBeWalkedBy 30 rfl) (by decide) h (fun c10 h => ?_) (fun c10 h => ?_)
      · refine g_iconst (v := 0) F (dAt dk_X5_canBeWalkedBy 42 rfl) (by decide) ?_
        cases h
        exact E (dAt dk_X5_canBeWalkedBy 43 rfl) rfl
      · refine g_aload_n F (dAt dk_X5_canBeWalkedBy 31 rfl) 2 rfl ?_
        refine g_iconst (v := 4) F (dAt dk_X5_canBeWalkedBy 32 rfl) (by decide) ?_
        refine g_iload F (dAt dk_X5_canBeWalkedBy 33 rfl) 5 rfl ?_
        refine g_imul F (dAt dk_X5_canBeWalkedBy 34 rfl) ?_
        refine g_iconst (v := 2) F (dAt dk_X5_canBeWalkedBy 35 rfl) (by decide) ?_
        refine g_iadd F (dAt dk_X5_canBeWalkedBy 36 rfl) ?_
        refine g_invV_ic F mi_X4_asInt (gm mw_693 rfl) (dAt dk_X5_canBeWalkedBy 37 rfl) (rcx_of F (rc_Shelf x1)) [.int ((4 * v4) + 2)] rfl rfl (by decide) (Nat.le_of_ble_eq_true rfl) h (fun _ _ hf => c_X4_asInt hJ hf) (fun r11 t12 h => ?_)
        refine g_if_eq (tgt := 70) F (dAt dk_X5_canBeWalkedBy 38 rfl) (by decide) h (fun c13 h => ?_) (fun c13 h => ?_)
        · refine g_iconst (v := 0) F (dAt dk_X5_canBeWalkedBy 42 rfl) (by decide) ?_
          cases h
          exact E (dAt dk_X5_canBeWalkedBy 43 rfl) rfl
        · refine g_iload F (dAt dk_X5_canBeWalkedBy 39 rfl) 0 rfl ?_
          refine g_iload_n F (dAt dk_X5_canBeWalkedBy 40 rfl) 4 rfl ?_
          refine g_icmp_ge (tgt := 72) F (dAt dk_X5_canBeWalkedBy 41 rfl) (by decide) h (fun c14 h => ?_) (fun c14 h => ?_)
          · refine g_iload F (dAt dk_X5_canBeWalkedBy 44 rfl) 0 rfl ?_
            refine g_istore_n (lv' := [(3, .int r2), (5, .int r2), (0, .ref (ad 0)), (1, .ref (ad (oSh x1))), (2, .int x2), (4, .int v4)]) F (dAt dk_X5_canBeWalkedBy 45 rfl) (by decide) rfl ?_
            refine g_iinc (lv' := [(4, .int (v4 + 1)), (3, .int r2), (5, .int r2), (0, .ref (ad 0)), (1, .ref (ad (oSh x1))), (2, .int x2)]) F (dAt dk_X5_canBeWalkedBy 46 rfl) 5 rfl (w := 1) (by decide) (by decide) rfl ?_
            refine g_goto (tgt := 5) F (dAt dk_X5_canBeWalkedBy 47 rfl) (by decide) ?_
            refine g_sub (lv' := [(0, .ref (ad 0)), (1, .ref (ad (oSh x1))), (2, .int x2), (3, .int r2), (4, .int (v4 + 1))]) [3, 4, 5, 1, 0] rfl ?_
            exact ih5 (r2, (v4 + 1), t12) h
          · refine g_iconst (v := 0) F (dAt dk_X5_canBeWalkedBy 42 rfl) (by decide) ?_
            cases h
            exact E (dAt dk_X5_canBeWalkedBy 43 rfl) rfl
  refine g_lv (lv' := [(0, .ref (ad 0)), (1, .ref (ad (oSh x1))), (2, .int x2)]) rfl ?_
  unfold f_X5_canBeWalkedBy at h
  refine g_iconst (v := 0) F (dAt dk_X5_canBeWalkedBy 0 rfl) (by decide) ?_
  refine g_istore_n (lv' := [(3, .int 0), (0, .ref (ad 0)), (1, .ref (ad (oSh x1))), (2, .int x2)]) F (dAt dk_X5_canBeWalkedBy 1 rfl) (by decide) rfl ?_
  refine g_iconst (v := 0) F (dAt dk_X5_canBeWalkedBy 2 rfl) (by decide) ?_
  refine g_istore (lv' := [(4, .int 0), (3, .int 0), (0, .ref (ad 0)), (1, .ref (ad (oSh x1))), (2, .int x2)]) F (dAt dk_X5_canBeWalkedBy 3 rfl) (by decide) rfl ?_
  refine g_sub (lv' := [(0, .ref (ad 0)), (1, .ref (ad (oSh x1))), (2, .int x2), (3, .int 0), (4, .int 0)]) [2, 3, 4, 1, 0] rfl ?_
  exact H5  n (0, 0, t) h
theorem mi_X5_walk : MI yX5_walk cX5_walk 11 (some .int) "MillOfDistances" 4 := ⟨(gm mw_697 rfl), (gm mw_696 rfl), (gm mw_18 rfl), (gm mw_69 rfl), by decide +kernel, by decide⟩
theorem c_X5_walk {l : Launch} {D : va_G} {ad : Nat → Nat} {g : Gv} {t u : Mem} {n : Nat} {x1 : Int32} {x2 : Int32} {x3 : Fin 8} {x4 : Int32} {t' : Mem} {r : Int32} (hJ : Jad ad) (h : f_X5_walk n x1 x2 x3 x4 t = some (r, t')) : ConI l yX5_walk cX5_walk 11 (some .int) 4 [.ref (ad 0), .int x1, .int x2, .ref (ad (oSh x3)), .int x4] D ad g t u t' u r := by
  refine con_i hJ (by decide) (Nat.le_of_ble_eq_true rfl) rfl (fun X F E => ?_)
  have J133 : ∀ (self34 : Int32 × Int32 × Int32 × Int32 × Mem → Option (Int32 × Mem)), (∀ s, self34 s = some (r, t') → G X D ad g s.2.2.2.2 u [(0, .ref (ad 0)), (2, .int x2), (3, .ref (ad (oSh x3))), (4, .int x4), (5, .int s.1), (6, .int s.2.1), (7, .int s.2.2.1), (8, .int s.2.2.2.1)] 34 []) → ∀ (v5 : Int32) (v6 : Int32) (v7 : Int32) (v8 : Int32) (t0 : Mem), jn_X5_walk_133 n x1 x2 x3 x4 self34 v5 v6 v7 v8 t0 = some (r, t') → G X D ad g t0 u [(0, .ref (ad 0)), (2, .int x2), (3, .ref (ad (oSh x3))), (4, .int x4), (5, .int v5), (6, .int v6), (7, .int v7), (8, .int v8)] 133 [] := by
    intro self34 ih34 v5 v6 v7 v8 t0 h
    unfold jn_X5_walk_133 at h
    refine g_aload_n F (dAt dk_X5_walk 70 rfl) 0 rfl ?_
    refine gg_Main_then F (gm mw_216 rfl) (dAt dk_X5_walk 71 rfl) ?_
    refine g_iload F (dAt dk_X5_walk 72 rfl) 4 rfl ?_
    refine g_iload_n F (dAt dk_X5_walk 73 rfl) 1 rfl ?_
    refine g_invV_ic F mi_X2_joins (gm mw_608 rfl) (dAt dk_X5_walk 74 rfl) (rcx_of F (rc_Len 1)) [.int v5, .int x2] rfl rfl (by decide) (Nat.le_of_ble_eq_true rfl) h (fun _ _ hf => c_X2_joins hJ hf) (fun r18 t19 h => ?_)
    refine g_if_ne (tgt := 148) F (dAt dk_X5_walk 75 rfl) (by decide) h (fun c20 h => ?_) (fun c20 h => ?_)
    · refine g_aload_n F (dAt dk_X5_walk 78 rfl) 0 rfl ?_
      refine gg_Main_then F (gm mw_216 rfl) (dAt dk_X5_walk 79 rfl) ?_
      refine g_aload_n F (dAt dk_X5_walk 80 rfl) 0 rfl ?_
      refine gg_Main_trial F (gm mw_213 rfl) (dAt dk_X5_walk 81 rfl) ?_
      refine g_iload F (dAt dk_X5_walk 82 rfl) 4 rfl ?_
      refine g_iload_n F (dAt dk_X5_walk 83 rfl) 1 rfl ?_
      refine g_invV_ic F mi_X2_nextOnTheWay (gm mw_609 rfl) (dAt dk_X5_walk 84 rfl) (rcx_of F (rc_Len 1)) [.ref (ad (oLd 1)), .int v5, .int x2] rfl rfl (by decide) (Nat.le_of_ble_eq_true rfl) h (fun _ _ hf => c_X2_nextOnTheWay hJ hf) (fun r21 t22 h => ?_)
      refine g_istore (lv' := [(10, .int r21), (0, .ref (ad 0)), (2, .int x2), (3, .ref (ad (oSh x3))), (4, .int x4), (5, .int v5), (6, .int v6), (7, .int v7), (8, .int v8)]) F (dAt dk_X5_walk 85 rfl) (by decide) rfl ?_
      refine g_iload F (dAt dk_X5_walk 86 rfl) 6 rfl ?_
      refine g_aload_n F (dAt dk_X5_walk 87 rfl) 1 rfl ?_
      refine gg_Main_trial F (gm mw_213 rfl) (dAt dk_X5_walk 88 rfl) ?_
      refine g_iload F (dAt dk_X5_walk 89 rfl) 5 rfl ?_
      refine g_iload F (dAt dk_X5_walk 90 rfl) 0 rfl ?_
      refine g_invV_ic F mi_X1_between (gm mw_384 rfl) (dAt dk_X5_walk 91 rfl) (rcx_of F (rc_Land 1)) [.int v5, .int r21] rfl rfl (by decide) (Nat.le_of_ble_eq_true rfl) h (fun _ _ hf => c_X1_between hJ hf) (fun r23 t24 h => ?_)
      refine g_iadd F (dAt dk_X5_walk 92 rfl) ?_
      refine g_istore (lv' := [(6, .int (v6 + r23)), (10, .int r21), (0, .ref (ad 0)), (2, .int x2), (3, .ref (ad (oSh x3))), (4, .int x4), (5, .int v5), (7, .int v7), (8, .int v8)]) F (dAt dk_X5_walk 93 rfl) (by decide) rfl ?_
      refine g_iload F (dAt dk_X5_walk 94 rfl) 1 rfl ?_
      refine g_istore (lv' := [(5, .int r21), (6, .int (v6 + r23)), (10, .int r21), (0, .ref (ad 0)), (2, .int x2), (3, .ref (ad (oSh x3))), (4, .int x4), (7, .int v7), (8, .int v8)]) F (dAt dk_X5_walk 95 rfl) (by decide) rfl ?_
      refine g_iload F (dAt dk_X5_walk 96 rfl) 1 rfl ?_
      refine g_sipush (v := 9999) F (dAt dk_X5_walk 97 rfl) (by decide) ?_
      refine g_icmp_le (tgt := 195) F (dAt dk_X5_walk 98 rfl) (by decide) h (fun c25 h => ?_) (fun c25 h => ?_)
      · refine g_iinc (lv' := [(8, .int (v8 + 1)), (5, .int r21), (6, .int (v6 + r23)), (10, .int r21), (0, .ref (ad 0)), (2, .int x2), (3, .ref (ad (oSh x3))), (4, .int x4), (7, .int v7)]) F (dAt dk_X5_walk 101 rfl) 8 rfl (w := 1) (by decide) (by decide) rfl ?_
        refine g_goto (tgt := 34) F (dAt dk_X5_walk 102 rfl) (by decide) ?_
        refine g_sub (lv' := [(0, .ref (ad 0)), (2, .int x2), (3, .ref (ad (oSh x3))), (4, .int x4), (5, .int r21), (6, .int (v6 + r23)), (7, .int v7), (8, .int (v8 + 1))]) [4, 5, 6, 7, 1, 2, 8, 0] rfl ?_
        exact ih34 (r21, (v6 + r23), v7, (v8 + 1), t24) h
      · refine g_bipush (v := (-2)) F (dAt dk_X5_walk 99 rfl) (by decide) ?_
        cases h
        exact E (dAt dk_X5_walk 100 rfl) rfl
    · refine g_iconst (v := (-1)) F (dAt dk_X5_walk 76 rfl) (by decide) ?_
      cases h
      exact E (dAt dk_X5_walk 77 rfl) rfl
  have J115 : ∀ (self34 : Int32 × Int32 × Int32 × Int32 × Mem → Option (Int32 × Mem)), (∀ s, self34 s = some (r, t') → G X D ad g s.2.2.2.2 u [(0, .ref (ad 0)), (2, .int x2), (3, .ref (ad (oSh x3))), (4, .int x4), (5, .int s.1), (6, .int s.2.1), (7, .int s.2.2.1), (8, .int s.2.2.2.1)] 34 []) → ∀ (v5 : Int32) (v6 : Int32) (v7 : Int32) (v8 : Int32) (v9 : Int32) (t0 : Mem), jn_X5_walk_115 n x1 x2 x3 x4 self34 v5 v6 v7 v8 v9 t0 = some (r, t') → G X D ad g t0 u [(0, .ref (ad 0)), (2, .int x2), (3, .ref (ad (oSh x3))), (4, .int x4), (5, .int v5), (6, .int v6), (7, .int v7), (8, .int v8), (9, .int v9)] 115 [] := by
    intro self34 ih34 v5 v6 v7 v8 v9 t0 h
    unfold jn_X5_walk_115 at h
    refine g_iload F (dAt dk_X5_walk 62 rfl) 6 rfl ?_
    refine g_iload F (dAt dk_X5_walk 63 rfl) 8 rfl ?_
    refine g_icmp_eq (tgt := 133) F (dAt dk_X5_walk 64 rfl) (by decide) h (fun c16 h => ?_) (fun c16 h => ?_)
    · refine g_sub (lv' := [(0, .ref (ad 0)), (2, .int x2), (3, .ref (ad (oSh x3))), (4, .int x4), (5, .int v5), (6, .int v6), (7, .int v7), (8, .int v8)]) [0, 1, 2, 3, 4, 5, 6, 7] rfl ?_
      exact J133 self34 ih34 v5 v6 v7 v8 t0 h
    · refine g_aload_n F (dAt dk_X5_walk 65 rfl) 0 rfl ?_
      refine gg_Main_then F (gm mw_216 rfl) (dAt dk_X5_walk 66 rfl) ?_
      refine g_aload_n F (dAt dk_X5_walk 67 rfl) 0 rfl ?_
      refine gg_Main_trial F (gm mw_213 rfl) (dAt dk_X5_walk 68 rfl) ?_
      refine g_invV_vc F mi_X2_measure (gm mw_570 rfl) (dAt dk_X5_walk 69 rfl) (rcx_of F (rc_Len 1)) [.ref (ad (oLd 1))] rfl rfl (by decide) (Nat.le_of_ble_eq_true rfl) h (fun _ _ hf => c_X2_measure hJ hf) (fun _ t17 h => ?_)
      refine g_sub (lv' := [(0, .ref (ad 0)), (2, .int x2), (3, .ref (ad (oSh x3))), (4, .int x4), (5, .int v5), (6, .int v6), (7, .int v7), (8, .int v8)]) [0, 1, 2, 3, 4, 5, 6, 7] rfl ?_
      exact J133 self34 ih34 v5 v6 v7 v8 t17 h
  have H52 : ∀ (self34 : Int32 × Int32 × Int32 × Int32 × Mem → Option (Int32 × Mem)), (∀ s, self34 s = some (r, t') → G X D ad g s.2.2.2.2 u [(0, .ref (ad 0)), (2, .int x2), (3, .ref (ad (oSh x3))), (4, .int x4), (5, .int s.1), (6, .int s.2.1), (7, .int s.2.2.1), (8, .int s.2.2.2.1)] 34 []) → ∀ (k : Nat) (s : Int32 × Int32 × Int32 × Int32 × Int32 × Mem), iter (bd_X5_walk_52 n x1 x2 x3 x4 self34) k s = some (r, t') → G X D ad g s.2.2.2.2.2 u [(0, .ref (ad 0)), (2, .int x2), (3, .ref (ad (oSh x3))), (4, .int x4), (5, .int s.1), (6, .int s.2.1), (7, .int s.2.2.1), (8, .int s.2.2.2.1), (9, .int s.2.2.2.2.1)] 52 [] := by
    intro self34 ih34
    refine iter_walk (P := fun (s : Int32 × Int32 × Int32 × Int32 × Int32 × Mem) => G X D ad g s.2.2.2.2.2 u [(0, .ref (ad 0)), (2, .int x2), (3, .ref (ad (oSh x3))), (4, .int x4), (5, .int s.1), (6, .int s.2.1), (7, .int s.2.2.1), (8, .int s.2.2.2.1), (9, .int s.2.2.2.2.1)] 52 []) (fun self52 ih52 s h => ?_)
    obtain ⟨v5, v6, v7, v8, v9, t0⟩ := s
    change G X D ad g t0 u [(0, .ref (ad 0)), (2, .int x2), (3, .ref (ad (oSh x3))), (4, .int x4), (5, .int v5), (6, .int v6), (7, .int v7), (8, .int v8), (9, .int v9)] 52 []
    unfold bd_X5_walk_52 at h; try dsimp only at h
    refine g_iload F (dAt dk_X5_walk 26 rfl) 6 rfl ?_
    refine g_iload F (dAt dk_X5_walk 27 rfl) 3 rfl ?_
    refine g_icmp_ge (tgt := 115) F (dAt dk_X5_walk 28 rfl) (by decide) h (fun c5 h => ?_) (fun c5 h => ?_)
    · refine g_sub (lv' := [(0, .ref (ad 0)), (2, .int x2), (3, .ref (ad (oSh x3))), (4, .int x4), (5, .int v5), (6, .int v6), (7, .int v7), (8, .int v8), (9, .int v9)]) [0, 1, 2, 3, 4, 5, 6, 7, 8] rfl ?_
      exact J115 self34 ih34 v5 v6 v7 v8 v9 t0 h
    · refine g_aload_n F (dAt dk_X5_walk 29 rfl) 2 rfl ?_
      refine g_iconst (v := 4) F (dAt dk_X5_walk 30 rfl) (by decide) ?_
      refine g_iload F (dAt dk_X5_walk 31 rfl) 6 rfl ?_
      refine g_imul F (dAt dk_X5_walk 32 rfl) ?_
      refine g_iconst (v := 3) F (dAt dk_X5_walk 33 rfl) (by decide) ?_
      refine g_iadd F (dAt dk_X5_walk 34 rfl) ?_
      refine g_invV_ic F mi_X4_asInt (gm mw_693 rfl) (dAt dk_X5_walk 35 rfl) (rcx_of F (rc_Shelf x3)) [.int ((4 * v7) + 3)] rfl rfl (by decide) (Nat.le_of_ble_eq_true rfl) h (fun _ _ hf => c_X4_asInt hJ hf) (fun r6 t7 h => ?_)
      refine g_iload F (dAt dk_X5_walk 36 rfl) 5 rfl ?_
      refine g_icmp_gt (tgt := 115) F (dAt dk_X5_walk 37 rfl) (by decide) h (fun c8 h => ?_) (fun c8 h => ?_)
      · refine g_sub (lv' := [(0, .ref (ad 0)), (2, .int x2), (3, .ref (ad (oSh x3))), (4, .int x4), (5, .int v5), (6, .int v6), (7, .int v7), (8, .int v8), (9, .int v9)]) [0, 1, 2, 3, 4, 5, 6, 7, 8] rfl ?_
        exact J115 self34 ih34 v5 v6 v7 v8 v9 t7 h
      · refine g_aload_n F (dAt dk_X5_walk 38 rfl) 0 rfl ?_
        refine gg_Main_trial F (gm mw_213 rfl) (dAt dk_X5_walk 39 rfl) ?_
        refine g_aload_n F (dAt dk_X5_walk 40 rfl) 2 rfl ?_
        refine g_iconst (v := 4) F (dAt dk_X5_walk 41 rfl) (by decide) ?_
        refine g_iload F (dAt dk_X5_walk 42 rfl) 6 rfl ?_
        refine g_imul F (dAt dk_X5_walk 43 rfl) ?_
        refine g_invV_ic F mi_X4_asInt (gm mw_693 rfl) (dAt dk_X5_walk 44 rfl) (rcx_of F (rc_Shelf x3)) [.int (4 * v7)] rfl rfl (by decide) (Nat.le_of_ble_eq_true rfl) h (fun _ _ hf => c_X4_asInt hJ hf) (fun r9 t10 h => ?_)
        refine g_aload_n F (dAt dk_X5_walk 45 rfl) 2 rfl ?_
        refine g_iconst (v := 4) F (dAt dk_X5_walk 46 rfl) (by decide) ?_
        refine g_iload F (dAt dk_X5_walk 47 rfl) 6 rfl ?_
        refine g_imul F (dAt dk_X5_walk 48 rfl) ?_
        refine g_iconst (v := 1) F (dAt dk_X5_walk 49 rfl) (by decide) ?_
        refine g_iadd F (dAt dk_X5_walk 50 rfl) ?_
        refine g_invV_ic F mi_X4_asInt (gm mw_693 rfl) (dAt dk_X5_walk 51 rfl) (rcx_of F (rc_Shelf x3)) [.int ((4 * v7) + 1)] rfl rfl (by decide) (Nat.le_of_ble_eq_true rfl) h (fun _ _ hf => c_X4_asInt hJ hf) (fun r11 t12 h => ?_)
        refine g_aload_n F (dAt dk_X5_walk 52 rfl) 2 rfl ?_
        refine g_iconst (v := 4) F (dAt dk_X5_walk 53 rfl) (by decide) ?_
        refine g_iload F (dAt dk_X5_walk 54 rfl) 6 rfl ?_
        refine g_imul F (dAt dk_X5_walk 55 rfl) ?_
        refine g_iconst (v := 2) F (dAt dk_X5_walk 56 rfl) (by decide) ?_
        refine g_iadd F (dAt dk_X5_walk 57 rfl) ?_
        refine g_invV_ic F mi_X4_asInt (gm mw_693 rfl) (dAt dk_X5_walk 58 rfl) (rcx_of F (rc_Shelf x3)) [.int ((4 * v7) + 2)] rfl rfl (by decide) (Nat.le_of_ble_eq_true rfl) h (fun _ _ hf => c_X4_asInt hJ hf) (fun r13 t14 h => ?_)
        refine g_invV_vc F mi_X1_bend (gm mw_698 rfl) (dAt dk_X5_walk 59 rfl) (rcx_of F (rc_Land 1)) [.int r9, .int r11, .int r13] rfl rfl (by decide) (Nat.le_of_ble_eq_true rfl) h (fun _ _ hf => c_X1_bend hJ hf) (fun _ t15 h => ?_)
        refine g_iinc (lv' := [(7, .int (v7 + 1)), (0, .ref (ad 0)), (2, .int x2), (3, .ref (ad (oSh x3))), (4, .int x4), (5, .int v5), (6, .int v6), (8, .int v8), (9, .int v9)]) F (dAt dk_X5_walk 60 rfl) 6 rfl (w := 1) (by decide) (by decide) rfl ?_
        refine g_goto (tgt := 52) F (dAt dk_X5_walk 61 rfl) (by decide) ?_
        refine g_sub (lv' := [(0, .ref (ad 0)), (2, .int x2), (3, .ref (ad (oSh x3))), (4, .int x4), (5, .int v5), (6, .int v6), (7, .int (v7 + 1)), (8, .int v8), (9, .int v9)]) [1, 2, 3, 4, 5, 6, 0, 7, 8] rfl ?_
        exact ih52 (v5, v6, (v7 + 1), v8, v9, t15) h
  have H34 : ∀ (k : Nat) (s : Int32 × Int32 × Int32 × Int32 × Mem), iter (bd_X5_walk_34 n x1 x2 x3 x4) k s = some (r, t') → G X D ad g s.2.2.2.2 u [(0, .ref (ad 0)), (2, .int x2), (3, .ref (ad (oSh x3))), (4, .int x4), (5, .int s.1), (6, .int s.2.1), (7, .int s.2.2.1), (8, .int s.2.2.2.1)] 34 [] := by
    refine iter_walk (P := fun (s : Int32 × Int32 × Int32 × Int32 × Mem) => G X D ad g s.2.2.2.2 u [(0, .ref (ad 0)), (2, .int x2), (3, .ref (ad (oSh x3))), (4, .int x4), (5, .int s.1), (6, .int s.2.1), (7, .int s.2.2.1), (8, .int s.2.2.2.1)] 34 []) (fun self34 ih34 s h => ?_)
    obtain ⟨v5, v6, v7, v8, t0⟩ := s
    change G X D ad g t0 u [(0, .ref (ad 0)), (2, .int x2), (3, .ref (ad (oSh x3))), (4, .int x4), (5, .int v5), (6, .int v6), (7, .int v7), (8, .int v8)] 34 []
    unfold bd_X5_walk_34 at h; try dsimp only at h
    refine g_iload F (dAt dk_X5_walk 18 rfl) 7 rfl ?_
    refine g_sipush (v := 9999) F (dAt dk_X5_walk 19 rfl) (by decide) ?_
    refine g_icmp_gt (tgt := 201) F (dAt dk_X5_walk 20 rfl) (by decide) h (fun c3 h => ?_) (fun c3 h => ?_)
    · refine g_iload F (dAt dk_X5_walk 103 rfl) 5 rfl ?_
      cases h
      exact E (dAt dk_X5_walk 104 rfl) rfl
    · refine g_iload F (dAt dk_X5_walk 21 rfl) 4 rfl ?_
      refine g_iload_n F (dAt dk_X5_walk 22 rfl) 1 rfl ?_
      refine g_icmp_eq (tgt := 201) F (dAt dk_X5_walk 23 rfl) (by decide) h (fun c4 h => ?_) (fun c4 h => ?_)
      · refine g_iload F (dAt dk_X5_walk 103 rfl) 5 rfl ?_
        cases h
        exact E (dAt dk_X5_walk 104 rfl) rfl
      · refine g_iload F (dAt dk_X5_walk 24 rfl) 6 rfl ?_
        refine g_istore (lv' := [(9, .int v7), (0, .ref (ad 0)), (2, .int x2), (3, .ref (ad (oSh x3))), (4, .int x4), (5, .int v5), (6, .int v6), (7, .int v7), (8, .int v8)]) F (dAt dk_X5_walk 25 rfl) (by decide) rfl ?_
        refine g_sub (lv' := [(0, .ref (ad 0)), (2, .int x2), (3, .ref (ad (oSh x3))), (4, .int x4), (5, .int v5), (6, .int v6), (7, .int v7), (8, .int v8), (9, .int v7)]) [1, 2, 3, 4, 5, 6, 7, 8, 0] rfl ?_
        exact H52 self34 ih34 n (v5, v6, v7, v8, v7, t0) h
  refine g_lv (lv' := [(0, .ref (ad 0)), (1, .int x1), (2, .int x2), (3, .ref (ad (oSh x3))), (4, .int x4)]) rfl ?_
  unfold f_X5_walk at h
  refine g_aload_n F (dAt dk_X5_walk 0 rfl) 0 rfl ?_
  refine gg_Main_trial F (gm mw_213 rfl) (dAt dk_X5_walk 1 rfl) ?_
  refine g_aload_n F (dAt dk_X5_walk 2 rfl) 0 rfl ?_
  refine gg_Main_land F (gm mw_212 rfl) (dAt dk_X5_walk 3 rfl) ?_
  refine g_invV_vc F mi_X1_becomeAs (gm mw_407 rfl) (dAt dk_X5_walk 4 rfl) (rcx_of F (rc_Land 1)) [.ref (ad (oLd 0))] rfl rfl (by decide) (Nat.le_of_ble_eq_true rfl) h (fun _ _ hf => c_X1_becomeAs hJ hf) (fun _ t1 h => ?_)
  refine g_aload_n F (dAt dk_X5_walk 5 rfl) 0 rfl ?_
  refine gg_Main_then F (gm mw_216 rfl) (dAt dk_X5_walk 6 rfl) ?_
  refine g_aload_n F (dAt dk_X5_walk 7 rfl) 0 rfl ?_
  refine gg_Main_trial F (gm mw_213 rfl) (dAt dk_X5_walk 8 rfl) ?_
  refine g_invV_vc F mi_X2_measure (gm mw_570 rfl) (dAt dk_X5_walk 9 rfl) (rcx_of F (rc_Len 1)) [.ref (ad (oLd 1))] rfl rfl (by decide) (Nat.le_of_ble_eq_true rfl) h (fun _ _ hf => c_X2_measure hJ hf) (fun _ t2 h => ?_)
  refine g_iload_n F (dAt dk_X5_walk 10 rfl) 1 rfl ?_
  refine g_istore (lv' := [(5, .int x1), (0, .ref (ad 0)), (1, .int x1), (2, .int x2), (3, .ref (ad (oSh x3))), (4, .int x4)]) F (dAt dk_X5_walk 11 rfl) (by decide) rfl ?_
  refine g_iconst (v := 0) F (dAt dk_X5_walk 12 rfl) (by decide) ?_
  refine g_istore (lv' := [(6, .int 0), (5, .int x1), (0, .ref (ad 0)), (1, .int x1), (2, .int x2), (3, .ref (ad (oSh x3))), (4, .int x4)]) F (dAt dk_X5_walk 13 rfl) (by decide) rfl ?_
  refine g_iconst (v := 0) F (dAt dk_X5_walk 14 rfl) (by decide) ?_
  refine g_istore (lv' := [(7, .int 0), (6, .int 0), (5, .int x1), (0, .ref (ad 0)), (1, .int x1), (2, .int x2), (3, .ref (ad (oSh x3))), (4, .int x4)]) F (dAt dk_X5_walk 15 rfl) (by decide) rfl ?_
  refine g_iconst (v := 0) F (dAt dk_X5_walk 16 rfl) (by decide) ?_
  refine g_istore (lv' := [(8, .int 0), (7, .int 0), (6, .int 0), (5, .int x1), (0, .ref (ad 0)), (1, .int x1), (2, .int x2), (3, .ref (ad (oSh x3))), (4, .int x4)]) F (dAt dk_X5_walk 17 rfl) (by decide) rfl ?_
  refine g_sub (lv' := [(0, .ref (ad 0)), (2, .int x2), (3, .ref (ad (oSh x3))), (4, .int x4), (5, .int x1), (6, .int 0), (7, .int 0), (8, .int 0)]) [4, 6, 7, 8, 3, 2, 1, 0] rfl ?_
  exact H34  n (x1, 0, 0, 0, t2) h
theorem mi_X5_journey : MI yX5_journey cX5_journey 7 (some .int) "MillOfDistances" 4 := ⟨(gm mw_685 rfl), (gm mw_683 rfl), (gm mw_684 rfl), (gm mw_69 rfl), by decide +kernel, by decide⟩
theorem c_X5_journey {l : Launch} {D : va_G} {ad : Nat → Nat} {g : Gv} {t u : Mem} {n : Nat} {x1 : Int32} {x2 : Int32} {x3 : Int32} {x4 : Int32} {t' : Mem} {r : Int32} (hJ : Jad ad) (h : f_X5_journey n x1 x2 x3 x4 t = some (r, t')) : ConI l yX5_journey cX5_journey 7 (some .int) 5 [.ref (ad 0), .int x1, .int x2, .int x3, .int x4] D ad g t u t' u r := by
  refine con_i hJ (by decide) (Nat.le_of_ble_eq_true rfl) rfl (fun X F E => ?_)
  have J67 : ∀ (v5 : Option (Fin 8)) (v6 : Int32) (t0 : Mem), jn_X5_journey_67 n x1 x2 x3 x4 v5 v6 t0 = some (r, t') → G X D ad g t0 u [(0, .ref (ad 0)), (1, .int x1), (2, .int x2), (4, .int x4), (5, shv ad v5), (6, .int v6)] 67 [] := by
    intro v5 v6 t0 h
    unfold jn_X5_journey_67 at h
    refine g_iload F (dAt dk_X5_journey 32 rfl) 5 rfl ?_
    refine g_if_ne (tgt := 85) F (dAt dk_X5_journey 33 rfl) (by decide) h (fun c17 h => ?_) (fun c17 h => ?_)
    · refine g_aload_n F (dAt dk_X5_journey 41 rfl) 0 rfl ?_
      refine g_iload F (dAt dk_X5_journey 42 rfl) 5 rfl ?_
      refine g_invV_ic F mi_X5_refuseBelowTen (gm mw_394 rfl) (dAt dk_X5_journey 43 rfl) (rcx_of F rc_Main) [.int v6] rfl rfl (by decide) (Nat.le_of_ble_eq_true rfl) h (fun _ _ hf => c_X5_refuseBelowTen hJ hf) (fun r18 t19 h => ?_)
      cases h
      exact E (dAt dk_X5_journey 44 rfl) rfl
    · refine g_aload_n F (dAt dk_X5_journey 34 rfl) 0 rfl ?_
      refine g_iload_n F (dAt dk_X5_journey 35 rfl) 1 rfl ?_
      refine g_iload_n F (dAt dk_X5_journey 36 rfl) 2 rfl ?_
      refine g_aloadS F (dAt dk_X5_journey 37 rfl) 4 rfl ?_
      refine g_iload F (dAt dk_X5_journey 38 rfl) 3 rfl ?_
      refine g_nn h (fun k20 e hhk20 => ?_)
      subst e
      have h := hhk20
      refine g_lv (lv' := [(0, .ref (ad 0)), (1, .int x1), (2, .int x2), (4, .int x4), (5, .ref (ad (oSh k20))), (6, .int v6)]) rfl ?_
      refine g_st (st' := [.int x4, .ref (ad (oSh k20)), .int x2, .int x1, .ref (ad 0)]) rfl ?_
      refine g_invV_ic F mi_X5_walk (gm mw_694 rfl) (dAt dk_X5_journey 39 rfl) (rcx_of F rc_Main) [.int x1, .int x2, .ref (ad (oSh k20)), .int x4] rfl rfl (by decide) (Nat.le_of_ble_eq_true rfl) h (fun _ _ hf => c_X5_walk hJ hf) (fun r21 t22 h => ?_)
      refine g_goto (tgt := 91) F (dAt dk_X5_journey 40 rfl) (by decide) ?_
      cases h
      exact E (dAt dk_X5_journey 44 rfl) rfl
  have J47 : ∀ (v5 : Option (Fin 8)) (v6 : Int32) (t0 : Mem), jn_X5_journey_47 n x1 x2 x3 x4 v5 v6 t0 = some (r, t') → G X D ad g t0 u [(0, .ref (ad 0)), (1, .int x1), (2, .int x2), (4, .int x4), (5, shv ad v5), (6, .int v6)] 47 [] := by
    intro v5 v6 t0 h
    unfold jn_X5_journey_47 at h
    refine g_iload F (dAt dk_X5_journey 23 rfl) 5 rfl ?_
    refine g_if_ne (tgt := 67) F (dAt dk_X5_journey 24 rfl) (by decide) h (fun c12 h => ?_) (fun c12 h => ?_)
    · refine g_sub (lv' := [(0, .ref (ad 0)), (1, .int x1), (2, .int x2), (4, .int x4), (5, shv ad v5), (6, .int v6)]) [0, 1, 2, 3, 4, 5] rfl ?_
      exact J67  v5 v6 t0 h
    · refine g_aload_n F (dAt dk_X5_journey 25 rfl) 0 rfl ?_
      refine g_aloadS F (dAt dk_X5_journey 26 rfl) 4 rfl ?_
      refine g_iload F (dAt dk_X5_journey 27 rfl) 3 rfl ?_
      refine g_nn h (fun k13 e hhk13 => ?_)
      subst e
      have h := hhk13
      refine g_lv (lv' := [(0, .ref (ad 0)), (1, .int x1), (2, .int x2), (4, .int x4), (5, .ref (ad (oSh k13))), (6, .int v6)]) rfl ?_
      refine g_st (st' := [.int x4, .ref (ad (oSh k13)), .ref (ad 0)]) rfl ?_
      refine g_invV_ic F mi_X5_canBeWalkedBy (gm mw_689 rfl) (dAt dk_X5_journey 28 rfl) (rcx_of F rc_Main) [.ref (ad (oSh k13)), .int x4] rfl rfl (by decide) (Nat.le_of_ble_eq_true rfl) h (fun _ _ hf => c_X5_canBeWalkedBy hJ hf) (fun r14 t15 h => ?_)
      refine g_if_ne (tgt := 67) F (dAt dk_X5_journey 29 rfl) (by decide) h (fun c16 h => ?_) (fun c16 h => ?_)
      · refine g_sub (lv' := [(0, .ref (ad 0)), (1, .int x1), (2, .int x2), (4, .int x4), (5, shv ad (some k13)), (6, .int v6)]) [0, 1, 2, 3, 4, 5] rfl ?_
        exact J67  (some k13) v6 t15 h
      · refine g_bipush (v := (-6)) F (dAt dk_X5_journey 30 rfl) (by decide) ?_
        refine g_istore (lv' := [(6, .int (-6)), (0, .ref (ad 0)), (1, .int x1), (2, .int x2), (4, .int x4), (5, .ref (ad (oSh k13)))]) F (dAt dk_X5_journey 31 rfl) (by decide) rfl ?_
        refine g_sub (lv' := [(0, .ref (ad 0)), (1, .int x1), (2, .int x2), (4, .int x4), (5, shv ad (some k13)), (6, .int (-6))]) [1, 2, 3, 4, 5, 0] rfl ?_
        exact J67  (some k13) (-6) t15 h
  have J28 : ∀ (v5 : Option (Fin 8)) (w0 : Int32) (t0 : Mem), jn_X5_journey_28 n x1 x2 x3 x4 v5 w0 t0 = some (r, t') → G X D ad g t0 u [(0, .ref (ad 0)), (1, .int x1), (2, .int x2), (4, .int x4), (5, shv ad v5)] 28 [.int w0] := by
    intro v5 w0 t0 h
    unfold jn_X5_journey_28 at h
    refine g_istore (lv' := [(6, .int w0), (0, .ref (ad 0)), (1, .int x1), (2, .int x2), (4, .int x4), (5, shv ad v5)]) F (dAt dk_X5_journey 14 rfl) (by decide) (by cases v5 <;> rfl) ?_
    refine g_iload F (dAt dk_X5_journey 15 rfl) 0 rfl ?_
    refine g_if_ne (tgt := 47) F (dAt dk_X5_journey 16 rfl) (by decide) h (fun c8 h => ?_) (fun c8 h => ?_)
    · refine g_sub (lv' := [(0, .ref (ad 0)), (1, .int x1), (2, .int x2), (4, .int x4), (5, shv ad v5), (6, .int w0)]) [1, 2, 3, 4, 5, 0] rfl ?_
      exact J47  v5 w0 t0 h
    · refine g_aloadS F (dAt dk_X5_journey 17 rfl) 5 rfl ?_
      refine g_iload F (dAt dk_X5_journey 18 rfl) 4 rfl ?_
      refine g_iconst (v := 4) F (dAt dk_X5_journey 19 rfl) (by decide) ?_
      refine g_bipush (v := 10) F (dAt dk_X5_journey 20 rfl) (by decide) ?_
      refine g_nn h (fun k9 e hhk9 => ?_)
      subst e
      have h := hhk9
      refine g_lv (lv' := [(6, .int w0), (0, .ref (ad 0)), (1, .int x1), (2, .int x2), (4, .int x4), (5, .ref (ad (oSh k9)))]) rfl ?_
      refine g_st (st' := [.int 10, .int 4, .int x4, .ref (ad (oSh k9))]) rfl ?_
      refine g_invS_ic F ms_X5_toldProblem (gm mw_686 rfl) (dAt dk_X5_journey 21 rfl) [.ref (ad (oSh k9)), .int x4, .int 4, .int 10] rfl rfl (by decide) (Nat.le_of_ble_eq_true rfl) h (fun _ _ hf => c_X5_toldProblem hJ hf) (fun r10 t11 h => ?_)
      refine g_istore (lv' := [(6, .int r10), (0, .ref (ad 0)), (1, .int x1), (2, .int x2), (4, .int x4), (5, .ref (ad (oSh k9)))]) F (dAt dk_X5_journey 22 rfl) (by decide) rfl ?_
      refine g_sub (lv' := [(0, .ref (ad 0)), (1, .int x1), (2, .int x2), (4, .int x4), (5, shv ad (some k9)), (6, .int r10)]) [1, 2, 3, 4, 5, 0] rfl ?_
      exact J47  (some k9) r10 t11 h
  refine g_lv (lv' := [(0, .ref (ad 0)), (1, .int x1), (2, .int x2), (3, .int x3), (4, .int x4)]) rfl ?_
  unfold f_X5_journey at h
  refine g_aload_n F (dAt dk_X5_journey 0 rfl) 0 rfl ?_
  refine g_iload_n F (dAt dk_X5_journey 1 rfl) 3 rfl ?_
  refine g_invV_qc (jv ad) F mi_X5_shelfAt (gm mw_247 rfl) (dAt dk_X5_journey 2 rfl) (rcx_of F rc_Main) [.int x3] rfl rfl (by decide) (Nat.le_of_ble_eq_true rfl) h (fun _ _ hf => c_X5_shelfAt hJ hf) (fun r1 t2 h => ?_)
  refine g_st (st' := [shv ad r1]) rfl ?_
  refine g_astoreS (lv' := [(5, shv ad r1), (0, .ref (ad 0)), (1, .int x1), (2, .int x2), (3, .int x3), (4, .int x4)]) F (dAt dk_X5_journey 3 rfl) (by decide) rfl ?_
  refine g_aload_n F (dAt dk_X5_journey 4 rfl) 1 rfl ?_
  refine gg_Main_land F (gm mw_212 rfl) (dAt dk_X5_journey 5 rfl) ?_
  refine g_iload_n F (dAt dk_X5_journey 6 rfl) 2 rfl ?_
  refine g_iload_n F (dAt dk_X5_journey 7 rfl) 3 rfl ?_
  refine g_invV_ic F mi_X1_hasBoth (gm mw_380 rfl) (dAt dk_X5_journey 8 rfl) (rcx_of F (rc_Land 0)) [.int x1, .int x2] rfl rfl (by decide) (Nat.le_of_ble_eq_true rfl) h (fun _ _ hf => c_X1_hasBoth hJ hf) (fun r3 t4 h => ?_)
  refine g_if_eq (tgt := 27) F (dAt dk_X5_journey 9 rfl) (by decide) h (fun c5 h => ?_) (fun c5 h => ?_)
  · refine g_iconst (v := (-1)) F (dAt dk_X5_journey 13 rfl) (by decide) ?_
    refine g_sub (lv' := [(0, .ref (ad 0)), (1, .int x1), (2, .int x2), (4, .int x4), (5, shv ad r1)]) [1, 2, 3, 5, 0] rfl ?_
    exact J28  r1 (-1) t4 h
  · refine g_aloadS F (dAt dk_X5_journey 10 rfl) 0 rfl ?_
    refine g_invS_ic F ms_X5_rowProblem (gm mw_266 rfl) (dAt dk_X5_journey 11 rfl) [shv ad r1] rfl rfl (by decide) (Nat.le_of_ble_eq_true rfl) h (fun _ _ hf => c_X5_rowProblem hJ hf) (fun r6 t7 h => ?_)
    refine g_goto (tgt := 28) F (dAt dk_X5_journey 12 rfl) (by decide) ?_
    refine g_sub (lv' := [(0, .ref (ad 0)), (1, .int x1), (2, .int x2), (4, .int x4), (5, shv ad r1)]) [1, 2, 3, 5, 0] rfl ?_
    exact J28  r1 r6 t7 h
theorem ms_X5_pairsOf : MS yX5_pairsOf cX5_pairsOf 1 (some .int) 1 := ⟨(gm mw_719 rfl), (gm mw_718 rfl), (gm mw_69 rfl), by decide +kernel, by decide⟩
theorem c_X5_pairsOf {l : Launch} {D : va_G} {ad : Nat → Nat} {g : Gv} {t u : Mem} {x0 : Int32} {r : Int32} (hJ : Jad ad) (h : f_X5_pairsOf x0 = some r) : ConI l yX5_pairsOf cX5_pairsOf 1 (some .int) 0 [.int x0] D ad g t u t u r := by
  refine con_i hJ (by decide) (Nat.le_of_ble_eq_true rfl) rfl (fun X F E => ?_)
  refine g_lv (lv' := [(0, .int x0)]) rfl ?_
  unfold f_X5_pairsOf at h
  refine g_iload_n F (dAt dk_X5_pairsOf 0 rfl) 0 rfl ?_
  refine g_iload_n F (dAt dk_X5_pairsOf 1 rfl) 0 rfl ?_
  refine g_iconst (v := 1) F (dAt dk_X5_pairsOf 2 rfl) (by decide) ?_
  refine g_isub F (dAt dk_X5_pairsOf 3 rfl) ?_
  refine g_imul F (dAt dk_X5_pairsOf 4 rfl) ?_
  refine g_iconst (v := 2) F (dAt dk_X5_pairsOf 5 rfl) (by decide) ?_
  refine g_idiv F (dAt dk_X5_pairsOf 6 rfl) (by decide) ?_
  cases h
  exact E (dAt dk_X5_pairsOf 7 rfl) rfl
theorem mi_X5_tableProblem : MI yX5_tableProblem cX5_tableProblem 3 (some .int) "MillOfDistances" 1 := ⟨(gm mw_716 rfl), (gm mw_715 rfl), (gm mw_19 rfl), (gm mw_69 rfl), by decide +kernel, by decide⟩
theorem c_X5_tableProblem {l : Launch} {D : va_G} {ad : Nat → Nat} {g : Gv} {t u : Mem} {x1 : Option (Fin 8)} {t' : Mem} {r : Int32} (hJ : Jad ad) (h : f_X5_tableProblem x1 t = some (r, t')) : ConI l yX5_tableProblem cX5_tableProblem 3 (some .int) 2 [.ref (ad 0), shv ad x1] D ad g t u t' u r := by
  refine con_i hJ (by decide) (by cases x1 <;> exact Nat.le_of_ble_eq_true rfl) rfl (fun X F E => ?_)
  refine g_lv (lv' := [(0, .ref (ad 0)), (1, shv ad x1)]) (by cases x1 <;> rfl) ?_
  unfold f_X5_tableProblem at h
  refine g_aloadS_n F (dAt dk_X5_tableProblem 0 rfl) 1 rfl ?_
  refine g_invS_ic F ms_X5_rowProblem (gm mw_266 rfl) (dAt dk_X5_tableProblem 1 rfl) [shv ad x1] rfl rfl (by decide) (Nat.le_of_ble_eq_true rfl) h (fun _ _ hf => c_X5_rowProblem hJ hf) (fun r1 t2 h => ?_)
  refine g_istore_n (lv' := [(2, .int r1), (0, .ref (ad 0)), (1, shv ad x1)]) F (dAt dk_X5_tableProblem 2 rfl) (by decide) (by cases x1 <;> rfl) ?_
  refine g_iload_n F (dAt dk_X5_tableProblem 3 rfl) 0 rfl ?_
  refine g_if_ne (tgt := 31) F (dAt dk_X5_tableProblem 4 rfl) (by decide) h (fun c3 h => ?_) (fun c3 h => ?_)
  · refine g_iload_n F (dAt dk_X5_tableProblem 14 rfl) 0 rfl ?_
    cases h
    exact E (dAt dk_X5_tableProblem 15 rfl) rfl
  · refine g_aloadS_n F (dAt dk_X5_tableProblem 5 rfl) 2 rfl ?_
    refine g_nn h (fun k4 e hhk4 => ?_)
    subst e
    have h := hhk4
    refine g_lv (lv' := [(2, .int r1), (0, .ref (ad 0)), (1, .ref (ad (oSh k4)))]) rfl ?_
    refine g_st (st' := [.ref (ad (oSh k4))]) rfl ?_
    refine gg_Shelf_size k4 F (gm mw_197 rfl) (dAt dk_X5_tableProblem 6 rfl) ?_
    refine g_aload_n F (dAt dk_X5_tableProblem 7 rfl) 1 rfl ?_
    refine gg_Main_land F (gm mw_212 rfl) (dAt dk_X5_tableProblem 8 rfl) ?_
    refine gg_Land_count 0 F (gm mw_105 rfl) (dAt dk_X5_tableProblem 9 rfl) ?_
    refine g_invS_ip F ms_X5_pairsOf (gm mw_717 rfl) (dAt dk_X5_tableProblem 10 rfl) [.int (t2.1 (oLd 0) 3)] rfl rfl (by decide) (Nat.le_of_ble_eq_true rfl) h (fun _ hf => c_X5_pairsOf hJ hf) (fun r5 h => ?_)
    refine g_icmp_ge (tgt := 31) F (dAt dk_X5_tableProblem 11 rfl) (by decide) h (fun c6 h => ?_) (fun c6 h => ?_)
    · refine g_iload_n F (dAt dk_X5_tableProblem 14 rfl) 0 rfl ?_
      cases h
      exact E (dAt dk_X5_tableProblem 15 rfl) rfl
    · refine g_bipush (v := (-5)) F (dAt dk_X5_tableProblem 12 rfl) (by decide) ?_
      refine g_goto (tgt := 32) F (dAt dk_X5_tableProblem 13 rfl) (by decide) ?_
      cases h
      exact E (dAt dk_X5_tableProblem 15 rfl) rfl
theorem mi_X5_isWrongInTable : MI yX5_isWrongInTable cX5_isWrongInTable 9 (some .boolean) "MillOfDistances" 3 := ⟨(gm mw_723 rfl), (gm mw_722 rfl), (gm mw_20 rfl), (gm mw_69 rfl), by decide +kernel, by decide⟩
theorem c_X5_isWrongInTable {l : Launch} {D : va_G} {ad : Nat → Nat} {g : Gv} {t u : Mem} {n : Nat} {x1 : Fin 8} {x2 : Int32} {x3 : Int32} {t' : Mem} {r : Int32} (hJ : Jad ad) (h : f_X5_isWrongInTable n x1 x2 x3 t = some (r, t')) : ConI l yX5_isWrongInTable cX5_isWrongInTable 9 (some .boolean) 2 [.ref (ad 0), .ref (ad (oSh x1)), .int x2, .int x3] D ad g t u t' u r := by
  refine con_i hJ (by decide) (Nat.le_of_ble_eq_true rfl) rfl (fun X F E => ?_)
  have H31 : ∀ (k : Nat) (s : Int64 × Int32 × Mem), iter (bd_X5_isWrongInTable_31 n x1 x2 x3) k s = some (r, t') → G X D ad g s.2.2 u [(0, .ref (ad 0)), (1, .ref (ad (oSh x1))), (2, .int x2), (3, .int x3), (4, .long s.1), (6, .int s.2.1)] 31 [] := by
    refine iter_walk (P := fun (s : Int64 × Int32 × Mem) => G X D ad g s.2.2 u [(0, .ref (ad 0)), (1, .ref (ad (oSh x1))), (2, .int x2), (3, .int x3), (4, .long s.1), (6, .int s.2.1)] 31 []) (fun self31 ih31 s h => ?_)
    obtain ⟨v4, v6, t0⟩ := s
    change G X D ad g t0 u [(0, .ref (ad 0)), (1, .ref (ad (oSh x1))), (2, .int x2), (3, .int x3), (4, .long v4), (6, .int v6)] 31 []
    unfold bd_X5_isWrongInTable_31 at h; try dsimp only at h
    refine g_iload F (dAt dk_X5_isWrongInTable 18 rfl) 5 rfl ?_
    refine g_aload_n F (dAt dk_X5_isWrongInTable 19 rfl) 0 rfl ?_
    refine gg_Main_land F (gm mw_212 rfl) (dAt dk_X5_isWrongInTable 20 rfl) ?_
    refine gg_Land_count 0 F (gm mw_105 rfl) (dAt dk_X5_isWrongInTable 21 rfl) ?_
    refine g_icmp_ge (tgt := 110) F (dAt dk_X5_isWrongInTable 22 rfl) (by decide) h (fun c5 h => ?_) (fun c5 h => ?_)
    · refine g_iconst (v := 0) F (dAt dk_X5_isWrongInTable 57 rfl) (by decide) ?_
      cases h
      exact E (dAt dk_X5_isWrongInTable 58 rfl) rfl
    · refine g_iload F (dAt dk_X5_isWrongInTable 23 rfl) 5 rfl ?_
      refine g_iload_n F (dAt dk_X5_isWrongInTable 24 rfl) 2 rfl ?_
      refine g_icmp_eq (tgt := 104) F (dAt dk_X5_isWrongInTable 25 rfl) (by decide) h (fun c6 h => ?_) (fun c6 h => ?_)
      · refine g_iinc (lv' := [(6, .int (v6 + 1)), (0, .ref (ad 0)), (1, .ref (ad (oSh x1))), (2, .int x2), (3, .int x3), (4, .long v4)]) F (dAt dk_X5_isWrongInTable 55 rfl) 5 rfl (w := 1) (by decide) (by decide) rfl ?_
        refine g_goto (tgt := 31) F (dAt dk_X5_isWrongInTable 56 rfl) (by decide) ?_
        refine g_sub (lv' := [(0, .ref (ad 0)), (1, .ref (ad (oSh x1))), (2, .int x2), (3, .int x3), (4, .long v4), (6, .int (v6 + 1))]) [1, 2, 3, 4, 5, 0] rfl ?_
        exact ih31 (v4, (v6 + 1), t0) h
      · refine g_iload F (dAt dk_X5_isWrongInTable 26 rfl) 5 rfl ?_
        refine g_iload_n F (dAt dk_X5_isWrongInTable 27 rfl) 3 rfl ?_
        refine g_icmp_eq (tgt := 104) F (dAt dk_X5_isWrongInTable 28 rfl) (by decide) h (fun c7 h => ?_) (fun c7 h => ?_)
        · refine g_iinc (lv' := [(6, .int (v6 + 1)), (0, .ref (ad 0)), (1, .ref (ad (oSh x1))), (2, .int x2), (3, .int x3), (4, .long v4)]) F (dAt dk_X5_isWrongInTable 55 rfl) 5 rfl (w := 1) (by decide) (by decide) rfl ?_
          refine g_goto (tgt := 31) F (dAt dk_X5_isWrongInTable 56 rfl) (by decide) ?_
          refine g_sub (lv' := [(0, .ref (ad 0)), (1, .ref (ad (oSh x1))), (2, .int x2), (3, .int x3), (4, .long v4), (6, .int (v6 + 1))]) [1, 2, 3, 4, 5, 0] rfl ?_
          exact ih31 (v4, (v6 + 1), t0) h
        · refine g_aload_n F (dAt dk_X5_isWrongInTable 29 rfl) 1 rfl ?_
          refine g_iload_n F (dAt dk_X5_isWrongInTable 30 rfl) 2 rfl ?_
          refine g_iload F (dAt dk_X5_isWrongInTable 31 rfl) 5 rfl ?_
          refine g_aload_n F (dAt dk_X5_isWrongInTable 32 rfl) 0 rfl ?_
          refine gg_Main_land F (gm mw_212 rfl) (dAt dk_X5_isWrongInTable 33 rfl) ?_
          refine gg_Land_count 0 F (gm mw_105 rfl) (dAt dk_X5_isWrongInTable 34 rfl) ?_
          refine g_invS_ip F ms_X5_pairOf (gm mw_724 rfl) (dAt dk_X5_isWrongInTable 35 rfl) [.int x2, .int v6, .int (t0.1 (oLd 0) 3)] rfl rfl (by decide) (Nat.le_of_ble_eq_true rfl) h (fun _ hf => c_X5_pairOf hJ hf) (fun r8 h => ?_)
          refine g_invV_ic F mi_X4_asInt (gm mw_693 rfl) (dAt dk_X5_isWrongInTable 36 rfl) (rcx_of F (rc_Shelf x1)) [.int r8] rfl rfl (by decide) (Nat.le_of_ble_eq_true rfl) h (fun _ _ hf => c_X4_asInt hJ hf) (fun r9 t10 h => ?_)
          refine g_i2l F (dAt dk_X5_isWrongInTable 37 rfl) ?_
          refine g_aload_n F (dAt dk_X5_isWrongInTable 38 rfl) 1 rfl ?_
          refine g_iload F (dAt dk_X5_isWrongInTable 39 rfl) 5 rfl ?_
          refine g_iload_n F (dAt dk_X5_isWrongInTable 40 rfl) 3 rfl ?_
          refine g_aload_n F (dAt dk_X5_isWrongInTable 41 rfl) 0 rfl ?_
          refine gg_Main_land F (gm mw_212 rfl) (dAt dk_X5_isWrongInTable 42 rfl) ?_
          refine gg_Land_count 0 F (gm mw_105 rfl) (dAt dk_X5_isWrongInTable 43 rfl) ?_
          refine g_invS_ip F ms_X5_pairOf (gm mw_724 rfl) (dAt dk_X5_isWrongInTable 44 rfl) [.int v6, .int x3, .int (t10.1 (oLd 0) 3)] rfl rfl (by decide) (Nat.le_of_ble_eq_true rfl) h (fun _ hf => c_X5_pairOf hJ hf) (fun r11 h => ?_)
          refine g_invV_ic F mi_X4_asInt (gm mw_693 rfl) (dAt dk_X5_isWrongInTable 45 rfl) (rcx_of F (rc_Shelf x1)) [.int r11] rfl rfl (by decide) (Nat.le_of_ble_eq_true rfl) h (fun _ _ hf => c_X4_asInt hJ hf) (fun r12 t13 h => ?_)
          refine g_i2l F (dAt dk_X5_isWrongInTable 46 rfl) ?_
          refine g_ladd F (dAt dk_X5_isWrongInTable 47 rfl) ?_
          refine g_lstore (lv' := [(7, .long (r9.toInt64 + r12.toInt64)), (0, .ref (ad 0)), (1, .ref (ad (oSh x1))), (2, .int x2), (3, .int x3), (4, .long v4), (6, .int v6)]) F (dAt dk_X5_isWrongInTable 48 rfl) (by decide) rfl ?_
          refine g_lload F (dAt dk_X5_isWrongInTable 49 rfl) 5 rfl ?_
          refine g_lload F (dAt dk_X5_isWrongInTable 50 rfl) 0 rfl ?_
          refine g_lcmp F (dAt dk_X5_isWrongInTable 51 rfl) ?_
          refine g_if_le (tgt := 104) F (dAt dk_X5_isWrongInTable 52 rfl) (by decide) h (fun c14 h => ?_) (fun c14 h => ?_)
          · refine g_iinc (lv' := [(6, .int (v6 + 1)), (7, .long (r9.toInt64 + r12.toInt64)), (0, .ref (ad 0)), (1, .ref (ad (oSh x1))), (2, .int x2), (3, .int x3), (4, .long v4)]) F (dAt dk_X5_isWrongInTable 55 rfl) 6 rfl (w := 1) (by decide) (by decide) rfl ?_
            refine g_goto (tgt := 31) F (dAt dk_X5_isWrongInTable 56 rfl) (by decide) ?_
            refine g_sub (lv' := [(0, .ref (ad 0)), (1, .ref (ad (oSh x1))), (2, .int x2), (3, .int x3), (4, .long v4), (6, .int (v6 + 1))]) [2, 3, 4, 5, 6, 0] rfl ?_
            exact ih31 (v4, (v6 + 1), t13) h
          · refine g_iconst (v := 1) F (dAt dk_X5_isWrongInTable 53 rfl) (by decide) ?_
            cases h
            exact E (dAt dk_X5_isWrongInTable 54 rfl) rfl
  refine g_lv (lv' := [(0, .ref (ad 0)), (1, .ref (ad (oSh x1))), (2, .int x2), (3, .int x3)]) rfl ?_
  unfold f_X5_isWrongInTable at h
  refine g_aload_n F (dAt dk_X5_isWrongInTable 0 rfl) 1 rfl ?_
  refine g_iload_n F (dAt dk_X5_isWrongInTable 1 rfl) 2 rfl ?_
  refine g_iload_n F (dAt dk_X5_isWrongInTable 2 rfl) 3 rfl ?_
  refine g_aload_n F (dAt dk_X5_isWrongInTable 3 rfl) 0 rfl ?_
  refine gg_Main_land F (gm mw_212 rfl) (dAt dk_X5_isWrongInTable 4 rfl) ?_
  refine gg_Land_count 0 F (gm mw_105 rfl) (dAt dk_X5_isWrongInTable 5 rfl) ?_
  refine g_invS_ip F ms_X5_pairOf (gm mw_724 rfl) (dAt dk_X5_isWrongInTable 6 rfl) [.int x2, .int x3, .int (t.1 (oLd 0) 3)] rfl rfl (by decide) (Nat.le_of_ble_eq_true rfl) h (fun _ hf => c_X5_pairOf hJ hf) (fun r1 h => ?_)
  refine g_invV_ic F mi_X4_asInt (gm mw_693 rfl) (dAt dk_X5_isWrongInTable 7 rfl) (rcx_of F (rc_Shelf x1)) [.int r1] rfl rfl (by decide) (Nat.le_of_ble_eq_true rfl) h (fun _ _ hf => c_X4_asInt hJ hf) (fun r2 t3 h => ?_)
  refine g_i2l F (dAt dk_X5_isWrongInTable 8 rfl) ?_
  refine g_lstore (lv' := [(4, .long r2.toInt64), (0, .ref (ad 0)), (1, .ref (ad (oSh x1))), (2, .int x2), (3, .int x3)]) F (dAt dk_X5_isWrongInTable 9 rfl) (by decide) rfl ?_
  refine g_lload F (dAt dk_X5_isWrongInTable 10 rfl) 0 rfl ?_
  refine g_lconst (v := 1) F (dAt dk_X5_isWrongInTable 11 rfl) (by decide) ?_
  refine g_lcmp F (dAt dk_X5_isWrongInTable 12 rfl) ?_
  refine g_if_ge (tgt := 28) F (dAt dk_X5_isWrongInTable 13 rfl) (by decide) h (fun c4 h => ?_) (fun c4 h => ?_)
  · refine g_iconst (v := 0) F (dAt dk_X5_isWrongInTable 16 rfl) (by decide) ?_
    refine g_istore (lv' := [(6, .int 0), (4, .long r2.toInt64), (0, .ref (ad 0)), (1, .ref (ad (oSh x1))), (2, .int x2), (3, .int x3)]) F (dAt dk_X5_isWrongInTable 17 rfl) (by decide) rfl ?_
    refine g_sub (lv' := [(0, .ref (ad 0)), (1, .ref (ad (oSh x1))), (2, .int x2), (3, .int x3), (4, .long r2.toInt64), (6, .int 0)]) [2, 3, 4, 5, 1, 0] rfl ?_
    exact H31  n (r2.toInt64, 0, t3) h
  · refine g_iconst (v := 1) F (dAt dk_X5_isWrongInTable 14 rfl) (by decide) ?_
    cases h
    exact E (dAt dk_X5_isWrongInTable 15 rfl) rfl
theorem mi_X5_judge : MI yX5_judge cX5_judge 6 (some .int) "MillOfDistances" 1 := ⟨(gm mw_712 rfl), (gm mw_710 rfl), (gm mw_711 rfl), (gm mw_69 rfl), by decide +kernel, by decide⟩
theorem c_X5_judge {l : Launch} {D : va_G} {ad : Nat → Nat} {g : Gv} {t u : Mem} {n : Nat} {x1 : Int32} {t' : Mem} {r : Int32} (hJ : Jad ad) (h : f_X5_judge n x1 t = some (r, t')) : ConI l yX5_judge cX5_judge 6 (some .int) 3 [.ref (ad 0), .int x1] D ad g t u t' u r := by
  refine con_i hJ (by decide) (Nat.le_of_ble_eq_true rfl) rfl (fun X F E => ?_)
  have H43 : ∀ (self25 : (Option (Fin 8)) × Int32 × Mem → Option (Int32 × Mem)), (∀ s, self25 s = some (r, t') → G X D ad g s.2.2 u [(0, .ref (ad 0)), (2, shv ad s.1), (4, .int s.2.1)] 25 []) → ∀ (k : Nat) (s : (Option (Fin 8)) × Int32 × Int32 × Mem), iter (bd_X5_judge_43 n x1 self25) k s = some (r, t') → G X D ad g s.2.2.2 u [(0, .ref (ad 0)), (2, shv ad s.1), (4, .int s.2.1), (5, .int s.2.2.1)] 43 [] := by
    intro self25 ih25
    refine iter_walk (P := fun (s : (Option (Fin 8)) × Int32 × Int32 × Mem) => G X D ad g s.2.2.2 u [(0, .ref (ad 0)), (2, shv ad s.1), (4, .int s.2.1), (5, .int s.2.2.1)] 43 []) (fun self43 ih43 s h => ?_)
    obtain ⟨v2, v4, v5, t0⟩ := s
    change G X D ad g t0 u [(0, .ref (ad 0)), (2, shv ad v2), (4, .int v4), (5, .int v5)] 43 []
    unfold bd_X5_judge_43 at h; try dsimp only at h
    refine g_iload F (dAt dk_X5_judge 25 rfl) 3 rfl ?_
    refine g_aload_n F (dAt dk_X5_judge 26 rfl) 0 rfl ?_
    refine gg_Main_land F (gm mw_212 rfl) (dAt dk_X5_judge 27 rfl) ?_
    refine gg_Land_count 0 F (gm mw_105 rfl) (dAt dk_X5_judge 28 rfl) ?_
    refine g_icmp_ge (tgt := 88) F (dAt dk_X5_judge 29 rfl) (by decide) h (fun c9 h => ?_) (fun c9 h => ?_)
    · refine g_iinc (lv' := [(4, .int (v4 + 1)), (0, .ref (ad 0)), (2, shv ad v2), (5, .int v5)]) F (dAt dk_X5_judge 45 rfl) 2 rfl (w := 1) (by decide) (by decide) rfl ?_
      refine g_goto (tgt := 25) F (dAt dk_X5_judge 46 rfl) (by decide) ?_
      refine g_sub (lv' := [(0, .ref (ad 0)), (2, shv ad v2), (4, .int (v4 + 1))]) [1, 2, 0] rfl ?_
      exact ih25 (v2, (v4 + 1), t0) h
    · refine g_aload_n F (dAt dk_X5_judge 30 rfl) 0 rfl ?_
      refine g_aloadS_n F (dAt dk_X5_judge 31 rfl) 1 rfl ?_
      refine g_iload F (dAt dk_X5_judge 32 rfl) 2 rfl ?_
      refine g_iload F (dAt dk_X5_judge 33 rfl) 3 rfl ?_
      refine g_nn h (fun k10 e hhk10 => ?_)
      subst e
      have h := hhk10
      refine g_lv (lv' := [(0, .ref (ad 0)), (2, .ref (ad (oSh k10))), (4, .int v4), (5, .int v5)]) rfl ?_
      refine g_st (st' := [.int v5, .int v4, .ref (ad (oSh k10)), .ref (ad 0)]) rfl ?_
      refine g_invV_ic F mi_X5_isWrongInTable (gm mw_720 rfl) (dAt dk_X5_judge 34 rfl) (rcx_of F rc_Main) [.ref (ad (oSh k10)), .int v4, .int v5] rfl rfl (by decide) (Nat.le_of_ble_eq_true rfl) h (fun _ _ hf => c_X5_isWrongInTable hJ hf) (fun r11 t12 h => ?_)
      refine g_if_eq (tgt := 82) F (dAt dk_X5_judge 35 rfl) (by decide) h (fun c13 h => ?_) (fun c13 h => ?_)
      · refine g_iinc (lv' := [(5, .int (v5 + 1)), (0, .ref (ad 0)), (2, .ref (ad (oSh k10))), (4, .int v4)]) F (dAt dk_X5_judge 43 rfl) 3 rfl (w := 1) (by decide) (by decide) rfl ?_
        refine g_goto (tgt := 43) F (dAt dk_X5_judge 44 rfl) (by decide) ?_
        refine g_sub (lv' := [(0, .ref (ad 0)), (2, shv ad (some k10)), (4, .int v4), (5, .int (v5 + 1))]) [1, 2, 3, 0] rfl ?_
        exact ih43 ((some k10), v4, (v5 + 1), t12) h
      · refine g_iload F (dAt dk_X5_judge 36 rfl) 2 rfl ?_
        refine g_iload F (dAt dk_X5_judge 37 rfl) 3 rfl ?_
        refine g_aload_n F (dAt dk_X5_judge 38 rfl) 0 rfl ?_
        refine gg_Main_land F (gm mw_212 rfl) (dAt dk_X5_judge 39 rfl) ?_
        refine gg_Land_count 0 F (gm mw_105 rfl) (dAt dk_X5_judge 40 rfl) ?_
        refine g_invS_ip F ms_X5_pairOf (gm mw_724 rfl) (dAt dk_X5_judge 41 rfl) [.int v4, .int v5, .int (t12.1 (oLd 0) 3)] rfl rfl (by decide) (Nat.le_of_ble_eq_true rfl) h (fun _ hf => c_X5_pairOf hJ hf) (fun r14 h => ?_)
        cases h
        exact E (dAt dk_X5_judge 42 rfl) rfl
  have H25 : ∀ (k : Nat) (s : (Option (Fin 8)) × Int32 × Mem), iter (bd_X5_judge_25 n x1) k s = some (r, t') → G X D ad g s.2.2 u [(0, .ref (ad 0)), (2, shv ad s.1), (4, .int s.2.1)] 25 [] := by
    refine iter_walk (P := fun (s : (Option (Fin 8)) × Int32 × Mem) => G X D ad g s.2.2 u [(0, .ref (ad 0)), (2, shv ad s.1), (4, .int s.2.1)] 25 []) (fun self25 ih25 s h => ?_)
    obtain ⟨v2, v4, t0⟩ := s
    change G X D ad g t0 u [(0, .ref (ad 0)), (2, shv ad v2), (4, .int v4)] 25 []
    unfold bd_X5_judge_25 at h; try dsimp only at h
    refine g_iload F (dAt dk_X5_judge 16 rfl) 2 rfl ?_
    refine g_aload_n F (dAt dk_X5_judge 17 rfl) 0 rfl ?_
    refine gg_Main_land F (gm mw_212 rfl) (dAt dk_X5_judge 18 rfl) ?_
    refine gg_Land_count 0 F (gm mw_105 rfl) (dAt dk_X5_judge 19 rfl) ?_
    refine g_icmp_ge (tgt := 94) F (dAt dk_X5_judge 20 rfl) (by decide) h (fun c8 h => ?_) (fun c8 h => ?_)
    · refine g_iconst (v := (-1)) F (dAt dk_X5_judge 47 rfl) (by decide) ?_
      cases h
      exact E (dAt dk_X5_judge 48 rfl) rfl
    · refine g_iload F (dAt dk_X5_judge 21 rfl) 2 rfl ?_
      refine g_iconst (v := 1) F (dAt dk_X5_judge 22 rfl) (by decide) ?_
      refine g_iadd F (dAt dk_X5_judge 23 rfl) ?_
      refine g_istore (lv' := [(5, .int (v4 + 1)), (0, .ref (ad 0)), (2, shv ad v2), (4, .int v4)]) F (dAt dk_X5_judge 24 rfl) (by decide) rfl ?_
      refine g_sub (lv' := [(0, .ref (ad 0)), (2, shv ad v2), (4, .int v4), (5, .int (v4 + 1))]) [1, 2, 3, 0] rfl ?_
      exact H43 self25 ih25 n (v2, v4, (v4 + 1), t0) h
  refine g_lv (lv' := [(0, .ref (ad 0)), (1, .int x1)]) rfl ?_
  unfold f_X5_judge at h
  refine g_aload_n F (dAt dk_X5_judge 0 rfl) 0 rfl ?_
  refine g_iload_n F (dAt dk_X5_judge 1 rfl) 1 rfl ?_
  refine g_invV_qc (jv ad) F mi_X5_shelfAt (gm mw_247 rfl) (dAt dk_X5_judge 2 rfl) (rcx_of F rc_Main) [.int x1] rfl rfl (by decide) (Nat.le_of_ble_eq_true rfl) h (fun _ _ hf => c_X5_shelfAt hJ hf) (fun r1 t2 h => ?_)
  refine g_st (st' := [shv ad r1]) rfl ?_
  refine g_astoreS_n (lv' := [(2, shv ad r1), (0, .ref (ad 0)), (1, .int x1)]) F (dAt dk_X5_judge 3 rfl) (by decide) rfl ?_
  refine g_aload_n F (dAt dk_X5_judge 4 rfl) 1 rfl ?_
  refine g_aloadS_n F (dAt dk_X5_judge 5 rfl) 0 rfl ?_
  refine g_invV_ic F mi_X5_tableProblem (gm mw_713 rfl) (dAt dk_X5_judge 6 rfl) (rcx_of F rc_Main) [shv ad r1] rfl rfl (by decide) (Nat.le_of_ble_eq_true rfl) h (fun _ _ hf => c_X5_tableProblem hJ hf) (fun r3 t4 h => ?_)
  refine g_istore_n (lv' := [(3, .int r3), (2, shv ad r1), (0, .ref (ad 0)), (1, .int x1)]) F (dAt dk_X5_judge 7 rfl) (by decide) (by cases r1 <;> rfl) ?_
  refine g_iload_n F (dAt dk_X5_judge 8 rfl) 0 rfl ?_
  refine g_if_eq (tgt := 22) F (dAt dk_X5_judge 9 rfl) (by decide) h (fun c5 h => ?_) (fun c5 h => ?_)
  · refine g_iconst (v := 0) F (dAt dk_X5_judge 14 rfl) (by decide) ?_
    refine g_istore (lv' := [(4, .int 0), (3, .int r3), (2, shv ad r1), (0, .ref (ad 0)), (1, .int x1)]) F (dAt dk_X5_judge 15 rfl) (by decide) rfl ?_
    refine g_sub (lv' := [(0, .ref (ad 0)), (2, shv ad r1), (4, .int 0)]) [3, 2, 0] rfl ?_
    exact H25  n (r1, 0, t4) h
  · refine g_aload_n F (dAt dk_X5_judge 10 rfl) 2 rfl ?_
    refine g_iload_n F (dAt dk_X5_judge 11 rfl) 0 rfl ?_
    refine g_invV_ic F mi_X5_refuseBelowTen (gm mw_394 rfl) (dAt dk_X5_judge 12 rfl) (rcx_of F rc_Main) [.int r3] rfl rfl (by decide) (Nat.le_of_ble_eq_true rfl) h (fun _ _ hf => c_X5_refuseBelowTen hJ hf) (fun r6 t7 h => ?_)
    cases h
    exact E (dAt dk_X5_judge 13 rfl) rfl
theorem mi_X5_mend : MI yX5_mend cX5_mend 7 (some .int) "MillOfDistances" 1 := ⟨(gm mw_731 rfl), (gm mw_729 rfl), (gm mw_730 rfl), (gm mw_69 rfl), by decide +kernel, by decide⟩
theorem c_X5_mend {l : Launch} {D : va_G} {ad : Nat → Nat} {g : Gv} {t u : Mem} {n : Nat} {x1 : Int32} {t' : Mem} {r : Int32} (hJ : Jad ad) (h : f_X5_mend n x1 t = some (r, t')) : ConI l yX5_mend cX5_mend 7 (some .int) 3 [.ref (ad 0), .int x1] D ad g t u t' u r := by
  refine con_i hJ (by decide) (Nat.le_of_ble_eq_true rfl) rfl (fun X F E => ?_)
  have J65 : ∀ (t0 : Mem), jn_X5_mend_65 n x1 t0 = some (r, t') → G X D ad g t0 u [(0, .ref (ad 0))] 65 [] := by
    intro t0 h
    unfold jn_X5_mend_65 at h
    refine g_aload_n F (dAt dk_X5_mend 34 rfl) 0 rfl ?_
    refine g_bipush (v := (-6)) F (dAt dk_X5_mend 35 rfl) (by decide) ?_
    refine g_invV_ic F mi_X5_refuse (gm mw_251 rfl) (dAt dk_X5_mend 36 rfl) (rcx_of F rc_Main) [.int (-6)] rfl rfl (by decide) (Nat.le_of_ble_eq_true rfl) h (fun _ _ hf => c_X5_refuse hJ hf) (fun r19 t20 h => ?_)
    cases h
    exact E (dAt dk_X5_mend 37 rfl) rfl
  have H28 : ∀ (k : Nat) (s : (Option (Fin 8)) × Int32 × Int32 × Mem), iter (bd_X5_mend_28 n x1) k s = some (r, t') → G X D ad g s.2.2.2 u [(0, .ref (ad 0)), (2, shv ad s.1), (4, .int s.2.1), (5, .int s.2.2.1)] 28 [] := by
    refine iter_walk (P := fun (s : (Option (Fin 8)) × Int32 × Int32 × Mem) => G X D ad g s.2.2.2 u [(0, .ref (ad 0)), (2, shv ad s.1), (4, .int s.2.1), (5, .int s.2.2.1)] 28 []) (fun self28 ih28 s h => ?_)
    obtain ⟨v2, v4, v5, t0⟩ := s
    change G X D ad g t0 u [(0, .ref (ad 0)), (2, shv ad v2), (4, .int v4), (5, .int v5)] 28 []
    unfold bd_X5_mend_28 at h; try dsimp only at h
    refine g_iload F (dAt dk_X5_mend 18 rfl) 3 rfl ?_
    refine g_aload_n F (dAt dk_X5_mend 19 rfl) 0 rfl ?_
    refine gg_Main_land F (gm mw_212 rfl) (dAt dk_X5_mend 20 rfl) ?_
    refine gg_Land_count 0 F (gm mw_105 rfl) (dAt dk_X5_mend 21 rfl) ?_
    refine g_invS_ip F ms_X5_pairsOf (gm mw_717 rfl) (dAt dk_X5_mend 22 rfl) [.int (t0.1 (oLd 0) 3)] rfl rfl (by decide) (Nat.le_of_ble_eq_true rfl) h (fun _ hf => c_X5_pairsOf hJ hf) (fun r8 h => ?_)
    refine g_icmp_ge (tgt := 85) F (dAt dk_X5_mend 23 rfl) (by decide) h (fun c9 h => ?_) (fun c9 h => ?_)
    · refine g_aload_n F (dAt dk_X5_mend 44 rfl) 0 rfl ?_
      refine gg_Main_then F (gm mw_216 rfl) (dAt dk_X5_mend 45 rfl) ?_
      refine g_aloadS_n F (dAt dk_X5_mend 46 rfl) 1 rfl ?_
      refine g_aload_n F (dAt dk_X5_mend 47 rfl) 0 rfl ?_
      refine gg_Main_land F (gm mw_212 rfl) (dAt dk_X5_mend 48 rfl) ?_
      refine gg_Land_count 0 F (gm mw_105 rfl) (dAt dk_X5_mend 49 rfl) ?_
      refine g_nn h (fun k10 e hhk10 => ?_)
      subst e
      have h := hhk10
      refine g_lv (lv' := [(0, .ref (ad 0)), (2, .ref (ad (oSh k10))), (4, .int v4), (5, .int v5)]) rfl ?_
      refine g_st (st' := [.int (t0.1 (oLd 0) 3), .ref (ad (oSh k10)), .ref (ad (oLn 1))]) rfl ?_
      refine g_invV_vc F mi_X2_measureTable (gm mw_732 rfl) (dAt dk_X5_mend 50 rfl) (rcx_of F (rc_Len 1)) [.ref (ad (oSh k10)), .int (t0.1 (oLd 0) 3)] rfl rfl (by decide) (Nat.le_of_ble_eq_true rfl) h (fun _ _ hf => c_X2_measureTable hJ hf) (fun _ t11 h => ?_)
      refine g_iload F (dAt dk_X5_mend 51 rfl) 2 rfl ?_
      refine g_aload_n F (dAt dk_X5_mend 52 rfl) 0 rfl ?_
      refine gg_Main_then F (gm mw_216 rfl) (dAt dk_X5_mend 53 rfl) ?_
      refine g_invV_ic F mi_X2_total (gm mw_656 rfl) (dAt dk_X5_mend 54 rfl) (rcx_of F (rc_Len 1)) [] rfl rfl (by decide) (Nat.le_of_ble_eq_true rfl) h (fun _ _ hf => c_X2_total hJ hf) (fun r12 t13 h => ?_)
      refine g_isub F (dAt dk_X5_mend 55 rfl) ?_
      cases h
      exact E (dAt dk_X5_mend 56 rfl) rfl
    · refine g_aloadS_n F (dAt dk_X5_mend 24 rfl) 1 rfl ?_
      refine g_iload F (dAt dk_X5_mend 25 rfl) 3 rfl ?_
      refine g_nn h (fun k14 e hhk14 => ?_)
      subst e
      have h := hhk14
      refine g_lv (lv' := [(0, .ref (ad 0)), (2, .ref (ad (oSh k14))), (4, .int v4), (5, .int v5)]) rfl ?_
      refine g_st (st' := [.int v5, .ref (ad (oSh k14))]) rfl ?_
      refine g_invV_ic F mi_X4_asInt (gm mw_693 rfl) (dAt dk_X5_mend 26 rfl) (rcx_of F (rc_Shelf k14)) [.int v5] rfl rfl (by decide) (Nat.le_of_ble_eq_true rfl) h (fun _ _ hf => c_X4_asInt hJ hf) (fun r15 t16 h => ?_)
      refine g_istore (lv' := [(6, .int r15), (0, .ref (ad 0)), (2, .ref (ad (oSh k14))), (4, .int v4), (5, .int v5)]) F (dAt dk_X5_mend 27 rfl) (by decide) rfl ?_
      refine g_iload F (dAt dk_X5_mend 28 rfl) 0 rfl ?_
      refine g_iconst (v := 1) F (dAt dk_X5_mend 29 rfl) (by decide) ?_
      refine g_icmp_lt (tgt := 65) F (dAt dk_X5_mend 30 rfl) (by decide) h (fun c17 h => ?_) (fun c17 h => ?_)
      · refine g_sub (lv' := [(0, .ref (ad 0))]) [1] rfl ?_
        exact J65  t16 h
      · refine g_iload F (dAt dk_X5_mend 31 rfl) 0 rfl ?_
        refine g_sipush (v := 9999) F (dAt dk_X5_mend 32 rfl) (by decide) ?_
        refine g_icmp_le (tgt := 72) F (dAt dk_X5_mend 33 rfl) (by decide) h (fun c18 h => ?_) (fun c18 h => ?_)
        · refine g_iload F (dAt dk_X5_mend 38 rfl) 3 rfl ?_
          refine g_iload F (dAt dk_X5_mend 39 rfl) 0 rfl ?_
          refine g_iadd F (dAt dk_X5_mend 40 rfl) ?_
          refine g_istore (lv' := [(4, .int (v4 + r15)), (6, .int r15), (0, .ref (ad 0)), (2, .ref (ad (oSh k14))), (5, .int v5)]) F (dAt dk_X5_mend 41 rfl) (by decide) rfl ?_
          refine g_iinc (lv' := [(5, .int (v5 + 1)), (4, .int (v4 + r15)), (6, .int r15), (0, .ref (ad 0)), (2, .ref (ad (oSh k14)))]) F (dAt dk_X5_mend 42 rfl) 4 rfl (w := 1) (by decide) (by decide) rfl ?_
          refine g_goto (tgt := 28) F (dAt dk_X5_mend 43 rfl) (by decide) ?_
          refine g_sub (lv' := [(0, .ref (ad 0)), (2, shv ad (some k14)), (4, .int (v4 + r15)), (5, .int (v5 + 1))]) [3, 4, 1, 0] rfl ?_
          exact ih28 ((some k14), (v4 + r15), (v5 + 1), t16) h
        · refine g_sub (lv' := [(0, .ref (ad 0))]) [1] rfl ?_
          exact J65  t16 h
  refine g_lv (lv' := [(0, .ref (ad 0)), (1, .int x1)]) rfl ?_
  unfold f_X5_mend at h
  refine g_aload_n F (dAt dk_X5_mend 0 rfl) 0 rfl ?_
  refine g_iload_n F (dAt dk_X5_mend 1 rfl) 1 rfl ?_
  refine g_invV_qc (jv ad) F mi_X5_shelfAt (gm mw_247 rfl) (dAt dk_X5_mend 2 rfl) (rcx_of F rc_Main) [.int x1] rfl rfl (by decide) (Nat.le_of_ble_eq_true rfl) h (fun _ _ hf => c_X5_shelfAt hJ hf) (fun r1 t2 h => ?_)
  refine g_st (st' := [shv ad r1]) rfl ?_
  refine g_astoreS_n (lv' := [(2, shv ad r1), (0, .ref (ad 0)), (1, .int x1)]) F (dAt dk_X5_mend 3 rfl) (by decide) rfl ?_
  refine g_aload_n F (dAt dk_X5_mend 4 rfl) 1 rfl ?_
  refine g_aloadS_n F (dAt dk_X5_mend 5 rfl) 0 rfl ?_
  refine g_invV_ic F mi_X5_tableProblem (gm mw_713 rfl) (dAt dk_X5_mend 6 rfl) (rcx_of F rc_Main) [shv ad r1] rfl rfl (by decide) (Nat.le_of_ble_eq_true rfl) h (fun _ _ hf => c_X5_tableProblem hJ hf) (fun r3 t4 h => ?_)
  refine g_istore_n (lv' := [(3, .int r3), (2, shv ad r1), (0, .ref (ad 0)), (1, .int x1)]) F (dAt dk_X5_mend 7 rfl) (by decide) (by cases r1 <;> rfl) ?_
  refine g_iload_n F (dAt dk_X5_mend 8 rfl) 0 rfl ?_
  refine g_if_eq (tgt := 22) F (dAt dk_X5_mend 9 rfl) (by decide) h (fun c5 h => ?_) (fun c5 h => ?_)
  · refine g_iconst (v := 0) F (dAt dk_X5_mend 14 rfl) (by decide) ?_
    refine g_istore (lv' := [(4, .int 0), (3, .int r3), (2, shv ad r1), (0, .ref (ad 0)), (1, .int x1)]) F (dAt dk_X5_mend 15 rfl) (by decide) rfl ?_
    refine g_iconst (v := 0) F (dAt dk_X5_mend 16 rfl) (by decide) ?_
    refine g_istore (lv' := [(5, .int 0), (4, .int 0), (3, .int r3), (2, shv ad r1), (0, .ref (ad 0)), (1, .int x1)]) F (dAt dk_X5_mend 17 rfl) (by decide) rfl ?_
    refine g_sub (lv' := [(0, .ref (ad 0)), (2, shv ad r1), (4, .int 0), (5, .int 0)]) [4, 3, 1, 0] rfl ?_
    exact H28  n (r1, 0, 0, t4) h
  · refine g_aload_n F (dAt dk_X5_mend 10 rfl) 2 rfl ?_
    refine g_iload_n F (dAt dk_X5_mend 11 rfl) 0 rfl ?_
    refine g_invV_ic F mi_X5_refuse (gm mw_251 rfl) (dAt dk_X5_mend 12 rfl) (rcx_of F rc_Main) [.int r3] rfl rfl (by decide) (Nat.le_of_ble_eq_true rfl) h (fun _ _ hf => c_X5_refuse hJ hf) (fun r6 t7 h => ?_)
    cases h
    exact E (dAt dk_X5_mend 13 rfl) rfl
theorem ms_X5_pinchesProblem : MS yX5_pinchesProblem cX5_pinchesProblem 3 (some .int) 2 := ⟨(gm mw_744 rfl), (gm mw_743 rfl), (gm mw_69 rfl), by decide +kernel, by decide⟩
theorem c_X5_pinchesProblem {l : Launch} {D : va_G} {ad : Nat → Nat} {g : Gv} {t u : Mem} {x0 : Option (Fin 8)} {x1 : Int32} {t' : Mem} {r : Int32} (hJ : Jad ad) (h : f_X5_pinchesProblem x0 x1 t = some (r, t')) : ConI l yX5_pinchesProblem cX5_pinchesProblem 3 (some .int) 2 [shv ad x0, .int x1] D ad g t u t' u r := by
  refine con_i hJ (by decide) (by cases x0 <;> exact Nat.le_of_ble_eq_true rfl) rfl (fun X F E => ?_)
  refine g_lv (lv' := [(0, shv ad x0), (1, .int x1)]) (by cases x0 <;> rfl) ?_
  unfold f_X5_pinchesProblem at h
  refine g_aloadS_n F (dAt dk_X5_pinchesProblem 0 rfl) 0 rfl ?_
  refine g_invS_ic F ms_X5_rowProblem (gm mw_266 rfl) (dAt dk_X5_pinchesProblem 1 rfl) [shv ad x0] rfl rfl (by decide) (Nat.le_of_ble_eq_true rfl) h (fun _ _ hf => c_X5_rowProblem hJ hf) (fun r1 t2 h => ?_)
  refine g_istore_n (lv' := [(2, .int r1), (0, shv ad x0), (1, .int x1)]) F (dAt dk_X5_pinchesProblem 2 rfl) (by decide) rfl ?_
  refine g_iload_n F (dAt dk_X5_pinchesProblem 3 rfl) 0 rfl ?_
  refine g_if_ne (tgt := 20) F (dAt dk_X5_pinchesProblem 4 rfl) (by decide) h (fun c3 h => ?_) (fun c3 h => ?_)
  · refine g_iload_n F (dAt dk_X5_pinchesProblem 11 rfl) 0 rfl ?_
    cases h
    exact E (dAt dk_X5_pinchesProblem 12 rfl) rfl
  · refine g_aloadS_n F (dAt dk_X5_pinchesProblem 5 rfl) 1 rfl ?_
    refine g_iload_n F (dAt dk_X5_pinchesProblem 6 rfl) 2 rfl ?_
    refine g_iconst (v := 3) F (dAt dk_X5_pinchesProblem 7 rfl) (by decide) ?_
    refine g_bipush (v := 20) F (dAt dk_X5_pinchesProblem 8 rfl) (by decide) ?_
    refine g_nn h (fun k4 e hhk4 => ?_)
    subst e
    have h := hhk4
    refine g_lv (lv' := [(2, .int r1), (0, .ref (ad (oSh k4))), (1, .int x1)]) rfl ?_
    refine g_st (st' := [.int 20, .int 3, .int x1, .ref (ad (oSh k4))]) rfl ?_
    refine g_invS_ic F ms_X5_toldProblem (gm mw_686 rfl) (dAt dk_X5_pinchesProblem 9 rfl) [.ref (ad (oSh k4)), .int x1, .int 3, .int 20] rfl rfl (by decide) (Nat.le_of_ble_eq_true rfl) h (fun _ _ hf => c_X5_toldProblem hJ hf) (fun r5 t6 h => ?_)
    refine g_goto (tgt := 21) F (dAt dk_X5_pinchesProblem 10 rfl) (by decide) ?_
    cases h
    exact E (dAt dk_X5_pinchesProblem 12 rfl) rfl
theorem mi_X5_firstWrongPinch : MI yX5_firstWrongPinch cX5_firstWrongPinch 7 (some .int) "MillOfDistances" 2 := ⟨(gm mw_748 rfl), (gm mw_747 rfl), (gm mw_21 rfl), (gm mw_69 rfl), by decide +kernel, by decide⟩
theorem c_X5_firstWrongPinch {l : Launch} {D : va_G} {ad : Nat → Nat} {g : Gv} {t u : Mem} {n : Nat} {x1 : Fin 8} {x2 : Int32} {t' : Mem} {r : Int32} (hJ : Jad ad) (h : f_X5_firstWrongPinch n x1 x2 t = some (r, t')) : ConI l yX5_firstWrongPinch cX5_firstWrongPinch 7 (some .int) 3 [.ref (ad 0), .ref (ad (oSh x1)), .int x2] D ad g t u t' u r := by
  refine con_i hJ (by decide) (Nat.le_of_ble_eq_true rfl) rfl (fun X F E => ?_)
  have H13 : ∀ (k : Nat) (s : Int32 × Mem), iter (bd_X5_firstWrongPinch_13 n x1 x2) k s = some (r, t') → G X D ad g s.2 u [(0, .ref (ad 0)), (1, .ref (ad (oSh x1))), (2, .int x2), (3, .int s.1)] 13 [] := by
    refine iter_walk (P := fun (s : Int32 × Mem) => G X D ad g s.2 u [(0, .ref (ad 0)), (1, .ref (ad (oSh x1))), (2, .int x2), (3, .int s.1)] 13 []) (fun self13 ih13 s h => ?_)
    obtain ⟨v3, t0⟩ := s
    change G X D ad g t0 u [(0, .ref (ad 0)), (1, .ref (ad (oSh x1))), (2, .int x2), (3, .int v3)] 13 []
    unfold bd_X5_firstWrongPinch_13 at h; try dsimp only at h
    refine g_iload_n F (dAt dk_X5_firstWrongPinch 7 rfl) 3 rfl ?_
    refine g_iload_n F (dAt dk_X5_firstWrongPinch 8 rfl) 2 rfl ?_
    refine g_icmp_ge (tgt := 86) F (dAt dk_X5_firstWrongPinch 9 rfl) (by decide) h (fun c2 h => ?_) (fun c2 h => ?_)
    · refine g_iconst (v := (-1)) F (dAt dk_X5_firstWrongPinch 49 rfl) (by decide) ?_
      cases h
      exact E (dAt dk_X5_firstWrongPinch 50 rfl) rfl
    · refine g_aload_n F (dAt dk_X5_firstWrongPinch 10 rfl) 1 rfl ?_
      refine g_iconst (v := 3) F (dAt dk_X5_firstWrongPinch 11 rfl) (by decide) ?_
      refine g_iload_n F (dAt dk_X5_firstWrongPinch 12 rfl) 3 rfl ?_
      refine g_imul F (dAt dk_X5_firstWrongPinch 13 rfl) ?_
      refine g_invV_ic F mi_X4_asInt (gm mw_693 rfl) (dAt dk_X5_firstWrongPinch 14 rfl) (rcx_of F (rc_Shelf x1)) [.int (3 * v3)] rfl rfl (by decide) (Nat.le_of_ble_eq_true rfl) h (fun _ _ hf => c_X4_asInt hJ hf) (fun r3 t4 h => ?_)
      refine g_istore (lv' := [(4, .int r3), (0, .ref (ad 0)), (1, .ref (ad (oSh x1))), (2, .int x2), (3, .int v3)]) F (dAt dk_X5_firstWrongPinch 15 rfl) (by decide) rfl ?_
      refine g_aload_n F (dAt dk_X5_firstWrongPinch 16 rfl) 2 rfl ?_
      refine g_iconst (v := 3) F (dAt dk_X5_firstWrongPinch 17 rfl) (by decide) ?_
      refine g_iload_n F (dAt dk_X5_firstWrongPinch 18 rfl) 4 rfl ?_
      refine g_imul F (dAt dk_X5_firstWrongPinch 19 rfl) ?_
      refine g_iconst (v := 1) F (dAt dk_X5_firstWrongPinch 20 rfl) (by decide) ?_
      refine g_iadd F (dAt dk_X5_firstWrongPinch 21 rfl) ?_
      refine g_invV_ic F mi_X4_asInt (gm mw_693 rfl) (dAt dk_X5_firstWrongPinch 22 rfl) (rcx_of F (rc_Shelf x1)) [.int ((3 * v3) + 1)] rfl rfl (by decide) (Nat.le_of_ble_eq_true rfl) h (fun _ _ hf => c_X4_asInt hJ hf) (fun r5 t6 h => ?_)
      refine g_istore (lv' := [(5, .int r5), (4, .int r3), (0, .ref (ad 0)), (1, .ref (ad (oSh x1))), (2, .int x2), (3, .int v3)]) F (dAt dk_X5_firstWrongPinch 23 rfl) (by decide) rfl ?_
      refine g_aload_n F (dAt dk_X5_firstWrongPinch 24 rfl) 3 rfl ?_
      refine g_iconst (v := 3) F (dAt dk_X5_firstWrongPinch 25 rfl) (by decide) ?_
      refine g_iload_n F (dAt dk_X5_firstWrongPinch 26 rfl) 5 rfl ?_
      refine g_imul F (dAt dk_X5_firstWrongPinch 27 rfl) ?_
      refine g_iconst (v := 2) F (dAt dk_X5_firstWrongPinch 28 rfl) (by decide) ?_
      refine g_iadd F (dAt dk_X5_firstWrongPinch 29 rfl) ?_
      refine g_invV_ic F mi_X4_asInt (gm mw_693 rfl) (dAt dk_X5_firstWrongPinch 30 rfl) (rcx_of F (rc_Shelf x1)) [.int ((3 * v3) + 2)] rfl rfl (by decide) (Nat.le_of_ble_eq_true rfl) h (fun _ _ hf => c_X4_asInt hJ hf) (fun r7 t8 h => ?_)
      refine g_istore (lv' := [(6, .int r7), (5, .int r5), (4, .int r3), (0, .ref (ad 0)), (1, .ref (ad (oSh x1))), (2, .int x2), (3, .int v3)]) F (dAt dk_X5_firstWrongPinch 31 rfl) (by decide) rfl ?_
      refine g_aload_n F (dAt dk_X5_firstWrongPinch 32 rfl) 3 rfl ?_
      refine gg_Main_trial F (gm mw_213 rfl) (dAt dk_X5_firstWrongPinch 33 rfl) ?_
      refine g_iload F (dAt dk_X5_firstWrongPinch 34 rfl) 2 rfl ?_
      refine g_iload F (dAt dk_X5_firstWrongPinch 35 rfl) 1 rfl ?_
      refine g_iload F (dAt dk_X5_firstWrongPinch 36 rfl) 0 rfl ?_
      refine g_invV_ic F mi_X1_mayPinch (gm mw_749 rfl) (dAt dk_X5_firstWrongPinch 37 rfl) (rcx_of F (rc_Land 1)) [.int r3, .int r5, .int r7] rfl rfl (by decide) (Nat.le_of_ble_eq_true rfl) h (fun _ _ hf => c_X1_mayPinch hJ hf) (fun r9 t10 h => ?_)
      refine g_if_ne (tgt := 67) F (dAt dk_X5_firstWrongPinch 38 rfl) (by decide) h (fun c11 h => ?_) (fun c11 h => ?_)
      · refine g_aload_n F (dAt dk_X5_firstWrongPinch 41 rfl) 3 rfl ?_
        refine gg_Main_trial F (gm mw_213 rfl) (dAt dk_X5_firstWrongPinch 42 rfl) ?_
        refine g_iload F (dAt dk_X5_firstWrongPinch 43 rfl) 2 rfl ?_
        refine g_iload F (dAt dk_X5_firstWrongPinch 44 rfl) 1 rfl ?_
        refine g_iload F (dAt dk_X5_firstWrongPinch 45 rfl) 0 rfl ?_
        refine g_invV_vc F mi_X1_pinch (gm mw_750 rfl) (dAt dk_X5_firstWrongPinch 46 rfl) (rcx_of F (rc_Land 1)) [.int r3, .int r5, .int r7] rfl rfl (by decide) (Nat.le_of_ble_eq_true rfl) h (fun _ _ hf => c_X1_pinch hJ hf) (fun _ t12 h => ?_)
        refine g_iinc (lv' := [(3, .int (v3 + 1)), (6, .int r7), (5, .int r5), (4, .int r3), (0, .ref (ad 0)), (1, .ref (ad (oSh x1))), (2, .int x2)]) F (dAt dk_X5_firstWrongPinch 47 rfl) 6 rfl (w := 1) (by decide) (by decide) rfl ?_
        refine g_goto (tgt := 13) F (dAt dk_X5_firstWrongPinch 48 rfl) (by decide) ?_
        refine g_sub (lv' := [(0, .ref (ad 0)), (1, .ref (ad (oSh x1))), (2, .int x2), (3, .int (v3 + 1))]) [4, 5, 6, 0] rfl ?_
        exact ih13 ((v3 + 1), t12) h
      · refine g_iload_n F (dAt dk_X5_firstWrongPinch 39 rfl) 6 rfl ?_
        cases h
        exact E (dAt dk_X5_firstWrongPinch 40 rfl) rfl
  refine g_lv (lv' := [(0, .ref (ad 0)), (1, .ref (ad (oSh x1))), (2, .int x2)]) rfl ?_
  unfold f_X5_firstWrongPinch at h
  refine g_aload_n F (dAt dk_X5_firstWrongPinch 0 rfl) 0 rfl ?_
  refine gg_Main_trial F (gm mw_213 rfl) (dAt dk_X5_firstWrongPinch 1 rfl) ?_
  refine g_aload_n F (dAt dk_X5_firstWrongPinch 2 rfl) 0 rfl ?_
  refine gg_Main_land F (gm mw_212 rfl) (dAt dk_X5_firstWrongPinch 3 rfl) ?_
  refine g_invV_vc F mi_X1_becomeAs (gm mw_407 rfl) (dAt dk_X5_firstWrongPinch 4 rfl) (rcx_of F (rc_Land 1)) [.ref (ad (oLd 0))] rfl rfl (by decide) (Nat.le_of_ble_eq_true rfl) h (fun _ _ hf => c_X1_becomeAs hJ hf) (fun _ t1 h => ?_)
  refine g_iconst (v := 0) F (dAt dk_X5_firstWrongPinch 5 rfl) (by decide) ?_
  refine g_istore_n (lv' := [(3, .int 0), (0, .ref (ad 0)), (1, .ref (ad (oSh x1))), (2, .int x2)]) F (dAt dk_X5_firstWrongPinch 6 rfl) (by decide) rfl ?_
  refine g_sub (lv' := [(0, .ref (ad 0)), (1, .ref (ad (oSh x1))), (2, .int x2), (3, .int 0)]) [1, 2, 3, 0] rfl ?_
  exact H13  n (0, t1) h
theorem mi_X5_pinches : MI yX5_pinches cX5_pinches 5 (some .int) "MillOfDistances" 2 := ⟨(gm mw_741 rfl), (gm mw_739 rfl), (gm mw_740 rfl), (gm mw_69 rfl), by decide +kernel, by decide⟩
theorem c_X5_pinches {l : Launch} {D : va_G} {ad : Nat → Nat} {g : Gv} {t u : Mem} {n : Nat} {x1 : Int32} {x2 : Int32} {t' : Mem} {r : Int32} (hJ : Jad ad) (h : f_X5_pinches n x1 x2 t = some (r, t')) : ConI l yX5_pinches cX5_pinches 5 (some .int) 4 [.ref (ad 0), .int x1, .int x2] D ad g t u t' u r := by
  refine con_i hJ (by decide) (Nat.le_of_ble_eq_true rfl) rfl (fun X F E => ?_)
  refine g_lv (lv' := [(0, .ref (ad 0)), (1, .int x1), (2, .int x2)]) rfl ?_
  unfold f_X5_pinches at h
  refine g_aload_n F (dAt dk_X5_pinches 0 rfl) 0 rfl ?_
  refine g_iload_n F (dAt dk_X5_pinches 1 rfl) 1 rfl ?_
  refine g_invV_qc (jv ad) F mi_X5_shelfAt (gm mw_247 rfl) (dAt dk_X5_pinches 2 rfl) (rcx_of F rc_Main) [.int x1] rfl rfl (by decide) (Nat.le_of_ble_eq_true rfl) h (fun _ _ hf => c_X5_shelfAt hJ hf) (fun r1 t2 h => ?_)
  refine g_st (st' := [shv ad r1]) rfl ?_
  refine g_astoreS_n (lv' := [(3, shv ad r1), (0, .ref (ad 0)), (1, .int x1), (2, .int x2)]) F (dAt dk_X5_pinches 3 rfl) (by decide) rfl ?_
  refine g_aloadS_n F (dAt dk_X5_pinches 4 rfl) 0 rfl ?_
  refine g_iload_n F (dAt dk_X5_pinches 5 rfl) 3 rfl ?_
  refine g_invS_ic F ms_X5_pinchesProblem (gm mw_742 rfl) (dAt dk_X5_pinches 6 rfl) [shv ad r1, .int x2] rfl rfl (by decide) (Nat.le_of_ble_eq_true rfl) h (fun _ _ hf => c_X5_pinchesProblem hJ hf) (fun r3 t4 h => ?_)
  refine g_istore (lv' := [(4, .int r3), (3, shv ad r1), (0, .ref (ad 0)), (1, .int x1), (2, .int x2)]) F (dAt dk_X5_pinches 7 rfl) (by decide) (by cases r1 <;> rfl) ?_
  refine g_iload F (dAt dk_X5_pinches 8 rfl) 0 rfl ?_
  refine g_if_ne (tgt := 27) F (dAt dk_X5_pinches 9 rfl) (by decide) h (fun c5 h => ?_) (fun c5 h => ?_)
  · refine g_aload_n F (dAt dk_X5_pinches 15 rfl) 2 rfl ?_
    refine g_iload F (dAt dk_X5_pinches 16 rfl) 0 rfl ?_
    refine g_invV_ic F mi_X5_refuseBelowTen (gm mw_394 rfl) (dAt dk_X5_pinches 17 rfl) (rcx_of F rc_Main) [.int r3] rfl rfl (by decide) (Nat.le_of_ble_eq_true rfl) h (fun _ _ hf => c_X5_refuseBelowTen hJ hf) (fun r6 t7 h => ?_)
    cases h
    exact E (dAt dk_X5_pinches 18 rfl) rfl
  · refine g_aload_n F (dAt dk_X5_pinches 10 rfl) 2 rfl ?_
    refine g_aloadS_n F (dAt dk_X5_pinches 11 rfl) 1 rfl ?_
    refine g_iload_n F (dAt dk_X5_pinches 12 rfl) 4 rfl ?_
    refine g_nn h (fun k8 e hhk8 => ?_)
    subst e
    have h := hhk8
    refine g_lv (lv' := [(4, .int r3), (3, .ref (ad (oSh k8))), (0, .ref (ad 0)), (1, .int x1), (2, .int x2)]) rfl ?_
    refine g_st (st' := [.int x2, .ref (ad (oSh k8)), .ref (ad 0)]) rfl ?_
    refine g_invV_ic F mi_X5_firstWrongPinch (gm mw_745 rfl) (dAt dk_X5_pinches 13 rfl) (rcx_of F rc_Main) [.ref (ad (oSh k8)), .int x2] rfl rfl (by decide) (Nat.le_of_ble_eq_true rfl) h (fun _ _ hf => c_X5_firstWrongPinch hJ hf) (fun r9 t10 h => ?_)
    refine g_goto (tgt := 33) F (dAt dk_X5_pinches 14 rfl) (by decide) ?_
    cases h
    exact E (dAt dk_X5_pinches 18 rfl) rfl
theorem mi_X5_left : MI yX5_left cX5_left 5 (some .int) "MillOfDistances" 2 := ⟨(gm mw_754 rfl), (gm mw_752 rfl), (gm mw_753 rfl), (gm mw_69 rfl), by decide +kernel, by decide⟩
theorem c_X5_left {l : Launch} {D : va_G} {ad : Nat → Nat} {g : Gv} {t u : Mem} {n : Nat} {x1 : Int32} {x2 : Int32} {t' : Mem} {r : Int32} (hJ : Jad ad) (h : f_X5_left n x1 x2 t = some (r, t')) : ConI l yX5_left cX5_left 5 (some .int) 4 [.ref (ad 0), .int x1, .int x2] D ad g t u t' u r := by
  refine con_i hJ (by decide) (Nat.le_of_ble_eq_true rfl) rfl (fun X F E => ?_)
  have J32 : ∀ (v4 : Int32) (t0 : Mem), jn_X5_left_32 n x1 x2 v4 t0 = some (r, t') → G X D ad g t0 u [(0, .ref (ad 0)), (4, .int v4)] 32 [] := by
    intro v4 t0 h
    unfold jn_X5_left_32 at h
    refine g_iload F (dAt dk_X5_left 18 rfl) 1 rfl ?_
    refine g_if_ne (tgt := 47) F (dAt dk_X5_left 19 rfl) (by decide) h (fun c10 h => ?_) (fun c10 h => ?_)
    · refine g_aload_n F (dAt dk_X5_left 24 rfl) 0 rfl ?_
      refine g_iload F (dAt dk_X5_left 25 rfl) 1 rfl ?_
      refine g_invV_ic F mi_X5_refuse (gm mw_251 rfl) (dAt dk_X5_left 26 rfl) (rcx_of F rc_Main) [.int v4] rfl rfl (by decide) (Nat.le_of_ble_eq_true rfl) h (fun _ _ hf => c_X5_refuse hJ hf) (fun r11 t12 h => ?_)
      cases h
      exact E (dAt dk_X5_left 27 rfl) rfl
    · refine g_aload_n F (dAt dk_X5_left 20 rfl) 0 rfl ?_
      refine gg_Main_trial F (gm mw_213 rfl) (dAt dk_X5_left 21 rfl) ?_
      refine gg_Land_flour 1 F (gm mw_108 rfl) (dAt dk_X5_left 22 rfl) ?_
      refine g_goto (tgt := 53) F (dAt dk_X5_left 23 rfl) (by decide) ?_
      cases h
      exact E (dAt dk_X5_left 27 rfl) rfl
  refine g_lv (lv' := [(0, .ref (ad 0)), (1, .int x1), (2, .int x2)]) rfl ?_
  unfold f_X5_left at h
  refine g_aload_n F (dAt dk_X5_left 0 rfl) 0 rfl ?_
  refine g_iload_n F (dAt dk_X5_left 1 rfl) 1 rfl ?_
  refine g_invV_qc (jv ad) F mi_X5_shelfAt (gm mw_247 rfl) (dAt dk_X5_left 2 rfl) (rcx_of F rc_Main) [.int x1] rfl rfl (by decide) (Nat.le_of_ble_eq_true rfl) h (fun _ _ hf => c_X5_shelfAt hJ hf) (fun r1 t2 h => ?_)
  refine g_st (st' := [shv ad r1]) rfl ?_
  refine g_astoreS_n (lv' := [(3, shv ad r1), (0, .ref (ad 0)), (1, .int x1), (2, .int x2)]) F (dAt dk_X5_left 3 rfl) (by decide) rfl ?_
  refine g_aloadS_n F (dAt dk_X5_left 4 rfl) 0 rfl ?_
  refine g_iload_n F (dAt dk_X5_left 5 rfl) 3 rfl ?_
  refine g_invS_ic F ms_X5_pinchesProblem (gm mw_742 rfl) (dAt dk_X5_left 6 rfl) [shv ad r1, .int x2] rfl rfl (by decide) (Nat.le_of_ble_eq_true rfl) h (fun _ _ hf => c_X5_pinchesProblem hJ hf) (fun r3 t4 h => ?_)
  refine g_istore (lv' := [(4, .int r3), (3, shv ad r1), (0, .ref (ad 0)), (1, .int x1), (2, .int x2)]) F (dAt dk_X5_left 7 rfl) (by decide) (by cases r1 <;> rfl) ?_
  refine g_iload F (dAt dk_X5_left 8 rfl) 0 rfl ?_
  refine g_if_ne (tgt := 32) F (dAt dk_X5_left 9 rfl) (by decide) h (fun c5 h => ?_) (fun c5 h => ?_)
  · refine g_sub (lv' := [(0, .ref (ad 0)), (4, .int r3)]) [2, 0] rfl ?_
    exact J32  r3 t4 h
  · refine g_aload_n F (dAt dk_X5_left 10 rfl) 2 rfl ?_
    refine g_aloadS_n F (dAt dk_X5_left 11 rfl) 1 rfl ?_
    refine g_iload_n F (dAt dk_X5_left 12 rfl) 4 rfl ?_
    refine g_nn h (fun k6 e hhk6 => ?_)
    subst e
    have h := hhk6
    refine g_lv (lv' := [(4, .int r3), (3, .ref (ad (oSh k6))), (0, .ref (ad 0)), (1, .int x1), (2, .int x2)]) rfl ?_
    refine g_st (st' := [.int x2, .ref (ad (oSh k6)), .ref (ad 0)]) rfl ?_
    refine g_invV_ic F mi_X5_firstWrongPinch (gm mw_745 rfl) (dAt dk_X5_left 13 rfl) (rcx_of F rc_Main) [.ref (ad (oSh k6)), .int x2] rfl rfl (by decide) (Nat.le_of_ble_eq_true rfl) h (fun _ _ hf => c_X5_firstWrongPinch hJ hf) (fun r7 t8 h => ?_)
    refine g_iconst (v := (-1)) F (dAt dk_X5_left 14 rfl) (by decide) ?_
    refine g_icmp_eq (tgt := 32) F (dAt dk_X5_left 15 rfl) (by decide) h (fun c9 h => ?_) (fun c9 h => ?_)
    · refine g_sub (lv' := [(0, .ref (ad 0)), (4, .int r3)]) [2, 0] rfl ?_
      exact J32  r3 t8 h
    · refine g_bipush (v := (-6)) F (dAt dk_X5_left 16 rfl) (by decide) ?_
      refine g_istore (lv' := [(4, .int (-6)), (3, .ref (ad (oSh k6))), (0, .ref (ad 0)), (1, .int x1), (2, .int x2)]) F (dAt dk_X5_left 17 rfl) (by decide) rfl ?_
      refine g_sub (lv' := [(0, .ref (ad 0)), (4, .int (-6))]) [2, 0] rfl ?_
      exact J32  (-6) t8 h
theorem mi_X5_done : MI yX5_done cX5_done 5 (some .int) "MillOfDistances" 2 := ⟨(gm mw_758 rfl), (gm mw_756 rfl), (gm mw_757 rfl), (gm mw_69 rfl), by decide +kernel, by decide⟩
theorem c_X5_done {l : Launch} {D : va_G} {ad : Nat → Nat} {g : Gv} {t u : Mem} {n : Nat} {x1 : Int32} {x2 : Int32} {t' : Mem} {r : Int32} (hJ : Jad ad) (h : f_X5_done n x1 x2 t = some (r, t')) : ConI l yX5_done cX5_done 5 (some .int) 4 [.ref (ad 0), .int x1, .int x2] D ad g t u t' u r := by
  refine con_i hJ (by decide) (Nat.le_of_ble_eq_true rfl) rfl (fun X F E => ?_)
  have J32 : ∀ (v4 : Int32) (t0 : Mem), jn_X5_done_32 n x1 x2 v4 t0 = some (r, t') → G X D ad g t0 u [(0, .ref (ad 0)), (4, .int v4)] 32 [] := by
    intro v4 t0 h
    unfold jn_X5_done_32 at h
    refine g_iload F (dAt dk_X5_done 18 rfl) 1 rfl ?_
    refine g_if_eq (tgt := 44) F (dAt dk_X5_done 19 rfl) (by decide) h (fun c10 h => ?_) (fun c10 h => ?_)
    · refine g_aload_n F (dAt dk_X5_done 24 rfl) 0 rfl ?_
      refine gg_Main_land F (gm mw_212 rfl) (dAt dk_X5_done 25 rfl) ?_
      refine g_aload_n F (dAt dk_X5_done 26 rfl) 0 rfl ?_
      refine gg_Main_trial F (gm mw_213 rfl) (dAt dk_X5_done 27 rfl) ?_
      refine g_invV_vc F mi_X1_becomeAs (gm mw_407 rfl) (dAt dk_X5_done 28 rfl) (rcx_of F (rc_Land 0)) [.ref (ad (oLd 1))] rfl rfl (by decide) (Nat.le_of_ble_eq_true rfl) h (fun _ _ hf => c_X1_becomeAs hJ hf) (fun _ t11 h => ?_)
      refine g_aload_n F (dAt dk_X5_done 29 rfl) 0 rfl ?_
      refine gg_Main_land F (gm mw_212 rfl) (dAt dk_X5_done 30 rfl) ?_
      refine gg_Land_flour 0 F (gm mw_108 rfl) (dAt dk_X5_done 31 rfl) ?_
      cases h
      exact E (dAt dk_X5_done 32 rfl) rfl
    · refine g_aload_n F (dAt dk_X5_done 20 rfl) 0 rfl ?_
      refine g_iload F (dAt dk_X5_done 21 rfl) 1 rfl ?_
      refine g_invV_ic F mi_X5_refuse (gm mw_251 rfl) (dAt dk_X5_done 22 rfl) (rcx_of F rc_Main) [.int v4] rfl rfl (by decide) (Nat.le_of_ble_eq_true rfl) h (fun _ _ hf => c_X5_refuse hJ hf) (fun r12 t13 h => ?_)
      cases h
      exact E (dAt dk_X5_done 23 rfl) rfl
  refine g_lv (lv' := [(0, .ref (ad 0)), (1, .int x1), (2, .int x2)]) rfl ?_
  unfold f_X5_done at h
  refine g_aload_n F (dAt dk_X5_done 0 rfl) 0 rfl ?_
  refine g_iload_n F (dAt dk_X5_done 1 rfl) 1 rfl ?_
  refine g_invV_qc (jv ad) F mi_X5_shelfAt (gm mw_247 rfl) (dAt dk_X5_done 2 rfl) (rcx_of F rc_Main) [.int x1] rfl rfl (by decide) (Nat.le_of_ble_eq_true rfl) h (fun _ _ hf => c_X5_shelfAt hJ hf) (fun r1 t2 h => ?_)
  refine g_st (st' := [shv ad r1]) rfl ?_
  refine g_astoreS_n (lv' := [(3, shv ad r1), (0, .ref (ad 0)), (1, .int x1), (2, .int x2)]) F (dAt dk_X5_done 3 rfl) (by decide) rfl ?_
  refine g_aloadS_n F (dAt dk_X5_done 4 rfl) 0 rfl ?_
  refine g_iload_n F (dAt dk_X5_done 5 rfl) 3 rfl ?_
  refine g_invS_ic F ms_X5_pinchesProblem (gm mw_742 rfl) (dAt dk_X5_done 6 rfl) [shv ad r1, .int x2] rfl rfl (by decide) (Nat.le_of_ble_eq_true rfl) h (fun _ _ hf => c_X5_pinchesProblem hJ hf) (fun r3 t4 h => ?_)
  refine g_istore (lv' := [(4, .int r3), (3, shv ad r1), (0, .ref (ad 0)), (1, .int x1), (2, .int x2)]) F (dAt dk_X5_done 7 rfl) (by decide) (by cases r1 <;> rfl) ?_
  refine g_iload F (dAt dk_X5_done 8 rfl) 0 rfl ?_
  refine g_if_ne (tgt := 32) F (dAt dk_X5_done 9 rfl) (by decide) h (fun c5 h => ?_) (fun c5 h => ?_)
  · refine g_sub (lv' := [(0, .ref (ad 0)), (4, .int r3)]) [2, 0] rfl ?_
    exact J32  r3 t4 h
  · refine g_aload_n F (dAt dk_X5_done 10 rfl) 2 rfl ?_
    refine g_aloadS_n F (dAt dk_X5_done 11 rfl) 1 rfl ?_
    refine g_iload_n F (dAt dk_X5_done 12 rfl) 4 rfl ?_
    refine g_nn h (fun k6 e hhk6 => ?_)
    subst e
    have h := hhk6
    refine g_lv (lv' := [(4, .int r3), (3, .ref (ad (oSh k6))), (0, .ref (ad 0)), (1, .int x1), (2, .int x2)]) rfl ?_
    refine g_st (st' := [.int x2, .ref (ad (oSh k6)), .ref (ad 0)]) rfl ?_
    refine g_invV_ic F mi_X5_firstWrongPinch (gm mw_745 rfl) (dAt dk_X5_done 13 rfl) (rcx_of F rc_Main) [.ref (ad (oSh k6)), .int x2] rfl rfl (by decide) (Nat.le_of_ble_eq_true rfl) h (fun _ _ hf => c_X5_firstWrongPinch hJ hf) (fun r7 t8 h => ?_)
    refine g_iconst (v := (-1)) F (dAt dk_X5_done 14 rfl) (by decide) ?_
    refine g_icmp_eq (tgt := 32) F (dAt dk_X5_done 15 rfl) (by decide) h (fun c9 h => ?_) (fun c9 h => ?_)
    · refine g_sub (lv' := [(0, .ref (ad 0)), (4, .int r3)]) [2, 0] rfl ?_
      exact J32  r3 t8 h
    · refine g_bipush (v := (-6)) F (dAt dk_X5_done 16 rfl) (by decide) ?_
      refine g_istore (lv' := [(4, .int (-6)), (3, .ref (ad (oSh k6))), (0, .ref (ad 0)), (1, .int x1), (2, .int x2)]) F (dAt dk_X5_done 17 rfl) (by decide) rfl ?_
      refine g_sub (lv' := [(0, .ref (ad 0)), (4, .int (-6))]) [2, 0] rfl ?_
      exact J32  (-6) t8 h
theorem mi_X5_isTheft : MI yX5_isTheft cX5_isTheft 10 (some .boolean) "MillOfDistances" 4 := ⟨(gm mw_770 rfl), (gm mw_769 rfl), (gm mw_23 rfl), (gm mw_69 rfl), by decide +kernel, by decide⟩
theorem c_X5_isTheft {l : Launch} {D : va_G} {ad : Nat → Nat} {g : Gv} {t u : Mem} {n : Nat} {x1 : Fin 8} {x2 : Int32} {x3 : Int32} {x4 : Int32} {t' : Mem} {r : Int32} (hJ : Jad ad) (h : f_X5_isTheft n x1 x2 x3 x4 t = some (r, t')) : ConI l yX5_isTheft cX5_isTheft 10 (some .boolean) 3 [.ref (ad 0), .ref (ad (oSh x1)), .int x2, .int x3, .int x4] D ad g t u t' u r := by
  refine con_i hJ (by decide) (Nat.le_of_ble_eq_true rfl) rfl (fun X F E => ?_)
  have J123 : ∀ (self25 : Int32 × Int32 × Mem → Option (Int32 × Mem)), (∀ s, self25 s = some (r, t') → G X D ad g s.2.2 u [(0, .ref (ad 0)), (1, .ref (ad (oSh x1))), (2, .int x2), (3, .int x3), (5, .int s.1), (6, .int s.2.1)] 25 []) → ∀ (self43 : Int32 × Int32 × Int32 × Mem → Option (Int32 × Mem)), (∀ s, self43 s = some (r, t') → G X D ad g s.2.2.2 u [(0, .ref (ad 0)), (1, .ref (ad (oSh x1))), (2, .int x2), (3, .int x3), (5, .int s.1), (6, .int s.2.1), (7, .int s.2.2.1)] 43 []) → ∀ (v5 : Int32) (v6 : Int32) (v7 : Int32) (w0 : Int32) (w1 : Int32) (t0 : Mem), jn_X5_isTheft_123 n x1 x2 x3 x4 self25 self43 v5 v6 v7 w0 w1 t0 = some (r, t') → G X D ad g t0 u [(0, .ref (ad 0)), (1, .ref (ad (oSh x1))), (2, .int x2), (3, .int x3), (5, .int v5), (6, .int v6), (7, .int v7)] 123 [.int w0, .int w1] := by
    intro self25 ih25 self43 ih43 v5 v6 v7 w0 w1 t0 h
    unfold jn_X5_isTheft_123 at h
    refine g_icmp_eq (tgt := 128) F (dAt dk_X5_isTheft 61 rfl) (by decide) h (fun c15 h => ?_) (fun c15 h => ?_)
    · refine g_iinc (lv' := [(7, .int (v7 + 1)), (0, .ref (ad 0)), (1, .ref (ad (oSh x1))), (2, .int x2), (3, .int x3), (5, .int v5), (6, .int v6)]) F (dAt dk_X5_isTheft 64 rfl) 6 rfl (w := 1) (by decide) (by decide) rfl ?_
      refine g_goto (tgt := 43) F (dAt dk_X5_isTheft 65 rfl) (by decide) ?_
      refine g_sub (lv' := [(0, .ref (ad 0)), (1, .ref (ad (oSh x1))), (2, .int x2), (3, .int x3), (5, .int v5), (6, .int v6), (7, .int (v7 + 1))]) [1, 2, 3, 4, 5, 6, 0] rfl ?_
      exact ih43 (v5, v6, (v7 + 1), t0) h
    · refine g_iconst (v := 0) F (dAt dk_X5_isTheft 62 rfl) (by decide) ?_
      cases h
      exact E (dAt dk_X5_isTheft 63 rfl) rfl
  have H43 : ∀ (self25 : Int32 × Int32 × Mem → Option (Int32 × Mem)), (∀ s, self25 s = some (r, t') → G X D ad g s.2.2 u [(0, .ref (ad 0)), (1, .ref (ad (oSh x1))), (2, .int x2), (3, .int x3), (5, .int s.1), (6, .int s.2.1)] 25 []) → ∀ (k : Nat) (s : Int32 × Int32 × Int32 × Mem), iter (bd_X5_isTheft_43 n x1 x2 x3 x4 self25) k s = some (r, t') → G X D ad g s.2.2.2 u [(0, .ref (ad 0)), (1, .ref (ad (oSh x1))), (2, .int x2), (3, .int x3), (5, .int s.1), (6, .int s.2.1), (7, .int s.2.2.1)] 43 [] := by
    intro self25 ih25
    refine iter_walk (P := fun (s : Int32 × Int32 × Int32 × Mem) => G X D ad g s.2.2.2 u [(0, .ref (ad 0)), (1, .ref (ad (oSh x1))), (2, .int x2), (3, .int x3), (5, .int s.1), (6, .int s.2.1), (7, .int s.2.2.1)] 43 []) (fun self43 ih43 s h => ?_)
    obtain ⟨v5, v6, v7, t0⟩ := s
    change G X D ad g t0 u [(0, .ref (ad 0)), (1, .ref (ad (oSh x1))), (2, .int x2), (3, .int x3), (5, .int v5), (6, .int v6), (7, .int v7)] 43 []
    unfold bd_X5_isTheft_43 at h; try dsimp only at h
    refine g_iload F (dAt dk_X5_isTheft 24 rfl) 6 rfl ?_
    refine g_aload_n F (dAt dk_X5_isTheft 25 rfl) 0 rfl ?_
    refine gg_Main_land F (gm mw_212 rfl) (dAt dk_X5_isTheft 26 rfl) ?_
    refine gg_Land_count 0 F (gm mw_105 rfl) (dAt dk_X5_isTheft 27 rfl) ?_
    refine g_icmp_ge (tgt := 134) F (dAt dk_X5_isTheft 28 rfl) (by decide) h (fun c5 h => ?_) (fun c5 h => ?_)
    · refine g_iinc (lv' := [(6, .int (v6 + 1)), (0, .ref (ad 0)), (1, .ref (ad (oSh x1))), (2, .int x2), (3, .int x3), (5, .int v5), (7, .int v7)]) F (dAt dk_X5_isTheft 66 rfl) 5 rfl (w := 1) (by decide) (by decide) rfl ?_
      refine g_goto (tgt := 25) F (dAt dk_X5_isTheft 67 rfl) (by decide) ?_
      refine g_sub (lv' := [(0, .ref (ad 0)), (1, .ref (ad (oSh x1))), (2, .int x2), (3, .int x3), (5, .int v5), (6, .int (v6 + 1))]) [1, 2, 3, 4, 5, 0] rfl ?_
      exact ih25 (v5, (v6 + 1), t0) h
    · refine g_aload_n F (dAt dk_X5_isTheft 29 rfl) 0 rfl ?_
      refine gg_Main_now F (gm mw_215 rfl) (dAt dk_X5_isTheft 30 rfl) ?_
      refine g_iload F (dAt dk_X5_isTheft 31 rfl) 5 rfl ?_
      refine g_iload F (dAt dk_X5_isTheft 32 rfl) 6 rfl ?_
      refine g_invV_ic F mi_X2_length (gm mw_668 rfl) (dAt dk_X5_isTheft 33 rfl) (rcx_of F (rc_Len 0)) [.int v6, .int v7] rfl rfl (by decide) (Nat.le_of_ble_eq_true rfl) h (fun _ _ hf => c_X2_length hJ hf) (fun r6 t7 h => ?_)
      refine g_iload F (dAt dk_X5_isTheft 34 rfl) 4 rfl ?_
      refine g_aload_n F (dAt dk_X5_isTheft 35 rfl) 0 rfl ?_
      refine gg_Main_now F (gm mw_215 rfl) (dAt dk_X5_isTheft 36 rfl) ?_
      refine g_iload F (dAt dk_X5_isTheft 37 rfl) 5 rfl ?_
      refine g_iload F (dAt dk_X5_isTheft 38 rfl) 6 rfl ?_
      refine g_iload_n F (dAt dk_X5_isTheft 39 rfl) 2 rfl ?_
      refine g_iload_n F (dAt dk_X5_isTheft 40 rfl) 3 rfl ?_
      refine g_invV_ic F mi_X2_lengthBeside (gm mw_673 rfl) (dAt dk_X5_isTheft 41 rfl) (rcx_of F (rc_Len 0)) [.int v6, .int v7, .int x2, .int x3] rfl rfl (by decide) (Nat.le_of_ble_eq_true rfl) h (fun _ _ hf => c_X2_lengthBeside hJ hf) (fun r8 t9 h => ?_)
      refine g_iadd F (dAt dk_X5_isTheft 42 rfl) ?_
      refine g_mmin F (gm mw_727 rfl) (dAt dk_X5_isTheft 43 rfl) (by decide) (Nat.le_of_ble_eq_true rfl) h (fun r10 h => ?_)
      refine g_istore (lv' := [(8, .int r10), (0, .ref (ad 0)), (1, .ref (ad (oSh x1))), (2, .int x2), (3, .int x3), (5, .int v5), (6, .int v6), (7, .int v7)]) F (dAt dk_X5_isTheft 44 rfl) (by decide) rfl ?_
      refine g_aload_n F (dAt dk_X5_isTheft 45 rfl) 2 rfl ?_
      refine g_iload F (dAt dk_X5_isTheft 46 rfl) 6 rfl ?_
      refine g_iload F (dAt dk_X5_isTheft 47 rfl) 7 rfl ?_
      refine g_aload_n F (dAt dk_X5_isTheft 48 rfl) 1 rfl ?_
      refine gg_Main_land F (gm mw_212 rfl) (dAt dk_X5_isTheft 49 rfl) ?_
      refine gg_Land_count 0 F (gm mw_105 rfl) (dAt dk_X5_isTheft 50 rfl) ?_
      refine g_invS_ip F ms_X5_pairOf (gm mw_724 rfl) (dAt dk_X5_isTheft 51 rfl) [.int v6, .int v7, .int (t9.1 (oLd 0) 3)] rfl rfl (by decide) (Nat.le_of_ble_eq_true rfl) h (fun _ hf => c_X5_pairOf hJ hf) (fun r11 h => ?_)
      refine g_invV_ic F mi_X4_asInt (gm mw_693 rfl) (dAt dk_X5_isTheft 52 rfl) (rcx_of F (rc_Shelf x1)) [.int r11] rfl rfl (by decide) (Nat.le_of_ble_eq_true rfl) h (fun _ _ hf => c_X4_asInt hJ hf) (fun r12 t13 h => ?_)
      refine g_istore (lv' := [(9, .int r12), (8, .int r10), (0, .ref (ad 0)), (1, .ref (ad (oSh x1))), (2, .int x2), (3, .int x3), (5, .int v5), (6, .int v6), (7, .int v7)]) F (dAt dk_X5_isTheft 53 rfl) (by decide) rfl ?_
      refine g_iload F (dAt dk_X5_isTheft 54 rfl) 0 rfl ?_
      refine g_iload F (dAt dk_X5_isTheft 55 rfl) 1 rfl ?_
      refine g_sipush (v := 10000) F (dAt dk_X5_isTheft 56 rfl) (by decide) ?_
      refine g_icmp_ge (tgt := 122) F (dAt dk_X5_isTheft 57 rfl) (by decide) h (fun c14 h => ?_) (fun c14 h => ?_)
      · refine g_iconst (v := (-1)) F (dAt dk_X5_isTheft 60 rfl) (by decide) ?_
        refine g_sub (lv' := [(0, .ref (ad 0)), (1, .ref (ad (oSh x1))), (2, .int x2), (3, .int x3), (5, .int v5), (6, .int v6), (7, .int v7)]) [2, 3, 4, 5, 6, 7, 8] rfl ?_
        exact J123 self25 ih25 self43 ih43 v5 v6 v7 (-1) r12 t13 h
      · refine g_iload F (dAt dk_X5_isTheft 58 rfl) 1 rfl ?_
        refine g_goto (tgt := 123) F (dAt dk_X5_isTheft 59 rfl) (by decide) ?_
        refine g_sub (lv' := [(0, .ref (ad 0)), (1, .ref (ad (oSh x1))), (2, .int x2), (3, .int x3), (5, .int v5), (6, .int v6), (7, .int v7)]) [2, 3, 4, 5, 6, 7, 8] rfl ?_
        exact J123 self25 ih25 self43 ih43 v5 v6 v7 r10 r12 t13 h
  have H25 : ∀ (k : Nat) (s : Int32 × Int32 × Mem), iter (bd_X5_isTheft_25 n x1 x2 x3 x4) k s = some (r, t') → G X D ad g s.2.2 u [(0, .ref (ad 0)), (1, .ref (ad (oSh x1))), (2, .int x2), (3, .int x3), (5, .int s.1), (6, .int s.2.1)] 25 [] := by
    refine iter_walk (P := fun (s : Int32 × Int32 × Mem) => G X D ad g s.2.2 u [(0, .ref (ad 0)), (1, .ref (ad (oSh x1))), (2, .int x2), (3, .int x3), (5, .int s.1), (6, .int s.2.1)] 25 []) (fun self25 ih25 s h => ?_)
    obtain ⟨v5, v6, t0⟩ := s
    change G X D ad g t0 u [(0, .ref (ad 0)), (1, .ref (ad (oSh x1))), (2, .int x2), (3, .int x3), (5, .int v5), (6, .int v6)] 25 []
    unfold bd_X5_isTheft_25 at h; try dsimp only at h
    refine g_iload F (dAt dk_X5_isTheft 15 rfl) 5 rfl ?_
    refine g_aload_n F (dAt dk_X5_isTheft 16 rfl) 0 rfl ?_
    refine gg_Main_land F (gm mw_212 rfl) (dAt dk_X5_isTheft 17 rfl) ?_
    refine gg_Land_count 0 F (gm mw_105 rfl) (dAt dk_X5_isTheft 18 rfl) ?_
    refine g_icmp_ge (tgt := 140) F (dAt dk_X5_isTheft 19 rfl) (by decide) h (fun c4 h => ?_) (fun c4 h => ?_)
    · refine g_iconst (v := 1) F (dAt dk_X5_isTheft 68 rfl) (by decide) ?_
      cases h
      exact E (dAt dk_X5_isTheft 69 rfl) rfl
    · refine g_iload F (dAt dk_X5_isTheft 20 rfl) 5 rfl ?_
      refine g_iconst (v := 1) F (dAt dk_X5_isTheft 21 rfl) (by decide) ?_
      refine g_iadd F (dAt dk_X5_isTheft 22 rfl) ?_
      refine g_istore (lv' := [(7, .int (v6 + 1)), (0, .ref (ad 0)), (1, .ref (ad (oSh x1))), (2, .int x2), (3, .int x3), (5, .int v5), (6, .int v6)]) F (dAt dk_X5_isTheft 23 rfl) (by decide) rfl ?_
      refine g_sub (lv' := [(0, .ref (ad 0)), (1, .ref (ad (oSh x1))), (2, .int x2), (3, .int x3), (5, .int v5), (6, .int v6), (7, .int (v6 + 1))]) [1, 2, 3, 4, 5, 6, 0] rfl ?_
      exact H43 self25 ih25 n (v5, v6, (v6 + 1), t0) h
  refine g_lv (lv' := [(0, .ref (ad 0)), (1, .ref (ad (oSh x1))), (2, .int x2), (3, .int x3), (4, .int x4)]) rfl ?_
  unfold f_X5_isTheft at h
  refine g_aload_n F (dAt dk_X5_isTheft 0 rfl) 0 rfl ?_
  refine gg_Main_land F (gm mw_212 rfl) (dAt dk_X5_isTheft 1 rfl) ?_
  refine g_iload_n F (dAt dk_X5_isTheft 2 rfl) 2 rfl ?_
  refine g_iload_n F (dAt dk_X5_isTheft 3 rfl) 3 rfl ?_
  refine g_invV_ic F mi_X1_between (gm mw_384 rfl) (dAt dk_X5_isTheft 4 rfl) (rcx_of F (rc_Land 0)) [.int x2, .int x3] rfl rfl (by decide) (Nat.le_of_ble_eq_true rfl) h (fun _ _ hf => c_X1_between hJ hf) (fun r1 t2 h => ?_)
  refine g_iload F (dAt dk_X5_isTheft 5 rfl) 4 rfl ?_
  refine g_isub F (dAt dk_X5_isTheft 6 rfl) ?_
  refine g_istore (lv' := [(5, .int (r1 - x4)), (0, .ref (ad 0)), (1, .ref (ad (oSh x1))), (2, .int x2), (3, .int x3), (4, .int x4)]) F (dAt dk_X5_isTheft 7 rfl) (by decide) rfl ?_
  refine g_iload F (dAt dk_X5_isTheft 8 rfl) 0 rfl ?_
  refine g_iconst (v := 1) F (dAt dk_X5_isTheft 9 rfl) (by decide) ?_
  refine g_icmp_ge (tgt := 22) F (dAt dk_X5_isTheft 10 rfl) (by decide) h (fun c3 h => ?_) (fun c3 h => ?_)
  · refine g_iconst (v := 0) F (dAt dk_X5_isTheft 13 rfl) (by decide) ?_
    refine g_istore (lv' := [(6, .int 0), (5, .int (r1 - x4)), (0, .ref (ad 0)), (1, .ref (ad (oSh x1))), (2, .int x2), (3, .int x3), (4, .int x4)]) F (dAt dk_X5_isTheft 14 rfl) (by decide) rfl ?_
    refine g_sub (lv' := [(0, .ref (ad 0)), (1, .ref (ad (oSh x1))), (2, .int x2), (3, .int x3), (5, .int (r1 - x4)), (6, .int 0)]) [2, 3, 4, 5, 1, 0] rfl ?_
    exact H25  n ((r1 - x4), 0, t2) h
  · refine g_iconst (v := 0) F (dAt dk_X5_isTheft 11 rfl) (by decide) ?_
    cases h
    exact E (dAt dk_X5_isTheft 12 rfl) rfl
theorem mi_X5_stolenOn : MI yX5_stolenOn cX5_stolenOn 6 (some .int) "MillOfDistances" 3 := ⟨(gm mw_766 rfl), (gm mw_765 rfl), (gm mw_22 rfl), (gm mw_69 rfl), by decide +kernel, by decide⟩
theorem c_X5_stolenOn {l : Launch} {D : va_G} {ad : Nat → Nat} {g : Gv} {t u : Mem} {n : Nat} {x1 : Fin 8} {x2 : Int32} {x3 : Int32} {t' : Mem} {r : Int32} (hJ : Jad ad) (h : f_X5_stolenOn n x1 x2 x3 t = some (r, t')) : ConI l yX5_stolenOn cX5_stolenOn 6 (some .int) 4 [.ref (ad 0), .ref (ad (oSh x1)), .int x2, .int x3] D ad g t u t' u r := by
  refine con_i hJ (by decide) (Nat.le_of_ble_eq_true rfl) rfl (fun X F E => ?_)
  refine g_lv (lv' := [(0, .ref (ad 0)), (1, .ref (ad (oSh x1))), (2, .int x2), (3, .int x3)]) rfl ?_
  unfold f_X5_stolenOn at h
  refine g_aload_n F (dAt dk_X5_stolenOn 0 rfl) 0 rfl ?_
  refine g_aload_n F (dAt dk_X5_stolenOn 1 rfl) 1 rfl ?_
  refine g_iload_n F (dAt dk_X5_stolenOn 2 rfl) 2 rfl ?_
  refine g_iload_n F (dAt dk_X5_stolenOn 3 rfl) 3 rfl ?_
  refine g_iconst (v := 1) F (dAt dk_X5_stolenOn 4 rfl) (by decide) ?_
  refine g_invV_ic F mi_X5_isTheft (gm mw_767 rfl) (dAt dk_X5_stolenOn 5 rfl) (rcx_of F rc_Main) [.ref (ad (oSh x1)), .int x2, .int x3, .int 1] rfl rfl (by decide) (Nat.le_of_ble_eq_true rfl) h (fun _ _ hf => c_X5_isTheft hJ hf) (fun r1 t2 h => ?_)
  refine g_if_eq (tgt := 13) F (dAt dk_X5_stolenOn 6 rfl) (by decide) h (fun c3 h => ?_) (fun c3 h => ?_)
  · refine g_aload_n F (dAt dk_X5_stolenOn 9 rfl) 0 rfl ?_
    refine gg_Main_land F (gm mw_212 rfl) (dAt dk_X5_stolenOn 10 rfl) ?_
    refine g_iload_n F (dAt dk_X5_stolenOn 11 rfl) 2 rfl ?_
    refine g_iload_n F (dAt dk_X5_stolenOn 12 rfl) 3 rfl ?_
    refine g_invV_ic F mi_X1_between (gm mw_384 rfl) (dAt dk_X5_stolenOn 13 rfl) (rcx_of F (rc_Land 0)) [.int x2, .int x3] rfl rfl (by decide) (Nat.le_of_ble_eq_true rfl) h (fun _ _ hf => c_X1_between hJ hf) (fun r4 t5 h => ?_)
    refine g_i2l F (dAt dk_X5_stolenOn 14 rfl) ?_
    refine g_aload_n F (dAt dk_X5_stolenOn 15 rfl) 1 rfl ?_
    refine g_iload_n F (dAt dk_X5_stolenOn 16 rfl) 2 rfl ?_
    refine g_iload_n F (dAt dk_X5_stolenOn 17 rfl) 3 rfl ?_
    refine g_aload_n F (dAt dk_X5_stolenOn 18 rfl) 0 rfl ?_
    refine gg_Main_land F (gm mw_212 rfl) (dAt dk_X5_stolenOn 19 rfl) ?_
    refine gg_Land_count 0 F (gm mw_105 rfl) (dAt dk_X5_stolenOn 20 rfl) ?_
    refine g_invS_ip F ms_X5_pairOf (gm mw_724 rfl) (dAt dk_X5_stolenOn 21 rfl) [.int x2, .int x3, .int (t5.1 (oLd 0) 3)] rfl rfl (by decide) (Nat.le_of_ble_eq_true rfl) h (fun _ hf => c_X5_pairOf hJ hf) (fun r6 h => ?_)
    refine g_invV_ic F mi_X4_asInt (gm mw_693 rfl) (dAt dk_X5_stolenOn 22 rfl) (rcx_of F (rc_Shelf x1)) [.int r6] rfl rfl (by decide) (Nat.le_of_ble_eq_true rfl) h (fun _ _ hf => c_X4_asInt hJ hf) (fun r7 t8 h => ?_)
    refine g_i2l F (dAt dk_X5_stolenOn 23 rfl) ?_
    refine g_lsub F (dAt dk_X5_stolenOn 24 rfl) ?_
    refine g_lstore (lv' := [(4, .long (r4.toInt64 - r7.toInt64)), (0, .ref (ad 0)), (1, .ref (ad (oSh x1))), (2, .int x2), (3, .int x3)]) F (dAt dk_X5_stolenOn 25 rfl) (by decide) rfl ?_
    refine g_lload F (dAt dk_X5_stolenOn 26 rfl) 0 rfl ?_
    refine g_lconst (v := 1) F (dAt dk_X5_stolenOn 27 rfl) (by decide) ?_
    refine g_lcmp F (dAt dk_X5_stolenOn 28 rfl) ?_
    refine g_if_lt (tgt := 78) F (dAt dk_X5_stolenOn 29 rfl) (by decide) h (fun c9 h => ?_) (fun c9 h => ?_)
    · refine g_iconst (v := 0) F (dAt dk_X5_stolenOn 45 rfl) (by decide) ?_
      cases h
      exact E (dAt dk_X5_stolenOn 46 rfl) rfl
    · refine g_lload F (dAt dk_X5_stolenOn 30 rfl) 0 rfl ?_
      refine g_ldc2 (v := 99) F (dAt dk_X5_stolenOn 31 rfl) (gm mw_771 rfl) ?_
      refine g_lcmp F (dAt dk_X5_stolenOn 32 rfl) ?_
      refine g_if_gt (tgt := 78) F (dAt dk_X5_stolenOn 33 rfl) (by decide) h (fun c10 h => ?_) (fun c10 h => ?_)
      · refine g_iconst (v := 0) F (dAt dk_X5_stolenOn 45 rfl) (by decide) ?_
        cases h
        exact E (dAt dk_X5_stolenOn 46 rfl) rfl
      · refine g_aload_n F (dAt dk_X5_stolenOn 34 rfl) 1 rfl ?_
        refine g_aload_n F (dAt dk_X5_stolenOn 35 rfl) 2 rfl ?_
        refine g_iload_n F (dAt dk_X5_stolenOn 36 rfl) 3 rfl ?_
        refine g_iload_n F (dAt dk_X5_stolenOn 37 rfl) 4 rfl ?_
        refine g_lload F (dAt dk_X5_stolenOn 38 rfl) 0 rfl ?_
        refine g_l2i F (dAt dk_X5_stolenOn 39 rfl) ?_
        refine g_invV_ic F mi_X5_isTheft (gm mw_767 rfl) (dAt dk_X5_stolenOn 40 rfl) (rcx_of F rc_Main) [.ref (ad (oSh x1)), .int x2, .int x3, .int ((r4.toInt64 - r7.toInt64).toInt32)] rfl rfl (by decide) (Nat.le_of_ble_eq_true rfl) h (fun _ _ hf => c_X5_isTheft hJ hf) (fun r11 t12 h => ?_)
        refine g_if_eq (tgt := 78) F (dAt dk_X5_stolenOn 41 rfl) (by decide) h (fun c13 h => ?_) (fun c13 h => ?_)
        · refine g_iconst (v := 0) F (dAt dk_X5_stolenOn 45 rfl) (by decide) ?_
          cases h
          exact E (dAt dk_X5_stolenOn 46 rfl) rfl
        · refine g_lload F (dAt dk_X5_stolenOn 42 rfl) 0 rfl ?_
          refine g_l2i F (dAt dk_X5_stolenOn 43 rfl) ?_
          refine g_goto (tgt := 79) F (dAt dk_X5_stolenOn 44 rfl) (by decide) ?_
          cases h
          exact E (dAt dk_X5_stolenOn 46 rfl) rfl
  · refine g_iconst (v := 1) F (dAt dk_X5_stolenOn 7 rfl) (by decide) ?_
    cases h
    exact E (dAt dk_X5_stolenOn 8 rfl) rfl
theorem mi_X5_theft : MI yX5_theft cX5_theft 10 (some .int) "MillOfDistances" 2 := ⟨(gm mw_762 rfl), (gm mw_760 rfl), (gm mw_761 rfl), (gm mw_69 rfl), by decide +kernel, by decide⟩
theorem c_X5_theft {l : Launch} {D : va_G} {ad : Nat → Nat} {g : Gv} {t u : Mem} {n : Nat} {x1 : Int32} {x2 : Int32} {t' : Mem} {r : Int32} (hJ : Jad ad) (h : f_X5_theft n x1 x2 t = some (r, t')) : ConI l yX5_theft cX5_theft 10 (some .int) 5 [.ref (ad 0), .int x1, .int x2] D ad g t u t' u r := by
  refine con_i hJ (by decide) (Nat.le_of_ble_eq_true rfl) rfl (fun X F E => ?_)
  have H81 : ∀ (self63 : (Option (Fin 8)) × Int32 × Int32 × Int32 × Mem → Option (Int32 × Mem)), (∀ s, self63 s = some (r, t') → G X D ad g s.2.2.2.2 u [(0, .ref (ad 0)), (2, .int x2), (3, shv ad s.1), (5, .int s.2.1), (6, .int s.2.2.1), (7, .int s.2.2.2.1)] 63 []) → ∀ (k : Nat) (s : (Option (Fin 8)) × Int32 × Int32 × Int32 × Int32 × Mem), iter (bd_X5_theft_81 n x1 x2 self63) k s = some (r, t') → G X D ad g s.2.2.2.2.2 u [(0, .ref (ad 0)), (2, .int x2), (3, shv ad s.1), (5, .int s.2.1), (6, .int s.2.2.1), (7, .int s.2.2.2.1), (8, .int s.2.2.2.2.1)] 81 [] := by
    intro self63 ih63
    refine iter_walk (P := fun (s : (Option (Fin 8)) × Int32 × Int32 × Int32 × Int32 × Mem) => G X D ad g s.2.2.2.2.2 u [(0, .ref (ad 0)), (2, .int x2), (3, shv ad s.1), (5, .int s.2.1), (6, .int s.2.2.1), (7, .int s.2.2.2.1), (8, .int s.2.2.2.2.1)] 81 []) (fun self81 ih81 s h => ?_)
    obtain ⟨v3, v5, v6, v7, v8, t0⟩ := s
    change G X D ad g t0 u [(0, .ref (ad 0)), (2, .int x2), (3, shv ad v3), (5, .int v5), (6, .int v6), (7, .int v7), (8, .int v8)] 81 []
    unfold bd_X5_theft_81 at h; try dsimp only at h
    refine g_iload F (dAt dk_X5_theft 43 rfl) 6 rfl ?_
    refine g_aload_n F (dAt dk_X5_theft 44 rfl) 0 rfl ?_
    refine gg_Main_land F (gm mw_212 rfl) (dAt dk_X5_theft 45 rfl) ?_
    refine gg_Land_count 0 F (gm mw_105 rfl) (dAt dk_X5_theft 46 rfl) ?_
    refine g_icmp_ge (tgt := 145) F (dAt dk_X5_theft 47 rfl) (by decide) h (fun c17 h => ?_) (fun c17 h => ?_)
    · refine g_iinc (lv' := [(7, .int (v7 + 1)), (0, .ref (ad 0)), (2, .int x2), (3, shv ad v3), (5, .int v5), (6, .int v6), (8, .int v8)]) F (dAt dk_X5_theft 73 rfl) 5 rfl (w := 1) (by decide) (by decide) rfl ?_
      refine g_goto (tgt := 63) F (dAt dk_X5_theft 74 rfl) (by decide) ?_
      refine g_sub (lv' := [(0, .ref (ad 0)), (2, .int x2), (3, shv ad v3), (5, .int v5), (6, .int v6), (7, .int (v7 + 1))]) [1, 2, 3, 4, 5, 0] rfl ?_
      exact ih63 (v3, v5, v6, (v7 + 1), t0) h
    · refine g_aload_n F (dAt dk_X5_theft 48 rfl) 0 rfl ?_
      refine g_aloadS_n F (dAt dk_X5_theft 49 rfl) 2 rfl ?_
      refine g_iload F (dAt dk_X5_theft 50 rfl) 5 rfl ?_
      refine g_iload F (dAt dk_X5_theft 51 rfl) 6 rfl ?_
      refine g_nn h (fun k18 e hhk18 => ?_)
      subst e
      have h := hhk18
      refine g_lv (lv' := [(0, .ref (ad 0)), (2, .int x2), (3, .ref (ad (oSh k18))), (5, .int v5), (6, .int v6), (7, .int v7), (8, .int v8)]) rfl ?_
      refine g_st (st' := [.int v8, .int v7, .ref (ad (oSh k18)), .ref (ad 0)]) rfl ?_
      refine g_invV_ic F mi_X5_stolenOn (gm mw_763 rfl) (dAt dk_X5_theft 52 rfl) (rcx_of F rc_Main) [.ref (ad (oSh k18)), .int v7, .int v8] rfl rfl (by decide) (Nat.le_of_ble_eq_true rfl) h (fun _ _ hf => c_X5_stolenOn hJ hf) (fun r19 t20 h => ?_)
      refine g_istore (lv' := [(9, .int r19), (0, .ref (ad 0)), (2, .int x2), (3, .ref (ad (oSh k18))), (5, .int v5), (6, .int v6), (7, .int v7), (8, .int v8)]) F (dAt dk_X5_theft 53 rfl) (by decide) rfl ?_
      refine g_iload F (dAt dk_X5_theft 54 rfl) 0 rfl ?_
      refine g_if_eq (tgt := 139) F (dAt dk_X5_theft 55 rfl) (by decide) h (fun c21 h => ?_) (fun c21 h => ?_)
      · refine g_iinc (lv' := [(8, .int (v8 + 1)), (9, .int r19), (0, .ref (ad 0)), (2, .int x2), (3, .ref (ad (oSh k18))), (5, .int v5), (6, .int v6), (7, .int v7)]) F (dAt dk_X5_theft 71 rfl) 7 rfl (w := 1) (by decide) (by decide) rfl ?_
        refine g_goto (tgt := 81) F (dAt dk_X5_theft 72 rfl) (by decide) ?_
        refine g_sub (lv' := [(0, .ref (ad 0)), (2, .int x2), (3, shv ad (some k18)), (5, .int v5), (6, .int v6), (7, .int v7), (8, .int (v8 + 1))]) [2, 3, 4, 5, 6, 7, 0] rfl ?_
        exact ih81 ((some k18), v5, v6, v7, (v8 + 1), t20) h
      · refine g_iload F (dAt dk_X5_theft 56 rfl) 4 rfl ?_
        refine g_if_ne (tgt := 132) F (dAt dk_X5_theft 57 rfl) (by decide) h (fun c22 h => ?_) (fun c22 h => ?_)
        · refine g_iload F (dAt dk_X5_theft 68 rfl) 5 rfl ?_
          refine g_istore (lv' := [(6, .int v6), (9, .int r19), (0, .ref (ad 0)), (2, .int x2), (3, .ref (ad (oSh k18))), (5, .int v5), (7, .int v7), (8, .int v8)]) F (dAt dk_X5_theft 69 rfl) (by decide) rfl ?_
          refine g_iinc (lv' := [(5, .int (v5 + 1)), (6, .int v6), (9, .int r19), (0, .ref (ad 0)), (2, .int x2), (3, .ref (ad (oSh k18))), (7, .int v7), (8, .int v8)]) F (dAt dk_X5_theft 70 rfl) 5 rfl (w := 1) (by decide) (by decide) rfl ?_
          refine g_iinc (lv' := [(8, .int (v8 + 1)), (5, .int (v5 + 1)), (6, .int v6), (9, .int r19), (0, .ref (ad 0)), (2, .int x2), (3, .ref (ad (oSh k18))), (7, .int v7)]) F (dAt dk_X5_theft 71 rfl) 7 rfl (w := 1) (by decide) (by decide) rfl ?_
          refine g_goto (tgt := 81) F (dAt dk_X5_theft 72 rfl) (by decide) ?_
          refine g_sub (lv' := [(0, .ref (ad 0)), (2, .int x2), (3, shv ad (some k18)), (5, .int (v5 + 1)), (6, .int v6), (7, .int v7), (8, .int (v8 + 1))]) [4, 5, 6, 1, 2, 7, 0] rfl ?_
          exact ih81 ((some k18), (v5 + 1), v6, v7, (v8 + 1), t20) h
        · refine g_sipush (v := 10000) F (dAt dk_X5_theft 58 rfl) (by decide) ?_
          refine g_iload F (dAt dk_X5_theft 59 rfl) 6 rfl ?_
          refine g_imul F (dAt dk_X5_theft 60 rfl) ?_
          refine g_bipush (v := 100) F (dAt dk_X5_theft 61 rfl) (by decide) ?_
          refine g_iload F (dAt dk_X5_theft 62 rfl) 7 rfl ?_
          refine g_imul F (dAt dk_X5_theft 63 rfl) ?_
          refine g_iadd F (dAt dk_X5_theft 64 rfl) ?_
          refine g_iload F (dAt dk_X5_theft 65 rfl) 0 rfl ?_
          refine g_iadd F (dAt dk_X5_theft 66 rfl) ?_
          refine g_goto (tgt := 134) F (dAt dk_X5_theft 67 rfl) (by decide) ?_
          refine g_lti h (fun y23 h => ?_)
          refine g_istore (lv' := [(6, .int y23), (9, .int r19), (0, .ref (ad 0)), (2, .int x2), (3, .ref (ad (oSh k18))), (5, .int v5), (7, .int v7), (8, .int v8)]) F (dAt dk_X5_theft 69 rfl) (by decide) rfl ?_
          refine g_iinc (lv' := [(5, .int (v5 + 1)), (6, .int y23), (9, .int r19), (0, .ref (ad 0)), (2, .int x2), (3, .ref (ad (oSh k18))), (7, .int v7), (8, .int v8)]) F (dAt dk_X5_theft 70 rfl) 5 rfl (w := 1) (by decide) (by decide) rfl ?_
          refine g_iinc (lv' := [(8, .int (v8 + 1)), (5, .int (v5 + 1)), (6, .int y23), (9, .int r19), (0, .ref (ad 0)), (2, .int x2), (3, .ref (ad (oSh k18))), (7, .int v7)]) F (dAt dk_X5_theft 71 rfl) 7 rfl (w := 1) (by decide) (by decide) rfl ?_
          refine g_goto (tgt := 81) F (dAt dk_X5_theft 72 rfl) (by decide) ?_
          refine g_sub (lv' := [(0, .ref (ad 0)), (2, .int x2), (3, shv ad (some k18)), (5, .int (v5 + 1)), (6, .int y23), (7, .int v7), (8, .int (v8 + 1))]) [4, 5, 6, 1, 2, 7, 0] rfl ?_
          exact ih81 ((some k18), (v5 + 1), y23, v7, (v8 + 1), t20) h
  have H63 : ∀ (k : Nat) (s : (Option (Fin 8)) × Int32 × Int32 × Int32 × Mem), iter (bd_X5_theft_63 n x1 x2) k s = some (r, t') → G X D ad g s.2.2.2.2 u [(0, .ref (ad 0)), (2, .int x2), (3, shv ad s.1), (5, .int s.2.1), (6, .int s.2.2.1), (7, .int s.2.2.2.1)] 63 [] := by
    refine iter_walk (P := fun (s : (Option (Fin 8)) × Int32 × Int32 × Int32 × Mem) => G X D ad g s.2.2.2.2 u [(0, .ref (ad 0)), (2, .int x2), (3, shv ad s.1), (5, .int s.2.1), (6, .int s.2.2.1), (7, .int s.2.2.2.1)] 63 []) (fun self63 ih63 s h => ?_)
    obtain ⟨v3, v5, v6, v7, t0⟩ := s
    change G X D ad g t0 u [(0, .ref (ad 0)), (2, .int x2), (3, shv ad v3), (5, .int v5), (6, .int v6), (7, .int v7)] 63 []
    unfold bd_X5_theft_63 at h; try dsimp only at h
    refine g_iload F (dAt dk_X5_theft 34 rfl) 5 rfl ?_
    refine g_aload_n F (dAt dk_X5_theft 35 rfl) 0 rfl ?_
    refine gg_Main_land F (gm mw_212 rfl) (dAt dk_X5_theft 36 rfl) ?_
    refine gg_Land_count 0 F (gm mw_105 rfl) (dAt dk_X5_theft 37 rfl) ?_
    refine g_icmp_ge (tgt := 151) F (dAt dk_X5_theft 38 rfl) (by decide) h (fun c12 h => ?_) (fun c12 h => ?_)
    · refine g_iload_n F (dAt dk_X5_theft 75 rfl) 1 rfl ?_
      refine g_if_ne (tgt := 158) F (dAt dk_X5_theft 76 rfl) (by decide) h (fun c13 h => ?_) (fun c13 h => ?_)
      · refine g_iload F (dAt dk_X5_theft 79 rfl) 3 rfl ?_
        refine g_if_ne (tgt := 172) F (dAt dk_X5_theft 80 rfl) (by decide) h (fun c14 h => ?_) (fun c14 h => ?_)
        · refine g_iload F (dAt dk_X5_theft 85 rfl) 4 rfl ?_
          cases h
          exact E (dAt dk_X5_theft 86 rfl) rfl
        · refine g_aload_n F (dAt dk_X5_theft 81 rfl) 0 rfl ?_
          refine g_bipush (v := (-5)) F (dAt dk_X5_theft 82 rfl) (by decide) ?_
          refine g_invV_ic F mi_X5_refuse (gm mw_251 rfl) (dAt dk_X5_theft 83 rfl) (rcx_of F rc_Main) [.int (-5)] rfl rfl (by decide) (Nat.le_of_ble_eq_true rfl) h (fun _ _ hf => c_X5_refuse hJ hf) (fun r15 t16 h => ?_)
          refine g_goto (tgt := 174) F (dAt dk_X5_theft 84 rfl) (by decide) ?_
          cases h
          exact E (dAt dk_X5_theft 86 rfl) rfl
      · refine g_iload F (dAt dk_X5_theft 77 rfl) 3 rfl ?_
        cases h
        exact E (dAt dk_X5_theft 78 rfl) rfl
    · refine g_iload F (dAt dk_X5_theft 39 rfl) 5 rfl ?_
      refine g_iconst (v := 1) F (dAt dk_X5_theft 40 rfl) (by decide) ?_
      refine g_iadd F (dAt dk_X5_theft 41 rfl) ?_
      refine g_istore (lv' := [(8, .int (v7 + 1)), (0, .ref (ad 0)), (2, .int x2), (3, shv ad v3), (5, .int v5), (6, .int v6), (7, .int v7)]) F (dAt dk_X5_theft 42 rfl) (by decide) rfl ?_
      refine g_sub (lv' := [(0, .ref (ad 0)), (2, .int x2), (3, shv ad v3), (5, .int v5), (6, .int v6), (7, .int v7), (8, .int (v7 + 1))]) [1, 2, 3, 4, 5, 6, 0] rfl ?_
      exact H81 self63 ih63 n (v3, v5, v6, v7, (v7 + 1), t0) h
  have J31 : ∀ (v3 : Option (Fin 8)) (v4 : Int32) (t0 : Mem), jn_X5_theft_31 n x1 x2 v3 v4 t0 = some (r, t') → G X D ad g t0 u [(0, .ref (ad 0)), (2, .int x2), (3, shv ad v3), (4, .int v4)] 31 [] := by
    intro v3 v4 t0 h
    unfold jn_X5_theft_31 at h
    refine g_iload F (dAt dk_X5_theft 17 rfl) 3 rfl ?_
    refine g_if_eq (tgt := 43) F (dAt dk_X5_theft 18 rfl) (by decide) h (fun c8 h => ?_) (fun c8 h => ?_)
    · refine g_aload_n F (dAt dk_X5_theft 23 rfl) 0 rfl ?_
      refine gg_Main_now F (gm mw_215 rfl) (dAt dk_X5_theft 24 rfl) ?_
      refine g_aload_n F (dAt dk_X5_theft 25 rfl) 0 rfl ?_
      refine gg_Main_land F (gm mw_212 rfl) (dAt dk_X5_theft 26 rfl) ?_
      refine g_invV_vc F mi_X2_measure (gm mw_570 rfl) (dAt dk_X5_theft 27 rfl) (rcx_of F (rc_Len 0)) [.ref (ad (oLd 0))] rfl rfl (by decide) (Nat.le_of_ble_eq_true rfl) h (fun _ _ hf => c_X2_measure hJ hf) (fun _ t9 h => ?_)
      refine g_iconst (v := 0) F (dAt dk_X5_theft 28 rfl) (by decide) ?_
      refine g_istore (lv' := [(5, .int 0), (0, .ref (ad 0)), (2, .int x2), (3, shv ad v3), (4, .int v4)]) F (dAt dk_X5_theft 29 rfl) (by decide) rfl ?_
      refine g_iconst (v := (-1)) F (dAt dk_X5_theft 30 rfl) (by decide) ?_
      refine g_istore (lv' := [(6, .int (-1)), (5, .int 0), (0, .ref (ad 0)), (2, .int x2), (3, shv ad v3), (4, .int v4)]) F (dAt dk_X5_theft 31 rfl) (by decide) rfl ?_
      refine g_iconst (v := 0) F (dAt dk_X5_theft 32 rfl) (by decide) ?_
      refine g_istore (lv' := [(7, .int 0), (6, .int (-1)), (5, .int 0), (0, .ref (ad 0)), (2, .int x2), (3, shv ad v3), (4, .int v4)]) F (dAt dk_X5_theft 33 rfl) (by decide) rfl ?_
      refine g_sub (lv' := [(0, .ref (ad 0)), (2, .int x2), (3, shv ad v3), (5, .int 0), (6, .int (-1)), (7, .int 0)]) [3, 4, 5, 2, 1, 0] rfl ?_
      exact H63  n (v3, 0, (-1), 0, t9) h
    · refine g_aload_n F (dAt dk_X5_theft 19 rfl) 0 rfl ?_
      refine g_iload F (dAt dk_X5_theft 20 rfl) 3 rfl ?_
      refine g_invV_ic F mi_X5_refuse (gm mw_251 rfl) (dAt dk_X5_theft 21 rfl) (rcx_of F rc_Main) [.int v4] rfl rfl (by decide) (Nat.le_of_ble_eq_true rfl) h (fun _ _ hf => c_X5_refuse hJ hf) (fun r10 t11 h => ?_)
      cases h
      exact E (dAt dk_X5_theft 22 rfl) rfl
  have J27 : ∀ (v3 : Option (Fin 8)) (t0 : Mem), jn_X5_theft_27 n x1 x2 v3 t0 = some (r, t') → G X D ad g t0 u [(0, .ref (ad 0)), (2, .int x2), (3, shv ad v3)] 27 [] := by
    intro v3 t0 h
    unfold jn_X5_theft_27 at h
    refine g_bipush (v := (-5)) F (dAt dk_X5_theft 15 rfl) (by decide) ?_
    refine g_istore (lv' := [(4, .int (-5)), (0, .ref (ad 0)), (2, .int x2), (3, shv ad v3)]) F (dAt dk_X5_theft 16 rfl) (by decide) (by cases v3 <;> rfl) ?_
    refine g_sub (lv' := [(0, .ref (ad 0)), (2, .int x2), (3, shv ad v3), (4, .int (-5))]) [1, 2, 3, 0] rfl ?_
    exact J31  v3 (-5) t0 h
  refine g_lv (lv' := [(0, .ref (ad 0)), (1, .int x1), (2, .int x2)]) rfl ?_
  unfold f_X5_theft at h
  refine g_aload_n F (dAt dk_X5_theft 0 rfl) 0 rfl ?_
  refine g_iload_n F (dAt dk_X5_theft 1 rfl) 1 rfl ?_
  refine g_invV_qc (jv ad) F mi_X5_shelfAt (gm mw_247 rfl) (dAt dk_X5_theft 2 rfl) (rcx_of F rc_Main) [.int x1] rfl rfl (by decide) (Nat.le_of_ble_eq_true rfl) h (fun _ _ hf => c_X5_shelfAt hJ hf) (fun r1 t2 h => ?_)
  refine g_st (st' := [shv ad r1]) rfl ?_
  refine g_astoreS_n (lv' := [(3, shv ad r1), (0, .ref (ad 0)), (1, .int x1), (2, .int x2)]) F (dAt dk_X5_theft 3 rfl) (by decide) rfl ?_
  refine g_aload_n F (dAt dk_X5_theft 4 rfl) 1 rfl ?_
  refine g_aloadS_n F (dAt dk_X5_theft 5 rfl) 0 rfl ?_
  refine g_invV_ic F mi_X5_tableProblem (gm mw_713 rfl) (dAt dk_X5_theft 6 rfl) (rcx_of F rc_Main) [shv ad r1] rfl rfl (by decide) (Nat.le_of_ble_eq_true rfl) h (fun _ _ hf => c_X5_tableProblem hJ hf) (fun r3 t4 h => ?_)
  refine g_istore (lv' := [(4, .int r3), (3, shv ad r1), (0, .ref (ad 0)), (1, .int x1), (2, .int x2)]) F (dAt dk_X5_theft 7 rfl) (by decide) (by cases r1 <;> rfl) ?_
  refine g_iload F (dAt dk_X5_theft 8 rfl) 0 rfl ?_
  refine g_if_ne (tgt := 31) F (dAt dk_X5_theft 9 rfl) (by decide) h (fun c5 h => ?_) (fun c5 h => ?_)
  · refine g_sub (lv' := [(0, .ref (ad 0)), (2, .int x2), (3, shv ad r1), (4, .int r3)]) [2, 4, 1, 0] rfl ?_
    exact J31  r1 r3 t4 h
  · refine g_iload_n F (dAt dk_X5_theft 10 rfl) 4 rfl ?_
    refine g_if_lt (tgt := 27) F (dAt dk_X5_theft 11 rfl) (by decide) h (fun c6 h => ?_) (fun c6 h => ?_)
    · refine g_sub (lv' := [(0, .ref (ad 0)), (2, .int x2), (3, shv ad r1)]) [2, 4, 1] rfl ?_
      exact J27  r1 t4 h
    · refine g_iload_n F (dAt dk_X5_theft 12 rfl) 4 rfl ?_
      refine g_iconst (v := 1) F (dAt dk_X5_theft 13 rfl) (by decide) ?_
      refine g_icmp_le (tgt := 31) F (dAt dk_X5_theft 14 rfl) (by decide) h (fun c7 h => ?_) (fun c7 h => ?_)
      · refine g_sub (lv' := [(0, .ref (ad 0)), (2, .int x2), (3, shv ad r1), (4, .int r3)]) [2, 4, 1, 0] rfl ?_
        exact J31  r1 r3 t4 h
      · refine g_sub (lv' := [(0, .ref (ad 0)), (2, .int x2), (3, shv ad r1)]) [2, 4, 1] rfl ?_
        exact J27  r1 t4 h
theorem mi_X5_mill : MI yX5_mill cX5_mill 4 (some .int) "MillOfDistances" 2 := ⟨(gm mw_775 rfl), (gm mw_773 rfl), (gm mw_774 rfl), (gm mw_69 rfl), by decide +kernel, by decide⟩
theorem c_X5_mill {l : Launch} {D : va_G} {ad : Nat → Nat} {g : Gv} {t u : Mem} {n : Nat} {x1 : Int32} {x2 : Int32} {t' : Mem} {r : Int32} (hJ : Jad ad) (h : f_X5_mill n x1 x2 t = some (r, t')) : ConI l yX5_mill cX5_mill 4 (some .int) 3 [.ref (ad 0), .int x1, .int x2] D ad g t u t' u r := by
  refine con_i hJ (by decide) (Nat.le_of_ble_eq_true rfl) rfl (fun X F E => ?_)
  refine g_lv (lv' := [(0, .ref (ad 0)), (1, .int x1), (2, .int x2)]) rfl ?_
  unfold f_X5_mill at h
  refine g_aload_n F (dAt dk_X5_mill 0 rfl) 0 rfl ?_
  refine g_iload_n F (dAt dk_X5_mill 1 rfl) 1 rfl ?_
  refine g_iload_n F (dAt dk_X5_mill 2 rfl) 2 rfl ?_
  refine g_invV_ic F mi_X5_roadProblem (gm mw_561 rfl) (dAt dk_X5_mill 3 rfl) (rcx_of F rc_Main) [.int x1, .int x2] rfl rfl (by decide) (Nat.le_of_ble_eq_true rfl) h (fun _ _ hf => c_X5_roadProblem hJ hf) (fun r1 t2 h => ?_)
  refine g_istore_n (lv' := [(3, .int r1), (0, .ref (ad 0)), (1, .int x1), (2, .int x2)]) F (dAt dk_X5_mill 4 rfl) (by decide) rfl ?_
  refine g_iload_n F (dAt dk_X5_mill 5 rfl) 0 rfl ?_
  refine g_if_eq (tgt := 17) F (dAt dk_X5_mill 6 rfl) (by decide) h (fun c3 h => ?_) (fun c3 h => ?_)
  · refine g_aload_n F (dAt dk_X5_mill 11 rfl) 1 rfl ?_
    refine gg_Main_land F (gm mw_212 rfl) (dAt dk_X5_mill 12 rfl) ?_
    refine g_iload_n F (dAt dk_X5_mill 13 rfl) 2 rfl ?_
    refine g_iload_n F (dAt dk_X5_mill 14 rfl) 3 rfl ?_
    refine g_invV_vc F mi_X1_grindRoad (gm mw_776 rfl) (dAt dk_X5_mill 15 rfl) (rcx_of F (rc_Land 0)) [.int x1, .int x2] rfl rfl (by decide) (Nat.le_of_ble_eq_true rfl) h (fun _ _ hf => c_X1_grindRoad hJ hf) (fun _ t4 h => ?_)
    refine g_aload_n F (dAt dk_X5_mill 16 rfl) 1 rfl ?_
    refine gg_Main_land F (gm mw_212 rfl) (dAt dk_X5_mill 17 rfl) ?_
    refine gg_Land_flour 0 F (gm mw_108 rfl) (dAt dk_X5_mill 18 rfl) ?_
    cases h
    exact E (dAt dk_X5_mill 19 rfl) rfl
  · refine g_aload_n F (dAt dk_X5_mill 7 rfl) 1 rfl ?_
    refine g_iload_n F (dAt dk_X5_mill 8 rfl) 0 rfl ?_
    refine g_invV_ic F mi_X5_refuse (gm mw_251 rfl) (dAt dk_X5_mill 9 rfl) (rcx_of F rc_Main) [.int r1] rfl rfl (by decide) (Nat.le_of_ble_eq_true rfl) h (fun _ _ hf => c_X5_refuse hJ hf) (fun r5 t6 h => ?_)
    cases h
    exact E (dAt dk_X5_mill 10 rfl) rfl
theorem mi_X5_spread : MI yX5_spread cX5_spread 4 (some .int) "MillOfDistances" 3 := ⟨(gm mw_780 rfl), (gm mw_778 rfl), (gm mw_779 rfl), (gm mw_69 rfl), by decide +kernel, by decide⟩
theorem c_X5_spread {l : Launch} {D : va_G} {ad : Nat → Nat} {g : Gv} {t u : Mem} {x1 : Int32} {x2 : Int32} {x3 : Int32} {t' : Mem} {r : Int32} (hJ : Jad ad) (h : f_X5_spread x1 x2 x3 t = some (r, t')) : ConI l yX5_spread cX5_spread 4 (some .int) 3 [.ref (ad 0), .int x1, .int x2, .int x3] D ad g t u t' u r := by
  refine con_i hJ (by decide) (Nat.le_of_ble_eq_true rfl) rfl (fun X F E => ?_)
  refine g_lv (lv' := [(0, .ref (ad 0)), (1, .int x1), (2, .int x2), (3, .int x3)]) rfl ?_
  unfold f_X5_spread at h
  refine g_aload_n F (dAt dk_X5_spread 0 rfl) 0 rfl ?_
  refine gg_Main_land F (gm mw_212 rfl) (dAt dk_X5_spread 1 rfl) ?_
  refine g_iload_n F (dAt dk_X5_spread 2 rfl) 1 rfl ?_
  refine g_iload_n F (dAt dk_X5_spread 3 rfl) 2 rfl ?_
  refine g_invV_ic F mi_X1_hasBoth (gm mw_380 rfl) (dAt dk_X5_spread 4 rfl) (rcx_of F (rc_Land 0)) [.int x1, .int x2] rfl rfl (by decide) (Nat.le_of_ble_eq_true rfl) h (fun _ _ hf => c_X1_hasBoth hJ hf) (fun r1 t2 h => ?_)
  refine g_if_ne (tgt := 18) F (dAt dk_X5_spread 5 rfl) (by decide) h (fun c3 h => ?_) (fun c3 h => ?_)
  · refine g_aload_n F (dAt dk_X5_spread 10 rfl) 0 rfl ?_
    refine gg_Main_land F (gm mw_212 rfl) (dAt dk_X5_spread 11 rfl) ?_
    refine g_iload_n F (dAt dk_X5_spread 12 rfl) 1 rfl ?_
    refine g_iload_n F (dAt dk_X5_spread 13 rfl) 2 rfl ?_
    refine g_iload_n F (dAt dk_X5_spread 14 rfl) 3 rfl ?_
    refine g_invV_ic F mi_X1_mayPinch (gm mw_749 rfl) (dAt dk_X5_spread 15 rfl) (rcx_of F (rc_Land 0)) [.int x1, .int x2, .int x3] rfl rfl (by decide) (Nat.le_of_ble_eq_true rfl) h (fun _ _ hf => c_X1_mayPinch hJ hf) (fun r4 t5 h => ?_)
    refine g_if_ne (tgt := 38) F (dAt dk_X5_spread 16 rfl) (by decide) h (fun c6 h => ?_) (fun c6 h => ?_)
    · refine g_aload_n F (dAt dk_X5_spread 21 rfl) 0 rfl ?_
      refine gg_Main_land F (gm mw_212 rfl) (dAt dk_X5_spread 22 rfl) ?_
      refine g_iload_n F (dAt dk_X5_spread 23 rfl) 1 rfl ?_
      refine g_iload_n F (dAt dk_X5_spread 24 rfl) 2 rfl ?_
      refine g_iload_n F (dAt dk_X5_spread 25 rfl) 3 rfl ?_
      refine g_invV_vc F mi_X1_pinch (gm mw_750 rfl) (dAt dk_X5_spread 26 rfl) (rcx_of F (rc_Land 0)) [.int x1, .int x2, .int x3] rfl rfl (by decide) (Nat.le_of_ble_eq_true rfl) h (fun _ _ hf => c_X1_pinch hJ hf) (fun _ t7 h => ?_)
      refine g_aload_n F (dAt dk_X5_spread 27 rfl) 0 rfl ?_
      refine gg_Main_land F (gm mw_212 rfl) (dAt dk_X5_spread 28 rfl) ?_
      refine g_iload_n F (dAt dk_X5_spread 29 rfl) 1 rfl ?_
      refine g_iload_n F (dAt dk_X5_spread 30 rfl) 2 rfl ?_
      refine g_invV_ic F mi_X1_between (gm mw_384 rfl) (dAt dk_X5_spread 31 rfl) (rcx_of F (rc_Land 0)) [.int x1, .int x2] rfl rfl (by decide) (Nat.le_of_ble_eq_true rfl) h (fun _ _ hf => c_X1_between hJ hf) (fun r8 t9 h => ?_)
      cases h
      exact E (dAt dk_X5_spread 32 rfl) rfl
    · refine g_aload_n F (dAt dk_X5_spread 17 rfl) 0 rfl ?_
      refine g_bipush (v := (-6)) F (dAt dk_X5_spread 18 rfl) (by decide) ?_
      refine g_invV_ic F mi_X5_refuse (gm mw_251 rfl) (dAt dk_X5_spread 19 rfl) (rcx_of F rc_Main) [.int (-6)] rfl rfl (by decide) (Nat.le_of_ble_eq_true rfl) h (fun _ _ hf => c_X5_refuse hJ hf) (fun r10 t11 h => ?_)
      cases h
      exact E (dAt dk_X5_spread 20 rfl) rfl
  · refine g_aload_n F (dAt dk_X5_spread 6 rfl) 0 rfl ?_
    refine g_iconst (v := (-1)) F (dAt dk_X5_spread 7 rfl) (by decide) ?_
    refine g_invV_ic F mi_X5_refuse (gm mw_251 rfl) (dAt dk_X5_spread 8 rfl) (rcx_of F rc_Main) [.int (-1)] rfl rfl (by decide) (Nat.le_of_ble_eq_true rfl) h (fun _ _ hf => c_X5_refuse hJ hf) (fun r12 t13 h => ?_)
    cases h
    exact E (dAt dk_X5_spread 9 rfl) rfl
theorem mi_X5_gale : MI yX5_gale cX5_gale 4 (some .int) "MillOfDistances" 1 := ⟨(gm mw_784 rfl), (gm mw_782 rfl), (gm mw_783 rfl), (gm mw_69 rfl), by decide +kernel, by decide⟩
theorem c_X5_gale {l : Launch} {D : va_G} {ad : Nat → Nat} {g : Gv} {t u : Mem} {n : Nat} {x1 : Int32} {t' : Mem} {r : Int32} (hJ : Jad ad) (h : f_X5_gale n x1 t = some (r, t')) : ConI l yX5_gale cX5_gale 4 (some .int) 3 [.ref (ad 0), .int x1] D ad g t u t' u r := by
  refine con_i hJ (by decide) (Nat.le_of_ble_eq_true rfl) rfl (fun X F E => ?_)
  have J28 : ∀ (t0 : Mem), jn_X5_gale_28 n x1 t0 = some (r, t') → G X D ad g t0 u [(0, .ref (ad 0))] 28 [] := by
    intro t0 h
    unfold jn_X5_gale_28 at h
    refine g_aload_n F (dAt dk_X5_gale 14 rfl) 0 rfl ?_
    refine g_bipush (v := (-6)) F (dAt dk_X5_gale 15 rfl) (by decide) ?_
    refine g_invV_ic F mi_X5_refuse (gm mw_251 rfl) (dAt dk_X5_gale 16 rfl) (rcx_of F rc_Main) [.int (-6)] rfl rfl (by decide) (Nat.le_of_ble_eq_true rfl) h (fun _ _ hf => c_X5_refuse hJ hf) (fun r6 t7 h => ?_)
    cases h
    exact E (dAt dk_X5_gale 17 rfl) rfl
  have H39 : ∀ (k : Nat) (s : Int32 × Int32 × Mem), iter (bd_X5_gale_39 n x1) k s = some (r, t') → G X D ad g s.2.2 u [(0, .ref (ad 0)), (1, .int x1), (2, .int s.1), (3, .int s.2.1)] 39 [] := by
    refine iter_walk (P := fun (s : Int32 × Int32 × Mem) => G X D ad g s.2.2 u [(0, .ref (ad 0)), (1, .int x1), (2, .int s.1), (3, .int s.2.1)] 39 []) (fun self39 ih39 s h => ?_)
    obtain ⟨v2, v3, t0⟩ := s
    change G X D ad g t0 u [(0, .ref (ad 0)), (1, .int x1), (2, .int v2), (3, .int v3)] 39 []
    unfold bd_X5_gale_39 at h; try dsimp only at h
    refine g_iload_n F (dAt dk_X5_gale 22 rfl) 3 rfl ?_
    refine g_iload_n F (dAt dk_X5_gale 23 rfl) 1 rfl ?_
    refine g_icmp_ge (tgt := 60) F (dAt dk_X5_gale 24 rfl) (by decide) h (fun c8 h => ?_) (fun c8 h => ?_)
    · refine g_iload_n F (dAt dk_X5_gale 33 rfl) 2 rfl ?_
      cases h
      exact E (dAt dk_X5_gale 34 rfl) rfl
    · refine g_iload_n F (dAt dk_X5_gale 25 rfl) 2 rfl ?_
      refine g_aload_n F (dAt dk_X5_gale 26 rfl) 0 rfl ?_
      refine gg_Main_land F (gm mw_212 rfl) (dAt dk_X5_gale 27 rfl) ?_
      refine g_invV_ic F mi_X1_gust (gm mw_785 rfl) (dAt dk_X5_gale 28 rfl) (rcx_of F (rc_Land 0)) [] rfl rfl (by decide) (Nat.le_of_ble_eq_true rfl) h (fun _ _ hf => c_X1_gust hJ hf) (fun r9 t10 h => ?_)
      refine g_iadd F (dAt dk_X5_gale 29 rfl) ?_
      refine g_istore_n (lv' := [(2, .int (v2 + r9)), (0, .ref (ad 0)), (1, .int x1), (3, .int v3)]) F (dAt dk_X5_gale 30 rfl) (by decide) rfl ?_
      refine g_iinc (lv' := [(3, .int (v3 + 1)), (2, .int (v2 + r9)), (0, .ref (ad 0)), (1, .int x1)]) F (dAt dk_X5_gale 31 rfl) 3 rfl (w := 1) (by decide) (by decide) rfl ?_
      refine g_goto (tgt := 39) F (dAt dk_X5_gale 32 rfl) (by decide) ?_
      refine g_sub (lv' := [(0, .ref (ad 0)), (1, .int x1), (2, .int (v2 + r9)), (3, .int (v3 + 1))]) [2, 3, 1, 0] rfl ?_
      exact ih39 ((v2 + r9), (v3 + 1), t10) h
  refine g_lv (lv' := [(0, .ref (ad 0)), (1, .int x1)]) rfl ?_
  unfold f_X5_gale at h
  refine g_aload_n F (dAt dk_X5_gale 0 rfl) 0 rfl ?_
  refine gg_Main_land F (gm mw_212 rfl) (dAt dk_X5_gale 1 rfl) ?_
  refine gg_Land_count 0 F (gm mw_105 rfl) (dAt dk_X5_gale 2 rfl) ?_
  refine g_if_ne (tgt := 17) F (dAt dk_X5_gale 3 rfl) (by decide) h (fun c1 h => ?_) (fun c1 h => ?_)
  · refine g_iload_n F (dAt dk_X5_gale 8 rfl) 1 rfl ?_
    refine g_iconst (v := 1) F (dAt dk_X5_gale 9 rfl) (by decide) ?_
    refine g_icmp_lt (tgt := 28) F (dAt dk_X5_gale 10 rfl) (by decide) h (fun c2 h => ?_) (fun c2 h => ?_)
    · refine g_sub (lv' := [(0, .ref (ad 0))]) [0] rfl ?_
      exact J28  t h
    · refine g_iload_n F (dAt dk_X5_gale 11 rfl) 1 rfl ?_
      refine g_bipush (v := 60) F (dAt dk_X5_gale 12 rfl) (by decide) ?_
      refine g_icmp_le (tgt := 35) F (dAt dk_X5_gale 13 rfl) (by decide) h (fun c3 h => ?_) (fun c3 h => ?_)
      · refine g_iconst (v := 0) F (dAt dk_X5_gale 18 rfl) (by decide) ?_
        refine g_istore_n (lv' := [(2, .int 0), (0, .ref (ad 0)), (1, .int x1)]) F (dAt dk_X5_gale 19 rfl) (by decide) rfl ?_
        refine g_iconst (v := 0) F (dAt dk_X5_gale 20 rfl) (by decide) ?_
        refine g_istore_n (lv' := [(3, .int 0), (2, .int 0), (0, .ref (ad 0)), (1, .int x1)]) F (dAt dk_X5_gale 21 rfl) (by decide) rfl ?_
        refine g_sub (lv' := [(0, .ref (ad 0)), (1, .int x1), (2, .int 0), (3, .int 0)]) [2, 3, 1, 0] rfl ?_
        exact H39  n (0, 0, t) h
      · refine g_sub (lv' := [(0, .ref (ad 0))]) [0] rfl ?_
        exact J28  t h
  · refine g_aload_n F (dAt dk_X5_gale 4 rfl) 0 rfl ?_
    refine g_bipush (v := (-5)) F (dAt dk_X5_gale 5 rfl) (by decide) ?_
    refine g_invV_ic F mi_X5_refuse (gm mw_251 rfl) (dAt dk_X5_gale 6 rfl) (rcx_of F rc_Main) [.int (-5)] rfl rfl (by decide) (Nat.le_of_ble_eq_true rfl) h (fun _ _ hf => c_X5_refuse hJ hf) (fun r4 t5 h => ?_)
    cases h
    exact E (dAt dk_X5_gale 7 rfl) rfl
theorem mi_X5_seed : MI yX5_seed cX5_seed 3 (some .int) "MillOfDistances" 1 := ⟨(gm mw_797 rfl), (gm mw_795 rfl), (gm mw_796 rfl), (gm mw_69 rfl), by decide +kernel, by decide⟩
theorem c_X5_seed {l : Launch} {D : va_G} {ad : Nat → Nat} {g : Gv} {t u : Mem} {x1 : Int32} {t' : Mem} {r : Int32} (hJ : Jad ad) (h : f_X5_seed x1 t = some (r, t')) : ConI l yX5_seed cX5_seed 3 (some .int) 0 [.ref (ad 0), .int x1] D ad g t u t' u r := by
  refine con_i hJ (by decide) (Nat.le_of_ble_eq_true rfl) rfl (fun X F E => ?_)
  refine g_lv (lv' := [(0, .ref (ad 0)), (1, .int x1)]) rfl ?_
  unfold f_X5_seed at h
  refine g_aload_n F (dAt dk_X5_seed 0 rfl) 0 rfl ?_
  refine gg_Main_land F (gm mw_212 rfl) (dAt dk_X5_seed 1 rfl) ?_
  refine gg_Land_seed 0 F (gm mw_113 rfl) (dAt dk_X5_seed 2 rfl) ?_
  refine g_istore_n (lv' := [(2, .int (t.1 (oLd 0) 6)), (0, .ref (ad 0)), (1, .int x1)]) F (dAt dk_X5_seed 3 rfl) (by decide) rfl ?_
  refine g_aload_n F (dAt dk_X5_seed 4 rfl) 1 rfl ?_
  refine gg_Main_land F (gm mw_212 rfl) (dAt dk_X5_seed 5 rfl) ?_
  refine g_iload_n F (dAt dk_X5_seed 6 rfl) 2 rfl ?_
  refine gp_Land_seed 0 F (gm mw_113 rfl) (dAt dk_X5_seed 7 rfl) ?_
  refine g_ltt h (fun t1 h => ?_)
  refine g_iload_n F (dAt dk_X5_seed 8 rfl) 0 rfl ?_
  cases h
  exact E (dAt dk_X5_seed 9 rfl) rfl
theorem mi_X5_act : MI yX5_act cX5_act 4 (some .int) "MillOfDistances" 3 := ⟨(gm mw_801 rfl), (gm mw_799 rfl), (gm mw_800 rfl), (gm mw_69 rfl), by decide +kernel, by decide⟩
theorem c_X5_act {l : Launch} {D : va_G} {ad : Nat → Nat} {g : Gv} {t u : Mem} {n : Nat} {x1 : Int32} {x2 : Int32} {x3 : Int32} {t' : Mem} {r : Int32} (hJ : Jad ad) (h : f_X5_act n x1 x2 x3 t = some (r, t')) : ConI l yX5_act cX5_act 4 (some .int) 16 [.ref (ad 0), .int x1, .int x2, .int x3] D ad g t u t' u r := by
  refine con_i hJ (by decide) (Nat.le_of_ble_eq_true rfl) rfl (fun X F E => ?_)
  refine g_lv (lv' := [(0, .ref (ad 0)), (1, .int x1), (2, .int x2), (3, .int x3)]) rfl ?_
  unfold f_X5_act at h
  refine g_aload_n F (dAt dk_X5_act 0 rfl) 0 rfl ?_
  refine gg_Main_doer F (gm mw_220 rfl) (dAt dk_X5_act 1 rfl) ?_
  refine g_invV_vc F mi_X0_forget (gm mw_802 rfl) (dAt dk_X5_act 2 rfl) (rcx_of F rc_Doer) [] rfl rfl (by decide) (Nat.le_of_ble_eq_true rfl) h (fun _ _ hf => c_X0_forget hJ hf) (fun _ t1 h => ?_)
  refine g_aload_n F (dAt dk_X5_act 3 rfl) 0 rfl ?_
  refine gg_Main_land F (gm mw_212 rfl) (dAt dk_X5_act 4 rfl) ?_
  refine g_iload_n F (dAt dk_X5_act 5 rfl) 1 rfl ?_
  refine g_invV_ic F mi_X1_has (gm mw_312 rfl) (dAt dk_X5_act 6 rfl) (rcx_of F (rc_Land 0)) [.int x1] rfl rfl (by decide) (Nat.le_of_ble_eq_true rfl) h (fun _ _ hf => c_X1_has hJ hf) (fun r2 t3 h => ?_)
  refine g_if_eq (tgt := 27) F (dAt dk_X5_act 7 rfl) (by decide) h (fun c4 h => ?_) (fun c4 h => ?_)
  · refine g_iconst (v := 0) F (dAt dk_X5_act 13 rfl) (by decide) ?_
    cases h
    exact E (dAt dk_X5_act 14 rfl) rfl
  · refine g_iload_n F (dAt dk_X5_act 8 rfl) 2 rfl ?_
    refine g_if_lt (tgt := 27) F (dAt dk_X5_act 9 rfl) (by decide) h (fun c5 h => ?_) (fun c5 h => ?_)
    · refine g_iconst (v := 0) F (dAt dk_X5_act 13 rfl) (by decide) ?_
      cases h
      exact E (dAt dk_X5_act 14 rfl) rfl
    · refine g_iload_n F (dAt dk_X5_act 10 rfl) 2 rfl ?_
      refine g_iconst (v := 2) F (dAt dk_X5_act 11 rfl) (by decide) ?_
      refine g_icmp_le (tgt := 29) F (dAt dk_X5_act 12 rfl) (by decide) h (fun c6 h => ?_) (fun c6 h => ?_)
      · refine g_aload_n F (dAt dk_X5_act 15 rfl) 0 rfl ?_
        refine gg_Main_doer F (gm mw_220 rfl) (dAt dk_X5_act 16 rfl) ?_
        refine g_aload_n F (dAt dk_X5_act 17 rfl) 0 rfl ?_
        refine gg_Main_land F (gm mw_212 rfl) (dAt dk_X5_act 18 rfl) ?_
        refine gg_Land_kinds 0 F (gm mw_99 rfl) (dAt dk_X5_act 19 rfl) ?_
        refine g_iload_n F (dAt dk_X5_act 20 rfl) 1 rfl ?_
        refine g_ck h (fun hi7 h => ?_)
        refine g_ialoadc F (ai_kinds 0) (dAt dk_X5_act 21 rfl) hi7 ?_
        refine g_iload_n F (dAt dk_X5_act 22 rfl) 1 rfl ?_
        refine g_aload_n F (dAt dk_X5_act 23 rfl) 0 rfl ?_
        refine gg_Main_land F (gm mw_212 rfl) (dAt dk_X5_act 24 rfl) ?_
        refine gg_Land_marks 0 F (gm mw_101 rfl) (dAt dk_X5_act 25 rfl) ?_
        refine g_iload_n F (dAt dk_X5_act 26 rfl) 1 rfl ?_
        refine g_ck h (fun hi8 h => ?_)
        refine g_ialoadc F (ai_marks 0) (dAt dk_X5_act 27 rfl) hi8 ?_
        refine g_iload_n F (dAt dk_X5_act 28 rfl) 2 rfl ?_
        refine g_iload_n F (dAt dk_X5_act 29 rfl) 3 rfl ?_
        refine g_invV_ic F mi_X0_perform (gm mw_806 rfl) (dAt dk_X5_act 30 rfl) (rcx_of F rc_Doer) [.int (t3.1 (oKn 0) x1.toNatClampNeg), .int x1, .int (t3.1 (oMk 0) x1.toNatClampNeg), .int x2, .int x3] rfl rfl (by decide) (Nat.le_of_ble_eq_true rfl) h (fun _ _ hf => c_X0_perform hJ hf) (fun r9 t10 h => ?_)
        cases h
        exact E (dAt dk_X5_act 31 rfl) rfl
      · refine g_iconst (v := 0) F (dAt dk_X5_act 13 rfl) (by decide) ?_
        cases h
        exact E (dAt dk_X5_act 14 rfl) rfl
theorem mi_X5_trace : MI yX5_trace cX5_trace 2 (some .int) "MillOfDistances" 1 := ⟨(gm mw_830 rfl), (gm mw_828 rfl), (gm mw_829 rfl), (gm mw_69 rfl), by decide +kernel, by decide⟩
theorem c_X5_trace {l : Launch} {D : va_G} {ad : Nat → Nat} {g : Gv} {t u : Mem} {x1 : Int32} {t' : Mem} {r : Int32} (hJ : Jad ad) (h : f_X5_trace x1 t = some (r, t')) : ConI l yX5_trace cX5_trace 2 (some .int) 1 [.ref (ad 0), .int x1] D ad g t u t' u r := by
  refine con_i hJ (by decide) (Nat.le_of_ble_eq_true rfl) rfl (fun X F E => ?_)
  refine g_lv (lv' := [(0, .ref (ad 0)), (1, .int x1)]) rfl ?_
  unfold f_X5_trace at h
  refine g_aload_n F (dAt dk_X5_trace 0 rfl) 0 rfl ?_
  refine gg_Main_doer F (gm mw_220 rfl) (dAt dk_X5_trace 1 rfl) ?_
  refine g_iload_n F (dAt dk_X5_trace 2 rfl) 1 rfl ?_
  refine g_invV_ic F mi_X0_traced (gm mw_831 rfl) (dAt dk_X5_trace 3 rfl) (rcx_of F rc_Doer) [.int x1] rfl rfl (by decide) (Nat.le_of_ble_eq_true rfl) h (fun _ _ hf => c_X0_traced hJ hf) (fun r1 t2 h => ?_)
  cases h
  exact E (dAt dk_X5_trace 4 rfl) rfl
theorem mi_X5_image : MI yX5_image cX5_image 1 (some .int) "MillOfDistances" 0 := ⟨(gm mw_838 rfl), (gm mw_836 rfl), (gm mw_837 rfl), (gm mw_69 rfl), by decide +kernel, by decide⟩
theorem c_X5_image {l : Launch} {D : va_G} {ad : Nat → Nat} {g : Gv} {t u : Mem}  {t' : Mem} {r : Int32} (hJ : Jad ad) (h : f_X5_image t = some (r, t')) : ConI l yX5_image cX5_image 1 (some .int) 2 [.ref (ad 0)] D ad g t u t' u r := by
  refine con_i hJ (by decide) (Nat.le_of_ble_eq_true rfl) rfl (fun X F E => ?_)
  refine g_lv (lv' := [(0, .ref (ad 0))]) rfl ?_
  unfold f_X5_image at h
  refine g_aload_n F (dAt dk_X5_image 0 rfl) 0 rfl ?_
  refine gg_Main_imaged F (gm mw_214 rfl) (dAt dk_X5_image 1 rfl) ?_
  refine g_aload_n F (dAt dk_X5_image 2 rfl) 0 rfl ?_
  refine gg_Main_land F (gm mw_212 rfl) (dAt dk_X5_image 3 rfl) ?_
  refine g_invV_vc F mi_X1_becomeAs (gm mw_407 rfl) (dAt dk_X5_image 4 rfl) (rcx_of F (rc_Land 2)) [.ref (ad (oLd 0))] rfl rfl (by decide) (Nat.le_of_ble_eq_true rfl) h (fun _ _ hf => c_X1_becomeAs hJ hf) (fun _ t1 h => ?_)
  refine g_aload_n F (dAt dk_X5_image 5 rfl) 0 rfl ?_
  refine g_iconst (v := 1) F (dAt dk_X5_image 6 rfl) (by decide) ?_
  refine gp_Main_hasImage F rfl rfl (gm mw_221 rfl) (dAt dk_X5_image 7 rfl) ?_
  refine g_ltt h (fun t2 h => ?_)
  refine g_aload_n F (dAt dk_X5_image 8 rfl) 0 rfl ?_
  refine gg_Main_land F (gm mw_212 rfl) (dAt dk_X5_image 9 rfl) ?_
  refine gg_Land_count 0 F (gm mw_105 rfl) (dAt dk_X5_image 10 rfl) ?_
  cases h
  exact E (dAt dk_X5_image 11 rfl) rfl
theorem mi_X5_restore : MI yX5_restore cX5_restore 3 (some .int) "MillOfDistances" 0 := ⟨(gm mw_842 rfl), (gm mw_840 rfl), (gm mw_841 rfl), (gm mw_69 rfl), by decide +kernel, by decide⟩
theorem c_X5_restore {l : Launch} {D : va_G} {ad : Nat → Nat} {g : Gv} {t u : Mem} {n : Nat}  {t' : Mem} {r : Int32} (hJ : Jad ad) (h : f_X5_restore n t = some (r, t')) : ConI l yX5_restore cX5_restore 3 (some .int) 2 [.ref (ad 0)] D ad g t u t' u r := by
  refine con_i hJ (by decide) (Nat.le_of_ble_eq_true rfl) rfl (fun X F E => ?_)
  have H27 : ∀ (k : Nat) (s : Int32 × Mem), iter (bd_X5_restore_27 n) k s = some (r, t') → G X D ad g s.2 u [(0, .ref (ad 0)), (1, .int s.1)] 27 [] := by
    refine iter_walk (P := fun (s : Int32 × Mem) => G X D ad g s.2 u [(0, .ref (ad 0)), (1, .int s.1)] 27 []) (fun self27 ih27 s h => ?_)
    obtain ⟨v1, t0⟩ := s
    change G X D ad g t0 u [(0, .ref (ad 0)), (1, .int v1)] 27 []
    unfold bd_X5_restore_27 at h; try dsimp only at h
    refine g_iload_n F (dAt dk_X5_restore 14 rfl) 1 rfl ?_
    refine g_bipush (v := 8) F (dAt dk_X5_restore 15 rfl) (by decide) ?_
    refine g_icmp_ge (tgt := 72) F (dAt dk_X5_restore 16 rfl) (by decide) h (fun c5 h => ?_) (fun c5 h => ?_)
    · refine g_aload_n F (dAt dk_X5_restore 36 rfl) 0 rfl ?_
      refine gg_Main_land F (gm mw_212 rfl) (dAt dk_X5_restore 37 rfl) ?_
      refine gg_Land_count 0 F (gm mw_105 rfl) (dAt dk_X5_restore 38 rfl) ?_
      cases h
      exact E (dAt dk_X5_restore 39 rfl) rfl
    · refine g_aload_n F (dAt dk_X5_restore 17 rfl) 0 rfl ?_
      refine gg_Main_shelves F (gm mw_217 rfl) (dAt dk_X5_restore 18 rfl) ?_
      refine g_iload_n F (dAt dk_X5_restore 19 rfl) 1 rfl ?_
      refine g_ck h (fun hi6 h => ?_)
      refine g_aald F (dAt dk_X5_restore 20 rfl) hi6 ?_
      refine g_astore_n (lv' := [(2, .ref (ad (oSh (Fin.ofNat 8 v1.toNatClampNeg)))), (0, .ref (ad 0)), (1, .int v1)]) F (dAt dk_X5_restore 21 rfl) (by decide) rfl ?_
      refine g_aload_n F (dAt dk_X5_restore 22 rfl) 0 rfl ?_
      refine g_invV_ic F mi_X4_holdsPlace (gm mw_269 rfl) (dAt dk_X5_restore 23 rfl) (rcx_of F (rc_Shelf (Fin.ofNat 8 v1.toNatClampNeg))) [] rfl rfl (by decide) (Nat.le_of_ble_eq_true rfl) h (fun _ _ hf => c_X4_holdsPlace hJ hf) (fun r7 t8 h => ?_)
      refine g_if_eq (tgt := 66) F (dAt dk_X5_restore 24 rfl) (by decide) h (fun c9 h => ?_) (fun c9 h => ?_)
      · refine g_iinc (lv' := [(1, .int (v1 + 1)), (2, .ref (ad (oSh (Fin.ofNat 8 v1.toNatClampNeg)))), (0, .ref (ad 0))]) F (dAt dk_X5_restore 34 rfl) 2 rfl (w := 1) (by decide) (by decide) rfl ?_
        refine g_goto (tgt := 27) F (dAt dk_X5_restore 35 rfl) (by decide) ?_
        refine g_sub (lv' := [(0, .ref (ad 0)), (1, .int (v1 + 1))]) [2, 0] rfl ?_
        exact ih27 ((v1 + 1), t8) h
      · refine g_aload_n F (dAt dk_X5_restore 25 rfl) 1 rfl ?_
        refine gg_Main_land F (gm mw_212 rfl) (dAt dk_X5_restore 26 rfl) ?_
        refine g_aload_n F (dAt dk_X5_restore 27 rfl) 0 rfl ?_
        refine gg_Shelf_place (Fin.ofNat 8 v1.toNatClampNeg) F (gm mw_201 rfl) (dAt dk_X5_restore 28 rfl) ?_
        refine g_invV_ic F mi_X1_has (gm mw_312 rfl) (dAt dk_X5_restore 29 rfl) (rcx_of F (rc_Land 0)) [.int (t8.1 (oSh (Fin.ofNat 8 v1.toNatClampNeg)) 3)] rfl rfl (by decide) (Nat.le_of_ble_eq_true rfl) h (fun _ _ hf => c_X1_has hJ hf) (fun r10 t11 h => ?_)
        refine g_if_ne (tgt := 66) F (dAt dk_X5_restore 30 rfl) (by decide) h (fun c12 h => ?_) (fun c12 h => ?_)
        · refine g_iinc (lv' := [(1, .int (v1 + 1)), (2, .ref (ad (oSh (Fin.ofNat 8 v1.toNatClampNeg)))), (0, .ref (ad 0))]) F (dAt dk_X5_restore 34 rfl) 2 rfl (w := 1) (by decide) (by decide) rfl ?_
          refine g_goto (tgt := 27) F (dAt dk_X5_restore 35 rfl) (by decide) ?_
          refine g_sub (lv' := [(0, .ref (ad 0)), (1, .int (v1 + 1))]) [2, 0] rfl ?_
          exact ih27 ((v1 + 1), t11) h
        · refine g_aload_n F (dAt dk_X5_restore 31 rfl) 0 rfl ?_
          refine g_iconst (v := (-1)) F (dAt dk_X5_restore 32 rfl) (by decide) ?_
          refine g_invV_vc F mi_X4_takePlace (gm mw_316 rfl) (dAt dk_X5_restore 33 rfl) (rcx_of F (rc_Shelf (Fin.ofNat 8 v1.toNatClampNeg))) [.int (-1)] rfl rfl (by decide) (Nat.le_of_ble_eq_true rfl) h (fun _ _ hf => c_X4_takePlace hJ hf) (fun _ t13 h => ?_)
          refine g_iinc (lv' := [(1, .int (v1 + 1)), (2, .ref (ad (oSh (Fin.ofNat 8 v1.toNatClampNeg)))), (0, .ref (ad 0))]) F (dAt dk_X5_restore 34 rfl) 2 rfl (w := 1) (by decide) (by decide) rfl ?_
          refine g_goto (tgt := 27) F (dAt dk_X5_restore 35 rfl) (by decide) ?_
          refine g_sub (lv' := [(0, .ref (ad 0)), (1, .int (v1 + 1))]) [2, 0] rfl ?_
          exact ih27 ((v1 + 1), t13) h
  refine g_lv (lv' := [(0, .ref (ad 0))]) rfl ?_
  unfold f_X5_restore at h
  refine g_aload_n F (dAt dk_X5_restore 0 rfl) 0 rfl ?_
  refine gg_Main_hasImage F (gm mw_221 rfl) (dAt dk_X5_restore 1 rfl) ?_
  refine g_if_ne (tgt := 14) F (dAt dk_X5_restore 2 rfl) (by decide) h (fun c1 h => ?_) (fun c1 h => ?_)
  · refine g_aload_n F (dAt dk_X5_restore 7 rfl) 0 rfl ?_
    refine gg_Main_land F (gm mw_212 rfl) (dAt dk_X5_restore 8 rfl) ?_
    refine g_aload_n F (dAt dk_X5_restore 9 rfl) 0 rfl ?_
    refine gg_Main_imaged F (gm mw_214 rfl) (dAt dk_X5_restore 10 rfl) ?_
    refine g_invV_vc F mi_X1_becomeAs (gm mw_407 rfl) (dAt dk_X5_restore 11 rfl) (rcx_of F (rc_Land 0)) [.ref (ad (oLd 2))] rfl rfl (by decide) (Nat.le_of_ble_eq_true rfl) h (fun _ _ hf => c_X1_becomeAs hJ hf) (fun _ t2 h => ?_)
    refine g_iconst (v := 0) F (dAt dk_X5_restore 12 rfl) (by decide) ?_
    refine g_istore_n (lv' := [(1, .int 0), (0, .ref (ad 0))]) F (dAt dk_X5_restore 13 rfl) (by decide) rfl ?_
    refine g_sub (lv' := [(0, .ref (ad 0)), (1, .int 0)]) [1, 0] rfl ?_
    exact H27  n (0, t2) h
  · refine g_aload_n F (dAt dk_X5_restore 3 rfl) 0 rfl ?_
    refine g_bipush (v := (-6)) F (dAt dk_X5_restore 4 rfl) (by decide) ?_
    refine g_invV_ic F mi_X5_refuse (gm mw_251 rfl) (dAt dk_X5_restore 5 rfl) (rcx_of F rc_Main) [.int (-6)] rfl rfl (by decide) (Nat.le_of_ble_eq_true rfl) h (fun _ _ hf => c_X5_refuse hJ hf) (fun r3 t4 h => ?_)
    cases h
    exact E (dAt dk_X5_restore 6 rfl) rfl
theorem mi_X5_status : MI yX5_status cX5_status 2 (some .int) "MillOfDistances" 1 := ⟨(gm mw_846 rfl), (gm mw_844 rfl), (gm mw_845 rfl), (gm mw_69 rfl), by decide +kernel, by decide⟩
theorem c_X5_status {l : Launch} {D : va_G} {ad : Nat → Nat} {g : Gv} {t u : Mem} {n : Nat} {x1 : Int32} {t' : Mem} {r : Int32} (hJ : Jad ad) (h : f_X5_status n x1 t = some (r, t')) : ConI l yX5_status cX5_status 2 (some .int) 3 [.ref (ad 0), .int x1] D ad g t u t' u r := by
  refine con_i hJ (by decide) (Nat.le_of_ble_eq_true rfl) rfl (fun X F E => ?_)
  have J22 : ∀ (t0 : Mem), jn_X5_status_22 n x1 t0 = some (r, t') → G X D ad g t0 u [(0, .ref (ad 0)), (1, .int x1)] 22 [] := by
    intro t0 h
    unfold jn_X5_status_22 at h
    refine g_iload_n F (dAt dk_X5_status 13 rfl) 1 rfl ?_
    refine g_case 0 h (fun c4 h => ?_) (fun c4 h => ?_)
    · refine g_tabIn (v := 0) (tgt := 64) (off := 41) F (dAt dk_X5_status 14 rfl) c4 (by decide) (by decide) rfl (by decide) ?_
      refine g_aload_n F (dAt dk_X5_status 15 rfl) 0 rfl ?_
      refine gg_Main_land F (gm mw_212 rfl) (dAt dk_X5_status 16 rfl) ?_
      refine gg_Land_count 0 F (gm mw_105 rfl) (dAt dk_X5_status 17 rfl) ?_
      cases h
      exact E (dAt dk_X5_status 18 rfl) rfl
    · refine g_case 1 h (fun c5 h => ?_) (fun c5 h => ?_)
      · refine g_tabIn (v := 1) (tgt := 72) (off := 49) F (dAt dk_X5_status 14 rfl) c5 (by decide) (by decide) rfl (by decide) ?_
        refine g_aload_n F (dAt dk_X5_status 19 rfl) 0 rfl ?_
        refine gg_Main_land F (gm mw_212 rfl) (dAt dk_X5_status 20 rfl) ?_
        refine g_invV_ic F mi_X1_countRoads (gm mw_847 rfl) (dAt dk_X5_status 21 rfl) (rcx_of F (rc_Land 0)) [] rfl rfl (by decide) (Nat.le_of_ble_eq_true rfl) h (fun _ _ hf => c_X1_countRoads hJ hf) (fun r6 t7 h => ?_)
        cases h
        exact E (dAt dk_X5_status 22 rfl) rfl
      · refine g_case 2 h (fun c8 h => ?_) (fun c8 h => ?_)
        · refine g_tabIn (v := 2) (tgt := 80) (off := 57) F (dAt dk_X5_status 14 rfl) c8 (by decide) (by decide) rfl (by decide) ?_
          refine g_aload_n F (dAt dk_X5_status 23 rfl) 0 rfl ?_
          refine gg_Main_land F (gm mw_212 rfl) (dAt dk_X5_status 24 rfl) ?_
          refine g_invV_ic F mi_X1_allMiles (gm mw_853 rfl) (dAt dk_X5_status 25 rfl) (rcx_of F (rc_Land 0)) [] rfl rfl (by decide) (Nat.le_of_ble_eq_true rfl) h (fun _ _ hf => c_X1_allMiles hJ hf) (fun r9 t10 h => ?_)
          cases h
          exact E (dAt dk_X5_status 26 rfl) rfl
        · refine g_case 3 h (fun c11 h => ?_) (fun c11 h => ?_)
          · refine g_tabIn (v := 3) (tgt := 88) (off := 65) F (dAt dk_X5_status 14 rfl) c11 (by decide) (by decide) rfl (by decide) ?_
            refine g_aload_n F (dAt dk_X5_status 27 rfl) 0 rfl ?_
            refine gg_Main_land F (gm mw_212 rfl) (dAt dk_X5_status 28 rfl) ?_
            refine gg_Land_flour 0 F (gm mw_108 rfl) (dAt dk_X5_status 29 rfl) ?_
            cases h
            exact E (dAt dk_X5_status 30 rfl) rfl
          · refine g_case 4 h (fun c12 h => ?_) (fun c12 h => ?_)
            · refine g_tabIn (v := 4) (tgt := 96) (off := 73) F (dAt dk_X5_status 14 rfl) c12 (by decide) (by decide) rfl (by decide) ?_
              refine g_aload_n F (dAt dk_X5_status 31 rfl) 0 rfl ?_
              refine gg_Main_land F (gm mw_212 rfl) (dAt dk_X5_status 32 rfl) ?_
              refine gg_Land_wind 0 F (gm mw_111 rfl) (dAt dk_X5_status 33 rfl) ?_
              cases h
              exact E (dAt dk_X5_status 34 rfl) rfl
            · refine g_case 5 h (fun c13 h => ?_) (fun c13 h => ?_)
              · refine g_tabIn (v := 5) (tgt := 104) (off := 81) F (dAt dk_X5_status 14 rfl) c13 (by decide) (by decide) rfl (by decide) ?_
                refine g_aload_n F (dAt dk_X5_status 35 rfl) 0 rfl ?_
                refine gg_Main_land F (gm mw_212 rfl) (dAt dk_X5_status 36 rfl) ?_
                refine gg_Land_seed 0 F (gm mw_113 rfl) (dAt dk_X5_status 37 rfl) ?_
                cases h
                exact E (dAt dk_X5_status 38 rfl) rfl
              · refine g_case 6 h (fun c14 h => ?_) (fun c14 h => ?_)
                · refine g_tabIn (v := 6) (tgt := 112) (off := 89) F (dAt dk_X5_status 14 rfl) c14 (by decide) (by decide) rfl (by decide) ?_
                  refine g_aload_n F (dAt dk_X5_status 39 rfl) 0 rfl ?_
                  refine gg_Main_doer F (gm mw_220 rfl) (dAt dk_X5_status 40 rfl) ?_
                  refine gg_Doer_ran F (gm mw_173 rfl) (dAt dk_X5_status 41 rfl) ?_
                  cases h
                  exact E (dAt dk_X5_status 42 rfl) rfl
                · have := lv_neT c4 (a := 0) (by decide)
                  have := lv_neT c5 (a := 1) (by decide)
                  have := lv_neT c8 (a := 2) (by decide)
                  have := lv_neT c11 (a := 3) (by decide)
                  have := lv_neT c12 (a := 4) (by decide)
                  have := lv_neT c13 (a := 5) (by decide)
                  have := lv_neT c14 (a := 6) (by decide)
                  refine g_tabOut (tgt := 120) F (dAt dk_X5_status 14 rfl) (by omega) (by decide) ?_
                  refine g_iconst (v := (-1)) F (dAt dk_X5_status 43 rfl) (by decide) ?_
                  cases h
                  exact E (dAt dk_X5_status 44 rfl) rfl
  refine g_lv (lv' := [(0, .ref (ad 0)), (1, .int x1)]) rfl ?_
  unfold f_X5_status at h
  refine g_iload_n F (dAt dk_X5_status 0 rfl) 1 rfl ?_
  refine g_bipush (v := 11) F (dAt dk_X5_status 1 rfl) (by decide) ?_
  refine g_icmp_lt (tgt := 22) F (dAt dk_X5_status 2 rfl) (by decide) h (fun c1 h => ?_) (fun c1 h => ?_)
  · refine g_sub (lv' := [(0, .ref (ad 0)), (1, .int x1)]) [0, 1] rfl ?_
    exact J22  t h
  · refine g_iload_n F (dAt dk_X5_status 3 rfl) 1 rfl ?_
    refine g_bipush (v := 17) F (dAt dk_X5_status 4 rfl) (by decide) ?_
    refine g_icmp_gt (tgt := 22) F (dAt dk_X5_status 5 rfl) (by decide) h (fun c2 h => ?_) (fun c2 h => ?_)
    · refine g_sub (lv' := [(0, .ref (ad 0)), (1, .int x1)]) [0, 1] rfl ?_
      exact J22  t h
    · refine g_aload_n F (dAt dk_X5_status 6 rfl) 0 rfl ?_
      refine gg_Main_refusals F (gm mw_218 rfl) (dAt dk_X5_status 7 rfl) ?_
      refine g_iload_n F (dAt dk_X5_status 8 rfl) 1 rfl ?_
      refine g_bipush (v := 10) F (dAt dk_X5_status 9 rfl) (by decide) ?_
      refine g_isub F (dAt dk_X5_status 10 rfl) ?_
      refine g_ck h (fun hi3 h => ?_)
      refine g_ialoadc F ai_refusals (dAt dk_X5_status 11 rfl) hi3 ?_
      cases h
      exact E (dAt dk_X5_status 12 rfl) rfl
