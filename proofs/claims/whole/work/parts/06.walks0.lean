theorem mi_X0_forget : MI yX0_forget cX0_forget 1 none "MillOfDistances$Doer" 0 := ⟨(gm mw_805 rfl), (gm mw_803 rfl), (gm mw_804 rfl), (gm mw_73 rfl), by decide +kernel, by decide⟩
theorem c_X0_forget {l : Launch} {D : va_G} {ad : Nat → Nat} {g : Gv} {t u : Mem}  {t' : Mem} (hJ : Jad ad) (h : f_X0_forget t = some ((), t')) : ConV l yX0_forget cX0_forget 1 none 0 [.ref (ad 37)] D ad g t u t' u := by
  refine con_v hJ (by decide) (Nat.le_of_ble_eq_true rfl) rfl (fun X F E => ?_)
  refine g_lv (lv' := [(0, .ref (ad 37))]) rfl ?_
  unfold f_X0_forget at h
  refine g_aload_n F (dAt dk_X0_forget 0 rfl) 0 rfl ?_
  refine g_iconst (v := 0) F (dAt dk_X0_forget 1 rfl) (by decide) ?_
  refine gp_Doer_ran F (gm mw_172 rfl) (dAt dk_X0_forget 2 rfl) ?_
  refine g_ltt h (fun t1 h => ?_)
  cases h
  exact E (dAt dk_X0_forget 3 rfl)
theorem mi_X0_traced : MI yX0_traced cX0_traced 2 (some .int) "MillOfDistances$Doer" 1 := ⟨(gm mw_834 rfl), (gm mw_832 rfl), (gm mw_833 rfl), (gm mw_73 rfl), by decide +kernel, by decide⟩
theorem c_X0_traced {l : Launch} {D : va_G} {ad : Nat → Nat} {g : Gv} {t u : Mem} {x1 : Int32} {t' : Mem} {r : Int32} (hJ : Jad ad) (h : f_X0_traced x1 t = some (r, t')) : ConI l yX0_traced cX0_traced 2 (some .int) 0 [.ref (ad 37), .int x1] D ad g t u t' u r := by
  refine con_i hJ (by decide) (Nat.le_of_ble_eq_true rfl) rfl (fun X F E => ?_)
  refine g_lv (lv' := [(0, .ref (ad 37)), (1, .int x1)]) rfl ?_
  unfold f_X0_traced at h
  refine g_iload_n F (dAt dk_X0_traced 0 rfl) 1 rfl ?_
  refine g_if_lt (tgt := 27) F (dAt dk_X0_traced 1 rfl) (by decide) h (fun c1 h => ?_) (fun c1 h => ?_)
  · refine g_iconst (v := (-1)) F (dAt dk_X0_traced 14 rfl) (by decide) ?_
    cases h
    exact E (dAt dk_X0_traced 15 rfl) rfl
  · refine g_iload_n F (dAt dk_X0_traced 2 rfl) 1 rfl ?_
    refine g_aload_n F (dAt dk_X0_traced 3 rfl) 0 rfl ?_
    refine gg_Doer_ran F (gm mw_172 rfl) (dAt dk_X0_traced 4 rfl) ?_
    refine g_icmp_ge (tgt := 27) F (dAt dk_X0_traced 5 rfl) (by decide) h (fun c2 h => ?_) (fun c2 h => ?_)
    · refine g_iconst (v := (-1)) F (dAt dk_X0_traced 14 rfl) (by decide) ?_
      cases h
      exact E (dAt dk_X0_traced 15 rfl) rfl
    · refine g_iload_n F (dAt dk_X0_traced 6 rfl) 1 rfl ?_
      refine g_bipush (v := 20) F (dAt dk_X0_traced 7 rfl) (by decide) ?_
      refine g_icmp_ge (tgt := 27) F (dAt dk_X0_traced 8 rfl) (by decide) h (fun c3 h => ?_) (fun c3 h => ?_)
      · refine g_iconst (v := (-1)) F (dAt dk_X0_traced 14 rfl) (by decide) ?_
        cases h
        exact E (dAt dk_X0_traced 15 rfl) rfl
      · refine g_aload_n F (dAt dk_X0_traced 9 rfl) 0 rfl ?_
        refine gg_Doer_trace F (gm mw_171 rfl) (dAt dk_X0_traced 10 rfl) ?_
        refine g_iload_n F (dAt dk_X0_traced 11 rfl) 1 rfl ?_
        refine g_ck h (fun hi4 h => ?_)
        refine g_ialoadc F ai_trace (dAt dk_X0_traced 12 rfl) hi4 ?_
        refine g_goto (tgt := 28) F (dAt dk_X0_traced 13 rfl) (by decide) ?_
        cases h
        exact E (dAt dk_X0_traced 15 rfl) rfl
theorem ms_X5_isKind : MS yX5_isKind cX5_isKind 1 (some .boolean) 1 := ⟨(gm mw_330 rfl), (gm mw_329 rfl), (gm mw_69 rfl), by decide +kernel, by decide⟩
theorem c_X5_isKind {l : Launch} {D : va_G} {ad : Nat → Nat} {g : Gv} {t u : Mem} {x0 : Int32} {r : Int32} (hJ : Jad ad) (h : f_X5_isKind x0 = some r) : ConI l yX5_isKind cX5_isKind 1 (some .boolean) 0 [.int x0] D ad g t u t u r := by
  refine con_i hJ (by decide) (Nat.le_of_ble_eq_true rfl) rfl (fun X F E => ?_)
  refine g_lv (lv' := [(0, .int x0)]) rfl ?_
  unfold f_X5_isKind at h
  refine g_iload_n F (dAt dk_X5_isKind 0 rfl) 0 rfl ?_
  refine g_if_lt (tgt := 14) F (dAt dk_X5_isKind 1 rfl) (by decide) h (fun c1 h => ?_) (fun c1 h => ?_)
  · refine g_iconst (v := 0) F (dAt dk_X5_isKind 7 rfl) (by decide) ?_
    cases h
    exact E (dAt dk_X5_isKind 8 rfl) rfl
  · refine g_iload_n F (dAt dk_X5_isKind 2 rfl) 0 rfl ?_
    refine g_bipush (v := 6) F (dAt dk_X5_isKind 3 rfl) (by decide) ?_
    refine g_icmp_gt (tgt := 14) F (dAt dk_X5_isKind 4 rfl) (by decide) h (fun c2 h => ?_) (fun c2 h => ?_)
    · refine g_iconst (v := 0) F (dAt dk_X5_isKind 7 rfl) (by decide) ?_
      cases h
      exact E (dAt dk_X5_isKind 8 rfl) rfl
    · refine g_iconst (v := 1) F (dAt dk_X5_isKind 5 rfl) (by decide) ?_
      refine g_goto (tgt := 15) F (dAt dk_X5_isKind 6 rfl) (by decide) ?_
      cases h
      exact E (dAt dk_X5_isKind 8 rfl) rfl
theorem ms_X5_kindAbove : MS yX5_kindAbove cX5_kindAbove 1 (some .int) 1 := ⟨(gm mw_821 rfl), (gm mw_820 rfl), (gm mw_69 rfl), by decide +kernel, by decide⟩
theorem c_X5_kindAbove {l : Launch} {D : va_G} {ad : Nat → Nat} {g : Gv} {t u : Mem} {x0 : Int32} {r : Int32} (hJ : Jad ad) (h : f_X5_kindAbove x0 = some r) : ConI l yX5_kindAbove cX5_kindAbove 1 (some .int) 1 [.int x0] D ad g t u t u r := by
  refine con_i hJ (by decide) (Nat.le_of_ble_eq_true rfl) rfl (fun X F E => ?_)
  refine g_lv (lv' := [(0, .int x0)]) rfl ?_
  unfold f_X5_kindAbove at h
  refine g_iload_n F (dAt dk_X5_kindAbove 0 rfl) 0 rfl ?_
  refine g_invS_ip F ms_X5_isKind (gm mw_328 rfl) (dAt dk_X5_kindAbove 1 rfl) [.int x0] rfl rfl (by decide) (Nat.le_of_ble_eq_true rfl) h (fun _ hf => c_X5_isKind hJ hf) (fun r1 h => ?_)
  refine g_if_eq (tgt := 15) F (dAt dk_X5_kindAbove 2 rfl) (by decide) h (fun c2 h => ?_) (fun c2 h => ?_)
  · refine g_iconst (v := (-1)) F (dAt dk_X5_kindAbove 7 rfl) (by decide) ?_
    cases h
    exact E (dAt dk_X5_kindAbove 8 rfl) rfl
  · refine g_getsK0 F (gm mw_822 rfl) (dAt dk_X5_kindAbove 3 rfl) ?_
    refine g_iload_n F (dAt dk_X5_kindAbove 4 rfl) 0 rfl ?_
    refine g_ck h (fun hi3 h => ?_)
    refine g_ialdK0 F (dAt dk_X5_kindAbove 5 rfl) hi3 ?_
    refine g_goto (tgt := 16) F (dAt dk_X5_kindAbove 6 rfl) (by decide) ?_
    cases h
    exact E (dAt dk_X5_kindAbove 8 rfl) rfl
theorem ms_X0_bodyFrom : MS yX0_bodyFrom cX0_bodyFrom 5 (some .int) 2 := ⟨(gm mw_815 rfl), (gm mw_814 rfl), (gm mw_73 rfl), by decide +kernel, by decide⟩
theorem c_X0_bodyFrom {l : Launch} {D : va_G} {ad : Nat → Nat} {g : Gv} {t u : Mem} {n : Nat} {x0 : Int32} {x1 : Int32} {r : Int32} (hJ : Jad ad) (h : f_X0_bodyFrom n x0 x1 = some r) : ConI l yX0_bodyFrom cX0_bodyFrom 5 (some .int) 2 [.int x0, .int x1] D ad g t u t u r := by
  refine con_i hJ (by decide) (Nat.le_of_ble_eq_true rfl) rfl (fun X F E => ?_)
  have J53 : ∀ (self4 : Int32 × Int32 → Option Int32), (∀ s, self4 s = some r → G X D ad g t u [(1, .int x1), (2, .int s.1), (3, .int s.2)] 4 []) → ∀ (v2 : Int32) (v3 : Int32), jn_X0_bodyFrom_53 n x0 x1 self4 v2 v3 = some r → G X D ad g t u [(1, .int x1), (2, .int v2), (3, .int v3)] 53 [] := by
    intro self4 ih4 v2 v3 h
    unfold jn_X0_bodyFrom_53 at h
    refine g_iload_n F (dAt dk_X0_bodyFrom 30 rfl) 1 rfl ?_
    refine g_invSN_ip F ms_X5_kindAbove (nw_819 F) (dAt dk_X0_bodyFrom 31 rfl) [.int v2] rfl rfl (by decide) (Nat.le_of_ble_eq_true rfl) h (fun _ hf => c_X5_kindAbove hJ hf) (fun r9 h => ?_)
    refine g_istore_n (lv' := [(2, .int r9), (1, .int x1), (3, .int v3)]) F (dAt dk_X0_bodyFrom 32 rfl) (by decide) rfl ?_
    refine g_iinc (lv' := [(3, .int (v3 + 1)), (2, .int r9), (1, .int x1)]) F (dAt dk_X0_bodyFrom 33 rfl) 2 rfl (w := 1) (by decide) (by decide) rfl ?_
    refine g_goto (tgt := 4) F (dAt dk_X0_bodyFrom 34 rfl) (by decide) ?_
    refine g_sub (lv' := [(1, .int x1), (2, .int r9), (3, .int (v3 + 1))]) [2, 1, 0] rfl ?_
    exact ih4 (r9, (v3 + 1)) h
  have H4 : ∀ (k : Nat) (s : Int32 × Int32), iter (bd_X0_bodyFrom_4 n x0 x1) k s = some r → G X D ad g t u [(1, .int x1), (2, .int s.1), (3, .int s.2)] 4 [] := by
    refine iter_walk (P := fun (s : Int32 × Int32) => G X D ad g t u [(1, .int x1), (2, .int s.1), (3, .int s.2)] 4 []) (fun self4 ih4 s h => ?_)
    obtain ⟨v2, v3⟩ := s
    change G X D ad g t u [(1, .int x1), (2, .int v2), (3, .int v3)] 4 []
    unfold bd_X0_bodyFrom_4 at h; try dsimp only at h
    refine g_iload_n F (dAt dk_X0_bodyFrom 4 rfl) 2 rfl ?_
    refine g_iconst (v := 3) F (dAt dk_X0_bodyFrom 5 rfl) (by decide) ?_
    refine g_icmp_ge (tgt := 64) F (dAt dk_X0_bodyFrom 6 rfl) (by decide) h (fun c1 h => ?_) (fun c1 h => ?_)
    · refine g_iconst (v := 0) F (dAt dk_X0_bodyFrom 35 rfl) (by decide) ?_
      cases h
      exact E (dAt dk_X0_bodyFrom 36 rfl) rfl
    · refine g_iload_n F (dAt dk_X0_bodyFrom 7 rfl) 1 rfl ?_
      refine g_invSN_ip F ms_X5_isKind (nw_816 F) (dAt dk_X0_bodyFrom 8 rfl) [.int v2] rfl rfl (by decide) (Nat.le_of_ble_eq_true rfl) h (fun _ hf => c_X5_isKind hJ hf) (fun r2 h => ?_)
      refine g_if_eq (tgt := 64) F (dAt dk_X0_bodyFrom 9 rfl) (by decide) h (fun c3 h => ?_) (fun c3 h => ?_)
      · refine g_iconst (v := 0) F (dAt dk_X0_bodyFrom 35 rfl) (by decide) ?_
        cases h
        exact E (dAt dk_X0_bodyFrom 36 rfl) rfl
      · refine g_iconst (v := 3) F (dAt dk_X0_bodyFrom 10 rfl) (by decide) ?_
        refine g_iload_n F (dAt dk_X0_bodyFrom 11 rfl) 1 rfl ?_
        refine g_imul F (dAt dk_X0_bodyFrom 12 rfl) ?_
        refine g_iload_n F (dAt dk_X0_bodyFrom 13 rfl) 0 rfl ?_
        refine g_iadd F (dAt dk_X0_bodyFrom 14 rfl) ?_
        refine g_istore (lv' := [(4, .int ((3 * v2) + x1)), (1, .int x1), (2, .int v2), (3, .int v3)]) F (dAt dk_X0_bodyFrom 15 rfl) (by decide) rfl ?_
        refine g_iload F (dAt dk_X0_bodyFrom 16 rfl) 0 rfl ?_
        refine g_if_lt (tgt := 53) F (dAt dk_X0_bodyFrom 17 rfl) (by decide) h (fun c4 h => ?_) (fun c4 h => ?_)
        · refine g_sub (lv' := [(1, .int x1), (2, .int v2), (3, .int v3)]) [1, 2, 3] rfl ?_
          exact J53 self4 ih4 v2 v3 h
        · refine g_iload F (dAt dk_X0_bodyFrom 18 rfl) 0 rfl ?_
          refine g_getsK2 F (gm mw_817 rfl) (dAt dk_X0_bodyFrom 19 rfl) ?_
          refine g_alenK2 F (dAt dk_X0_bodyFrom 20 rfl) ?_
          refine g_icmp_ge (tgt := 53) F (dAt dk_X0_bodyFrom 21 rfl) (by decide) h (fun c5 h => ?_) (fun c5 h => ?_)
          · refine g_sub (lv' := [(1, .int x1), (2, .int v2), (3, .int v3)]) [1, 2, 3] rfl ?_
            exact J53 self4 ih4 v2 v3 h
          · refine g_getsK2 F (gm mw_817 rfl) (dAt dk_X0_bodyFrom 22 rfl) ?_
            refine g_iload F (dAt dk_X0_bodyFrom 23 rfl) 0 rfl ?_
            refine g_ck h (fun hi6 h => ?_)
            refine g_ialdK2 F (dAt dk_X0_bodyFrom 24 rfl) hi6 ?_
            refine g_if_eq (tgt := 53) F (dAt dk_X0_bodyFrom 25 rfl) (by decide) h (fun c7 h => ?_) (fun c7 h => ?_)
            · refine g_sub (lv' := [(1, .int x1), (2, .int v2), (3, .int v3)]) [1, 2, 3] rfl ?_
              exact J53 self4 ih4 v2 v3 h
            · refine g_getsK2 F (gm mw_817 rfl) (dAt dk_X0_bodyFrom 26 rfl) ?_
              refine g_iload F (dAt dk_X0_bodyFrom 27 rfl) 0 rfl ?_
              refine g_ck h (fun hi8 h => ?_)
              refine g_ialdK2 F (dAt dk_X0_bodyFrom 28 rfl) hi8 ?_
              cases h
              exact E (dAt dk_X0_bodyFrom 29 rfl) rfl
  refine g_lv (lv' := [(0, .int x0), (1, .int x1)]) rfl ?_
  unfold f_X0_bodyFrom at h
  refine g_iload_n F (dAt dk_X0_bodyFrom 0 rfl) 0 rfl ?_
  refine g_istore_n (lv' := [(2, .int x0), (0, .int x0), (1, .int x1)]) F (dAt dk_X0_bodyFrom 1 rfl) (by decide) rfl ?_
  refine g_iconst (v := 0) F (dAt dk_X0_bodyFrom 2 rfl) (by decide) ?_
  refine g_istore_n (lv' := [(3, .int 0), (2, .int x0), (0, .int x0), (1, .int x1)]) F (dAt dk_X0_bodyFrom 3 rfl) (by decide) rfl ?_
  refine g_sub (lv' := [(1, .int x1), (2, .int x0), (3, .int 0)]) [3, 1, 0] rfl ?_
  exact H4  n (x0, 0) h
theorem mi_X0_noteBody : MI yX0_noteBody cX0_noteBody 2 none "MillOfDistances$Doer" 1 := ⟨(gm mw_826 rfl), (gm mw_825 rfl), (gm mw_24 rfl), (gm mw_73 rfl), by decide +kernel, by decide⟩
theorem c_X0_noteBody {l : Launch} {D : va_G} {ad : Nat → Nat} {g : Gv} {t u : Mem} {x1 : Int32} {t' : Mem} (hJ : Jad ad) (h : f_X0_noteBody x1 t = some ((), t')) : ConV l yX0_noteBody cX0_noteBody 2 none 0 [.ref (ad 37), .int x1] D ad g t u t' u := by
  refine con_v hJ (by decide) (Nat.le_of_ble_eq_true rfl) rfl (fun X F E => ?_)
  refine g_lv (lv' := [(0, .ref (ad 37)), (1, .int x1)]) rfl ?_
  unfold f_X0_noteBody at h
  refine g_aload_n F (dAt dk_X0_noteBody 0 rfl) 0 rfl ?_
  refine gg_Doer_ran F (gm mw_172 rfl) (dAt dk_X0_noteBody 1 rfl) ?_
  refine g_bipush (v := 20) F (dAt dk_X0_noteBody 2 rfl) (by decide) ?_
  refine g_icmp_ge (tgt := 19) F (dAt dk_X0_noteBody 3 rfl) (by decide) h (fun c1 h => ?_) (fun c1 h => ?_)
  · refine g_aload_n F (dAt dk_X0_noteBody 10 rfl) 0 rfl ?_
    refine g_dup F (dAt dk_X0_noteBody 11 rfl) rfl ?_
    refine gg_Doer_ran F (gm mw_172 rfl) (dAt dk_X0_noteBody 12 rfl) ?_
    refine g_iconst (v := 1) F (dAt dk_X0_noteBody 13 rfl) (by decide) ?_
    refine g_iadd F (dAt dk_X0_noteBody 14 rfl) ?_
    refine gp_Doer_ran F (gm mw_172 rfl) (dAt dk_X0_noteBody 15 rfl) ?_
    refine g_ltt h (fun t2 h => ?_)
    cases h
    exact E (dAt dk_X0_noteBody 16 rfl)
  · refine g_aload_n F (dAt dk_X0_noteBody 4 rfl) 0 rfl ?_
    refine gg_Doer_trace F (gm mw_171 rfl) (dAt dk_X0_noteBody 5 rfl) ?_
    refine g_aload_n F (dAt dk_X0_noteBody 6 rfl) 0 rfl ?_
    refine gg_Doer_ran F (gm mw_172 rfl) (dAt dk_X0_noteBody 7 rfl) ?_
    refine g_iload_n F (dAt dk_X0_noteBody 8 rfl) 1 rfl ?_
    refine g_ck h (fun hi3 h => ?_)
    refine g_iastorec F ai_trace (dAt dk_X0_noteBody 9 rfl) hi3 ?_
    refine g_ltt h (fun t4 h => ?_)
    refine g_aload_n F (dAt dk_X0_noteBody 10 rfl) 0 rfl ?_
    refine g_dup F (dAt dk_X0_noteBody 11 rfl) rfl ?_
    refine gg_Doer_ran F (gm mw_172 rfl) (dAt dk_X0_noteBody 12 rfl) ?_
    refine g_iconst (v := 1) F (dAt dk_X0_noteBody 13 rfl) (by decide) ?_
    refine g_iadd F (dAt dk_X0_noteBody 14 rfl) ?_
    refine gp_Doer_ran F (gm mw_172 rfl) (dAt dk_X0_noteBody 15 rfl) ?_
    refine g_ltt h (fun t5 h => ?_)
    cases h
    exact E (dAt dk_X0_noteBody 16 rfl)
theorem ms_X0_run : MS yX0_run cX0_run 8 (some .int) 5 := ⟨(gm mw_812 rfl), (gm mw_811 rfl), (gm mw_73 rfl), by decide +kernel, by decide⟩
theorem c_X0_run {l : Launch} {D : va_G} {ad : Nat → Nat} {g : Gv} {u : Mem} (hJ : Jad ad) (k : Nat) : ∀ (x1 : Int32) (x2 : Int32) (x3 : Int32) (x4 : Int32) (t t' : Mem) (r : Int32), f_X0_run k x1 x2 x3 x4 t = some (r, t') → ConI l yX0_run cX0_run 8 (some .int) (k + 2) [.ref (ad 37), .int x1, .int x2, .int x3, .int x4] D ad g t u t' u r := by
  induction k with
  | zero => intro x1 x2 x3 x4 t t' r h; cases h
  | succ k ihk =>
  intro x1 x2 x3 x4 t t' r h
  refine con_i hJ (by decide) (Nat.le_of_ble_eq_true rfl) rfl (fun X F E => ?_)
  change (fun slf => bnp (f_X0_bodyFrom 12 x1 x2) fun r1 => if r1 = 0 then (some (0, t)) else if x4 ≤ 40 then (bnd (f_X0_noteBody r1 t) fun _ t4 => bnp (f_X5_kindAbove ((r1 / 10) - 1)) fun r5 => if r1 = 10 then (some (x3 + (t4.1 37 3), t4)) else if r1 = 11 then (bnd (slf (t4.1 37 2) 0 x3 (x4 + 1) t4) fun r8 t9 => some (r8 * 2, t9)) else if r1 = 12 then (bnd (slf (t4.1 37 2) 1 x3 (x4 + 1) t4) fun r11 t12 => bnd (slf (t12.1 37 2) 0 (x3 - (t12.1 37 4)) (x4 + 1) t12) fun r13 t14 => some (r11 ^^^ r13, t14)) else if r1 = 20 then (bnd (slf r5 0 x3 (x4 + 1) t4) fun r16 t17 => some (r16 + (t17.1 37 4), t17)) else if r1 = 30 then (bnd (slf r5 1 x3 (x4 + 1) t4) fun r19 t20 => some (r19 * 3, t20)) else if r1 = 40 then (bnd (slf r5 1 (x3 + 1) (x4 + 1) t4) fun r22 t23 => some (r22, t23)) else if r1 = 50 then (bnd (slf r5 2 x3 (x4 + 1) t4) fun r25 t26 => some (-r25, t26)) else if r1 = 51 then (bnd (slf r5 0 x3 (x4 + 1) t4) fun r28 t29 => some (r28 - (t29.1 37 3), t29)) else if r1 = 60 then (bnd (slf r5 2 x3 (x4 + 1) t4) fun r31 t32 => some (r31 ^^^ 5, t32)) else if r1 = 70 then (bnd (slf r5 0 x3 (x4 + 1) t4) fun r34 t35 => some (r34 * 2, t35)) else bnd (slf r5 1 (x3 - (t4.1 37 4)) (x4 + 1) t4) fun r36 t37 => some (r36, t37)) else some (0, t)) (f_X0_run k) = _ at h
  generalize hslf : f_X0_run k = slf at h ihk
  dsimp only at h
  refine g_lv (lv' := [(0, .ref (ad 37)), (1, .int x1), (2, .int x2), (3, .int x3), (4, .int x4)]) rfl ?_
  refine g_iload_n F (dAt dk_X0_run 0 rfl) 1 rfl ?_
  refine g_iload_n F (dAt dk_X0_run 1 rfl) 2 rfl ?_
  refine g_invS_ip F ms_X0_bodyFrom (gm mw_813 rfl) (dAt dk_X0_run 2 rfl) [.int x1, .int x2] rfl rfl (by omega) (Nat.le_of_ble_eq_true rfl) h (fun _ hf => c_X0_bodyFrom hJ hf) (fun r1 h => ?_)
  refine g_istore (lv' := [(5, .int r1), (0, .ref (ad 37)), (1, .int x1), (2, .int x2), (3, .int x3), (4, .int x4)]) F (dAt dk_X0_run 3 rfl) (by decide) rfl ?_
  refine g_iload F (dAt dk_X0_run 4 rfl) 0 rfl ?_
  refine g_if_eq (tgt := 19) F (dAt dk_X0_run 5 rfl) (by decide) h (fun c2 h => ?_) (fun c2 h => ?_)
  · refine g_iconst (v := 0) F (dAt dk_X0_run 9 rfl) (by decide) ?_
    cases h
    exact E (dAt dk_X0_run 10 rfl) rfl
  · refine g_iload F (dAt dk_X0_run 6 rfl) 5 rfl ?_
    refine g_bipush (v := 40) F (dAt dk_X0_run 7 rfl) (by decide) ?_
    refine g_icmp_le (tgt := 21) F (dAt dk_X0_run 8 rfl) (by decide) h (fun c3 h => ?_) (fun c3 h => ?_)
    · refine g_aload_n F (dAt dk_X0_run 11 rfl) 1 rfl ?_
      refine g_iload F (dAt dk_X0_run 12 rfl) 0 rfl ?_
      refine g_invV_vc F mi_X0_noteBody (gm mw_823 rfl) (dAt dk_X0_run 13 rfl) (rcx_of F rc_Doer) [.int r1] rfl rfl (by omega) (Nat.le_of_ble_eq_true rfl) h (fun _ _ hf => c_X0_noteBody hJ hf) (fun _ t4 h => ?_)
      refine g_iload F (dAt dk_X0_run 14 rfl) 0 rfl ?_
      refine g_bipush (v := 10) F (dAt dk_X0_run 15 rfl) (by decide) ?_
      refine g_idiv F (dAt dk_X0_run 16 rfl) (by decide) ?_
      refine g_iconst (v := 1) F (dAt dk_X0_run 17 rfl) (by decide) ?_
      refine g_isub F (dAt dk_X0_run 18 rfl) ?_
      refine g_invSN_ip F ms_X5_kindAbove (nw_819 F) (dAt dk_X0_run 19 rfl) [.int ((r1 / 10) - 1)] rfl rfl (by omega) (Nat.le_of_ble_eq_true rfl) h (fun _ hf => c_X5_kindAbove hJ hf) (fun r5 h => ?_)
      refine g_istore (lv' := [(6, .int r5), (5, .int r1), (0, .ref (ad 37)), (1, .int x1), (2, .int x2), (3, .int x3), (4, .int x4)]) F (dAt dk_X0_run 20 rfl) (by decide) rfl ?_
      refine g_iload F (dAt dk_X0_run 21 rfl) 6 rfl ?_
      refine g_iconst (v := 1) F (dAt dk_X0_run 22 rfl) (by decide) ?_
      refine g_iadd F (dAt dk_X0_run 23 rfl) ?_
      refine g_istore (lv' := [(7, .int (x4 + 1)), (6, .int r5), (5, .int r1), (0, .ref (ad 37)), (1, .int x1), (2, .int x2), (3, .int x3), (4, .int x4)]) F (dAt dk_X0_run 24 rfl) (by decide) rfl ?_
      refine g_iload F (dAt dk_X0_run 25 rfl) 2 rfl ?_
      refine g_case 10 h (fun c6 h => ?_) (fun c6 h => ?_)
      · refine g_look (tgt := 136) (off := 89) F (dAt dk_X0_run 26 rfl) (by decide) (by rw [c6]; rfl) (by decide) ?_
        refine g_iload_n F (dAt dk_X0_run 27 rfl) 6 rfl ?_
        refine g_aload_n F (dAt dk_X0_run 28 rfl) 3 rfl ?_
        refine gg_Doer_m F (gm mw_175 rfl) (dAt dk_X0_run 29 rfl) ?_
        refine g_iadd F (dAt dk_X0_run 30 rfl) ?_
        cases h
        exact E (dAt dk_X0_run 31 rfl) rfl
      · refine g_case 11 h (fun c7 h => ?_) (fun c7 h => ?_)
        · refine g_look (tgt := 143) (off := 96) F (dAt dk_X0_run 26 rfl) (by decide) (by rw [c7]; rfl) (by decide) ?_
          refine g_aload_n F (dAt dk_X0_run 32 rfl) 3 rfl ?_
          refine g_aload_n F (dAt dk_X0_run 33 rfl) 3 rfl ?_
          refine gg_Doer_kind F (gm mw_174 rfl) (dAt dk_X0_run 34 rfl) ?_
          refine g_iconst (v := 0) F (dAt dk_X0_run 35 rfl) (by decide) ?_
          refine g_iload_n F (dAt dk_X0_run 36 rfl) 6 rfl ?_
          refine g_iload F (dAt dk_X0_run 37 rfl) 0 rfl ?_
          refine g_invS_ic F ms_X0_run (gm mw_810 rfl) (dAt dk_X0_run 38 rfl) [.ref (ad 37), .int (t4.1 37 2), .int 0, .int x3, .int (x4 + 1)] rfl rfl (by omega) (Nat.le_of_ble_eq_true rfl) h (fun _ _ hf => ihk _ _ _ _ _ _ _ hf) (fun r8 t9 h => ?_)
          refine g_iconst (v := 2) F (dAt dk_X0_run 39 rfl) (by decide) ?_
          refine g_imul F (dAt dk_X0_run 40 rfl) ?_
          cases h
          exact E (dAt dk_X0_run 41 rfl) rfl
        · refine g_case 12 h (fun c10 h => ?_) (fun c10 h => ?_)
          · refine g_look (tgt := 158) (off := 111) F (dAt dk_X0_run 26 rfl) (by decide) (by rw [c10]; rfl) (by decide) ?_
            refine g_aload_n F (dAt dk_X0_run 42 rfl) 3 rfl ?_
            refine g_aload_n F (dAt dk_X0_run 43 rfl) 3 rfl ?_
            refine gg_Doer_kind F (gm mw_174 rfl) (dAt dk_X0_run 44 rfl) ?_
            refine g_iconst (v := 1) F (dAt dk_X0_run 45 rfl) (by decide) ?_
            refine g_iload_n F (dAt dk_X0_run 46 rfl) 6 rfl ?_
            refine g_iload F (dAt dk_X0_run 47 rfl) 0 rfl ?_
            refine g_invS_ic F ms_X0_run (gm mw_810 rfl) (dAt dk_X0_run 48 rfl) [.ref (ad 37), .int (t4.1 37 2), .int 1, .int x3, .int (x4 + 1)] rfl rfl (by omega) (Nat.le_of_ble_eq_true rfl) h (fun _ _ hf => ihk _ _ _ _ _ _ _ hf) (fun r11 t12 h => ?_)
            refine g_aload_n F (dAt dk_X0_run 49 rfl) 3 rfl ?_
            refine g_aload_n F (dAt dk_X0_run 50 rfl) 3 rfl ?_
            refine gg_Doer_kind F (gm mw_174 rfl) (dAt dk_X0_run 51 rfl) ?_
            refine g_iconst (v := 0) F (dAt dk_X0_run 52 rfl) (by decide) ?_
            refine g_iload_n F (dAt dk_X0_run 53 rfl) 6 rfl ?_
            refine g_aload_n F (dAt dk_X0_run 54 rfl) 3 rfl ?_
            refine gg_Doer_k F (gm mw_176 rfl) (dAt dk_X0_run 55 rfl) ?_
            refine g_isub F (dAt dk_X0_run 56 rfl) ?_
            refine g_iload F (dAt dk_X0_run 57 rfl) 0 rfl ?_
            refine g_invS_ic F ms_X0_run (gm mw_810 rfl) (dAt dk_X0_run 58 rfl) [.ref (ad 37), .int (t12.1 37 2), .int 0, .int (x3 - (t12.1 37 4)), .int (x4 + 1)] rfl rfl (by omega) (Nat.le_of_ble_eq_true rfl) h (fun _ _ hf => ihk _ _ _ _ _ _ _ hf) (fun r13 t14 h => ?_)
            refine g_ixor F (dAt dk_X0_run 59 rfl) ?_
            cases h
            exact E (dAt dk_X0_run 60 rfl) rfl
          · refine g_case 20 h (fun c15 h => ?_) (fun c15 h => ?_)
            · refine g_look (tgt := 189) (off := 142) F (dAt dk_X0_run 26 rfl) (by decide) (by rw [c15]; rfl) (by decide) ?_
              refine g_aload_n F (dAt dk_X0_run 61 rfl) 3 rfl ?_
              refine g_iload F (dAt dk_X0_run 62 rfl) 1 rfl ?_
              refine g_iconst (v := 0) F (dAt dk_X0_run 63 rfl) (by decide) ?_
              refine g_iload_n F (dAt dk_X0_run 64 rfl) 6 rfl ?_
              refine g_iload F (dAt dk_X0_run 65 rfl) 0 rfl ?_
              refine g_invS_ic F ms_X0_run (gm mw_810 rfl) (dAt dk_X0_run 66 rfl) [.ref (ad 37), .int r5, .int 0, .int x3, .int (x4 + 1)] rfl rfl (by omega) (Nat.le_of_ble_eq_true rfl) h (fun _ _ hf => ihk _ _ _ _ _ _ _ hf) (fun r16 t17 h => ?_)
              refine g_aload_n F (dAt dk_X0_run 67 rfl) 3 rfl ?_
              refine gg_Doer_k F (gm mw_176 rfl) (dAt dk_X0_run 68 rfl) ?_
              refine g_iadd F (dAt dk_X0_run 69 rfl) ?_
              cases h
              exact E (dAt dk_X0_run 70 rfl) rfl
            · refine g_case 30 h (fun c18 h => ?_) (fun c18 h => ?_)
              · refine g_look (tgt := 205) (off := 158) F (dAt dk_X0_run 26 rfl) (by decide) (by rw [c18]; rfl) (by decide) ?_
                refine g_aload_n F (dAt dk_X0_run 71 rfl) 3 rfl ?_
                refine g_iload F (dAt dk_X0_run 72 rfl) 1 rfl ?_
                refine g_iconst (v := 1) F (dAt dk_X0_run 73 rfl) (by decide) ?_
                refine g_iload_n F (dAt dk_X0_run 74 rfl) 6 rfl ?_
                refine g_iload F (dAt dk_X0_run 75 rfl) 0 rfl ?_
                refine g_invS_ic F ms_X0_run (gm mw_810 rfl) (dAt dk_X0_run 76 rfl) [.ref (ad 37), .int r5, .int 1, .int x3, .int (x4 + 1)] rfl rfl (by omega) (Nat.le_of_ble_eq_true rfl) h (fun _ _ hf => ihk _ _ _ _ _ _ _ hf) (fun r19 t20 h => ?_)
                refine g_iconst (v := 3) F (dAt dk_X0_run 77 rfl) (by decide) ?_
                refine g_imul F (dAt dk_X0_run 78 rfl) ?_
                cases h
                exact E (dAt dk_X0_run 79 rfl) rfl
              · refine g_case 40 h (fun c21 h => ?_) (fun c21 h => ?_)
                · refine g_look (tgt := 218) (off := 171) F (dAt dk_X0_run 26 rfl) (by decide) (by rw [c21]; rfl) (by decide) ?_
                  refine g_aload_n F (dAt dk_X0_run 80 rfl) 3 rfl ?_
                  refine g_iload F (dAt dk_X0_run 81 rfl) 1 rfl ?_
                  refine g_iconst (v := 1) F (dAt dk_X0_run 82 rfl) (by decide) ?_
                  refine g_iload_n F (dAt dk_X0_run 83 rfl) 6 rfl ?_
                  refine g_iconst (v := 1) F (dAt dk_X0_run 84 rfl) (by decide) ?_
                  refine g_iadd F (dAt dk_X0_run 85 rfl) ?_
                  refine g_iload F (dAt dk_X0_run 86 rfl) 0 rfl ?_
                  refine g_invS_ic F ms_X0_run (gm mw_810 rfl) (dAt dk_X0_run 87 rfl) [.ref (ad 37), .int r5, .int 1, .int (x3 + 1), .int (x4 + 1)] rfl rfl (by omega) (Nat.le_of_ble_eq_true rfl) h (fun _ _ hf => ihk _ _ _ _ _ _ _ hf) (fun r22 t23 h => ?_)
                  cases h
                  exact E (dAt dk_X0_run 88 rfl) rfl
                · refine g_case 50 h (fun c24 h => ?_) (fun c24 h => ?_)
                  · refine g_look (tgt := 231) (off := 184) F (dAt dk_X0_run 26 rfl) (by decide) (by rw [c24]; rfl) (by decide) ?_
                    refine g_aload_n F (dAt dk_X0_run 89 rfl) 3 rfl ?_
                    refine g_iload F (dAt dk_X0_run 90 rfl) 1 rfl ?_
                    refine g_iconst (v := 2) F (dAt dk_X0_run 91 rfl) (by decide) ?_
                    refine g_iload_n F (dAt dk_X0_run 92 rfl) 6 rfl ?_
                    refine g_iload F (dAt dk_X0_run 93 rfl) 0 rfl ?_
                    refine g_invS_ic F ms_X0_run (gm mw_810 rfl) (dAt dk_X0_run 94 rfl) [.ref (ad 37), .int r5, .int 2, .int x3, .int (x4 + 1)] rfl rfl (by omega) (Nat.le_of_ble_eq_true rfl) h (fun _ _ hf => ihk _ _ _ _ _ _ _ hf) (fun r25 t26 h => ?_)
                    refine g_ineg F (dAt dk_X0_run 95 rfl) ?_
                    cases h
                    exact E (dAt dk_X0_run 96 rfl) rfl
                  · refine g_case 51 h (fun c27 h => ?_) (fun c27 h => ?_)
                    · refine g_look (tgt := 243) (off := 196) F (dAt dk_X0_run 26 rfl) (by decide) (by rw [c27]; rfl) (by decide) ?_
                      refine g_aload_n F (dAt dk_X0_run 97 rfl) 3 rfl ?_
                      refine g_iload F (dAt dk_X0_run 98 rfl) 1 rfl ?_
                      refine g_iconst (v := 0) F (dAt dk_X0_run 99 rfl) (by decide) ?_
                      refine g_iload_n F (dAt dk_X0_run 100 rfl) 6 rfl ?_
                      refine g_iload F (dAt dk_X0_run 101 rfl) 0 rfl ?_
                      refine g_invS_ic F ms_X0_run (gm mw_810 rfl) (dAt dk_X0_run 102 rfl) [.ref (ad 37), .int r5, .int 0, .int x3, .int (x4 + 1)] rfl rfl (by omega) (Nat.le_of_ble_eq_true rfl) h (fun _ _ hf => ihk _ _ _ _ _ _ _ hf) (fun r28 t29 h => ?_)
                      refine g_aload_n F (dAt dk_X0_run 103 rfl) 3 rfl ?_
                      refine gg_Doer_m F (gm mw_175 rfl) (dAt dk_X0_run 104 rfl) ?_
                      refine g_isub F (dAt dk_X0_run 105 rfl) ?_
                      cases h
                      exact E (dAt dk_X0_run 106 rfl) rfl
                    · refine g_case 60 h (fun c30 h => ?_) (fun c30 h => ?_)
                      · refine g_look (tgt := 259) (off := 212) F (dAt dk_X0_run 26 rfl) (by decide) (by rw [c30]; rfl) (by decide) ?_
                        refine g_aload_n F (dAt dk_X0_run 107 rfl) 3 rfl ?_
                        refine g_iload F (dAt dk_X0_run 108 rfl) 1 rfl ?_
                        refine g_iconst (v := 2) F (dAt dk_X0_run 109 rfl) (by decide) ?_
                        refine g_iload_n F (dAt dk_X0_run 110 rfl) 6 rfl ?_
                        refine g_iload F (dAt dk_X0_run 111 rfl) 0 rfl ?_
                        refine g_invS_ic F ms_X0_run (gm mw_810 rfl) (dAt dk_X0_run 112 rfl) [.ref (ad 37), .int r5, .int 2, .int x3, .int (x4 + 1)] rfl rfl (by omega) (Nat.le_of_ble_eq_true rfl) h (fun _ _ hf => ihk _ _ _ _ _ _ _ hf) (fun r31 t32 h => ?_)
                        refine g_iconst (v := 5) F (dAt dk_X0_run 113 rfl) (by decide) ?_
                        refine g_ixor F (dAt dk_X0_run 114 rfl) ?_
                        cases h
                        exact E (dAt dk_X0_run 115 rfl) rfl
                      · refine g_case 70 h (fun c33 h => ?_) (fun c33 h => ?_)
                        · refine g_look (tgt := 272) (off := 225) F (dAt dk_X0_run 26 rfl) (by decide) (by rw [c33]; rfl) (by decide) ?_
                          refine g_aload_n F (dAt dk_X0_run 116 rfl) 3 rfl ?_
                          refine g_iload F (dAt dk_X0_run 117 rfl) 1 rfl ?_
                          refine g_iconst (v := 0) F (dAt dk_X0_run 118 rfl) (by decide) ?_
                          refine g_iload_n F (dAt dk_X0_run 119 rfl) 6 rfl ?_
                          refine g_iload F (dAt dk_X0_run 120 rfl) 0 rfl ?_
                          refine g_invS_ic F ms_X0_run (gm mw_810 rfl) (dAt dk_X0_run 121 rfl) [.ref (ad 37), .int r5, .int 0, .int x3, .int (x4 + 1)] rfl rfl (by omega) (Nat.le_of_ble_eq_true rfl) h (fun _ _ hf => ihk _ _ _ _ _ _ _ hf) (fun r34 t35 h => ?_)
                          refine g_iconst (v := 2) F (dAt dk_X0_run 122 rfl) (by decide) ?_
                          refine g_imul F (dAt dk_X0_run 123 rfl) ?_
                          cases h
                          exact E (dAt dk_X0_run 124 rfl) rfl
                        · refine g_look (tgt := 285) (off := 238) F (dAt dk_X0_run 26 rfl) (by decide) (by rw [lv_osw c6 (by decide), lv_osw c7 (by decide), lv_osw c10 (by decide), lv_osw c15 (by decide), lv_osw c18 (by decide), lv_osw c21 (by decide), lv_osw c24 (by decide), lv_osw c27 (by decide), lv_osw c30 (by decide), lv_osw c33 (by decide)]; rfl) (by decide) ?_
                          refine g_aload_n F (dAt dk_X0_run 125 rfl) 3 rfl ?_
                          refine g_iload F (dAt dk_X0_run 126 rfl) 1 rfl ?_
                          refine g_iconst (v := 1) F (dAt dk_X0_run 127 rfl) (by decide) ?_
                          refine g_iload_n F (dAt dk_X0_run 128 rfl) 6 rfl ?_
                          refine g_aload_n F (dAt dk_X0_run 129 rfl) 3 rfl ?_
                          refine gg_Doer_k F (gm mw_176 rfl) (dAt dk_X0_run 130 rfl) ?_
                          refine g_isub F (dAt dk_X0_run 131 rfl) ?_
                          refine g_iload F (dAt dk_X0_run 132 rfl) 0 rfl ?_
                          refine g_invS_ic F ms_X0_run (gm mw_810 rfl) (dAt dk_X0_run 133 rfl) [.ref (ad 37), .int r5, .int 1, .int (x3 - (t4.1 37 4)), .int (x4 + 1)] rfl rfl (by omega) (Nat.le_of_ble_eq_true rfl) h (fun _ _ hf => ihk _ _ _ _ _ _ _ hf) (fun r36 t37 h => ?_)
                          cases h
                          exact E (dAt dk_X0_run 134 rfl) rfl
    · refine g_iconst (v := 0) F (dAt dk_X0_run 9 rfl) (by decide) ?_
      cases h
      exact E (dAt dk_X0_run 10 rfl) rfl
theorem mi_X0_perform : MI yX0_perform cX0_perform 6 (some .int) "MillOfDistances$Doer" 5 := ⟨(gm mw_809 rfl), (gm mw_807 rfl), (gm mw_808 rfl), (gm mw_73 rfl), by decide +kernel, by decide⟩
theorem c_X0_perform {l : Launch} {D : va_G} {ad : Nat → Nat} {g : Gv} {t u : Mem} {n : Nat} {x1 : Int32} {x2 : Int32} {x3 : Int32} {x4 : Int32} {x5 : Int32} {t' : Mem} {r : Int32} (hJ : Jad ad) (h : f_X0_perform n x1 x2 x3 x4 x5 t = some (r, t')) : ConI l yX0_perform cX0_perform 6 (some .int) 15 [.ref (ad 37), .int x1, .int x2, .int x3, .int x4, .int x5] D ad g t u t' u r := by
  refine con_i hJ (by decide) (Nat.le_of_ble_eq_true rfl) rfl (fun X F E => ?_)
  refine g_lv (lv' := [(0, .ref (ad 37)), (1, .int x1), (2, .int x2), (3, .int x3), (4, .int x4), (5, .int x5)]) rfl ?_
  unfold f_X0_perform at h
  refine g_aload_n F (dAt dk_X0_perform 0 rfl) 0 rfl ?_
  refine g_iload_n F (dAt dk_X0_perform 1 rfl) 1 rfl ?_
  refine gp_Doer_kind F (gm mw_174 rfl) (dAt dk_X0_perform 2 rfl) ?_
  refine g_ltt h (fun t1 h => ?_)
  refine g_aload_n F (dAt dk_X0_perform 3 rfl) 0 rfl ?_
  refine g_iload_n F (dAt dk_X0_perform 4 rfl) 2 rfl ?_
  refine gp_Doer_m F (gm mw_175 rfl) (dAt dk_X0_perform 5 rfl) ?_
  refine g_ltt h (fun t2 h => ?_)
  refine g_aload_n F (dAt dk_X0_perform 6 rfl) 0 rfl ?_
  refine g_iload_n F (dAt dk_X0_perform 7 rfl) 3 rfl ?_
  refine gp_Doer_k F (gm mw_176 rfl) (dAt dk_X0_perform 8 rfl) ?_
  refine g_ltt h (fun t3 h => ?_)
  refine g_aload_n F (dAt dk_X0_perform 9 rfl) 0 rfl ?_
  refine g_aload_n F (dAt dk_X0_perform 10 rfl) 0 rfl ?_
  refine gg_Doer_kind F (gm mw_174 rfl) (dAt dk_X0_perform 11 rfl) ?_
  refine g_iload F (dAt dk_X0_perform 12 rfl) 4 rfl ?_
  refine g_iload F (dAt dk_X0_perform 13 rfl) 5 rfl ?_
  refine g_iconst (v := 0) F (dAt dk_X0_perform 14 rfl) (by decide) ?_
  refine g_invS_ic F ms_X0_run (gm mw_810 rfl) (dAt dk_X0_perform 15 rfl) [.ref (ad 37), .int (t3.1 37 2), .int x4, .int x5, .int 0] rfl rfl (by decide) (Nat.le_of_ble_eq_true rfl) h (fun _ _ hf => c_X0_run hJ _ _ _ _ _ _ _ _ hf) (fun r4 t5 h => ?_)
  cases h
  exact E (dAt dk_X0_perform 16 rfl) rfl
theorem mi_X1_becomeAs : MI yX1_becomeAs cX1_becomeAs 2 none "MillOfDistances$Land" 1 := ⟨(gm mw_410 rfl), (gm mw_408 rfl), (gm mw_409 rfl), (gm mw_70 rfl), by decide +kernel, by decide⟩
theorem c_X1_becomeAs {l : Launch} {D : va_G} {ad : Nat → Nat} {g : Gv} {t u : Mem} {L : Fin 3} {x1 : Fin 3} {t' : Mem} (hJ : Jad ad) (h : f_X1_becomeAs L x1 t = some ((), t')) : ConV l yX1_becomeAs cX1_becomeAs 2 none 1 [.ref (ad (oLd L)), .ref (ad (oLd x1))] D ad g t u t' u := by
  refine con_v hJ (by decide) (Nat.le_of_ble_eq_true rfl) rfl (fun X F E => ?_)
  refine g_lv (lv' := [(0, .ref (ad (oLd L))), (1, .ref (ad (oLd x1)))]) rfl ?_
  unfold f_X1_becomeAs at h
  refine g_aload_n F (dAt dk_X1_becomeAs 0 rfl) 1 rfl ?_
  refine gg_Land_kinds x1 F (gm mw_98 rfl) (dAt dk_X1_becomeAs 1 rfl) ?_
  refine g_iconst (v := 0) F (dAt dk_X1_becomeAs 2 rfl) (by decide) ?_
  refine g_aload_n F (dAt dk_X1_becomeAs 3 rfl) 0 rfl ?_
  refine gg_Land_kinds L F (gm mw_98 rfl) (dAt dk_X1_becomeAs 4 rfl) ?_
  refine g_iconst (v := 0) F (dAt dk_X1_becomeAs 5 rfl) (by decide) ?_
  refine g_bipush (v := 8) F (dAt dk_X1_becomeAs 6 rfl) (by decide) ?_
  refine g_ck h (fun hz1 h => ?_)
  have hz1 := of_decide_eq_true hz1
  refine g_copyi F (ai_kinds x1) (ai_kinds L) (gm mw_411 rfl) (gm mw_299 rfl) (gm mw_298 rfl) (gm mw_77 rfl) (dAt dk_X1_becomeAs 7 rfl) hz1.1 hz1.2.1 hz1.2.2.1 hz1.2.2.2.1 hz1.2.2.2.2 (by decide) (Nat.le_of_ble_eq_true rfl) ?_
  refine g_ltt h (fun t2 h => ?_)
  refine g_aload_n F (dAt dk_X1_becomeAs 8 rfl) 1 rfl ?_
  refine gg_Land_marks x1 F (gm mw_100 rfl) (dAt dk_X1_becomeAs 9 rfl) ?_
  refine g_iconst (v := 0) F (dAt dk_X1_becomeAs 10 rfl) (by decide) ?_
  refine g_aload_n F (dAt dk_X1_becomeAs 11 rfl) 0 rfl ?_
  refine gg_Land_marks L F (gm mw_100 rfl) (dAt dk_X1_becomeAs 12 rfl) ?_
  refine g_iconst (v := 0) F (dAt dk_X1_becomeAs 13 rfl) (by decide) ?_
  refine g_bipush (v := 8) F (dAt dk_X1_becomeAs 14 rfl) (by decide) ?_
  refine g_ck h (fun hz3 h => ?_)
  have hz3 := of_decide_eq_true hz3
  refine g_copyi F (ai_marks x1) (ai_marks L) (gm mw_411 rfl) (gm mw_299 rfl) (gm mw_298 rfl) (gm mw_77 rfl) (dAt dk_X1_becomeAs 15 rfl) hz3.1 hz3.2.1 hz3.2.2.1 hz3.2.2.2.1 hz3.2.2.2.2 (by decide) (Nat.le_of_ble_eq_true rfl) ?_
  refine g_ltt h (fun t4 h => ?_)
  refine g_aload_n F (dAt dk_X1_becomeAs 16 rfl) 1 rfl ?_
  refine gg_Land_roads x1 F (gm mw_102 rfl) (dAt dk_X1_becomeAs 17 rfl) ?_
  refine g_iconst (v := 0) F (dAt dk_X1_becomeAs 18 rfl) (by decide) ?_
  refine g_aload_n F (dAt dk_X1_becomeAs 19 rfl) 0 rfl ?_
  refine gg_Land_roads L F (gm mw_102 rfl) (dAt dk_X1_becomeAs 20 rfl) ?_
  refine g_iconst (v := 0) F (dAt dk_X1_becomeAs 21 rfl) (by decide) ?_
  refine g_bipush (v := 64) F (dAt dk_X1_becomeAs 22 rfl) (by decide) ?_
  refine g_ck h (fun hz5 h => ?_)
  have hz5 := of_decide_eq_true hz5
  refine g_copyi F (ai_roads x1) (ai_roads L) (gm mw_411 rfl) (gm mw_299 rfl) (gm mw_298 rfl) (gm mw_77 rfl) (dAt dk_X1_becomeAs 23 rfl) hz5.1 hz5.2.1 hz5.2.2.1 hz5.2.2.2.1 hz5.2.2.2.2 (by decide) (Nat.le_of_ble_eq_true rfl) ?_
  refine g_ltt h (fun t6 h => ?_)
  refine g_aload_n F (dAt dk_X1_becomeAs 24 rfl) 0 rfl ?_
  refine g_aload_n F (dAt dk_X1_becomeAs 25 rfl) 1 rfl ?_
  refine gg_Land_count x1 F (gm mw_103 rfl) (dAt dk_X1_becomeAs 26 rfl) ?_
  refine gp_Land_count L F (gm mw_103 rfl) (dAt dk_X1_becomeAs 27 rfl) ?_
  refine g_ltt h (fun t7 h => ?_)
  refine g_aload_n F (dAt dk_X1_becomeAs 28 rfl) 0 rfl ?_
  refine g_aload_n F (dAt dk_X1_becomeAs 29 rfl) 1 rfl ?_
  refine gg_Land_flour x1 F (gm mw_106 rfl) (dAt dk_X1_becomeAs 30 rfl) ?_
  refine gp_Land_flour L F (gm mw_106 rfl) (dAt dk_X1_becomeAs 31 rfl) ?_
  refine g_ltt h (fun t8 h => ?_)
  refine g_aload_n F (dAt dk_X1_becomeAs 32 rfl) 0 rfl ?_
  refine g_aload_n F (dAt dk_X1_becomeAs 33 rfl) 1 rfl ?_
  refine gg_Land_wind x1 F (gm mw_109 rfl) (dAt dk_X1_becomeAs 34 rfl) ?_
  refine gp_Land_wind L F (gm mw_109 rfl) (dAt dk_X1_becomeAs 35 rfl) ?_
  refine g_ltt h (fun t9 h => ?_)
  refine g_aload_n F (dAt dk_X1_becomeAs 36 rfl) 0 rfl ?_
  refine g_aload_n F (dAt dk_X1_becomeAs 37 rfl) 1 rfl ?_
  refine gg_Land_seed x1 F (gm mw_112 rfl) (dAt dk_X1_becomeAs 38 rfl) ?_
  refine gp_Land_seed L F (gm mw_112 rfl) (dAt dk_X1_becomeAs 39 rfl) ?_
  refine g_ltt h (fun t10 h => ?_)
  cases h
  exact E (dAt dk_X1_becomeAs 40 rfl)
theorem mi_X1_has : MI yX1_has cX1_has 2 (some .boolean) "MillOfDistances$Land" 1 := ⟨(gm mw_315 rfl), (gm mw_313 rfl), (gm mw_314 rfl), (gm mw_70 rfl), by decide +kernel, by decide⟩
theorem c_X1_has {l : Launch} {D : va_G} {ad : Nat → Nat} {g : Gv} {t u : Mem} {L : Fin 3} {x1 : Int32} {t' : Mem} {r : Int32} (hJ : Jad ad) (h : f_X1_has L x1 t = some (r, t')) : ConI l yX1_has cX1_has 2 (some .boolean) 0 [.ref (ad (oLd L)), .int x1] D ad g t u t' u r := by
  refine con_i hJ (by decide) (Nat.le_of_ble_eq_true rfl) rfl (fun X F E => ?_)
  refine g_lv (lv' := [(0, .ref (ad (oLd L))), (1, .int x1)]) rfl ?_
  unfold f_X1_has at h
  refine g_iload_n F (dAt dk_X1_has 0 rfl) 1 rfl ?_
  refine g_if_lt (tgt := 16) F (dAt dk_X1_has 1 rfl) (by decide) h (fun c1 h => ?_) (fun c1 h => ?_)
  · refine g_iconst (v := 0) F (dAt dk_X1_has 8 rfl) (by decide) ?_
    cases h
    exact E (dAt dk_X1_has 9 rfl) rfl
  · refine g_iload_n F (dAt dk_X1_has 2 rfl) 1 rfl ?_
    refine g_aload_n F (dAt dk_X1_has 3 rfl) 0 rfl ?_
    refine gg_Land_count L F (gm mw_103 rfl) (dAt dk_X1_has 4 rfl) ?_
    refine g_icmp_ge (tgt := 16) F (dAt dk_X1_has 5 rfl) (by decide) h (fun c2 h => ?_) (fun c2 h => ?_)
    · refine g_iconst (v := 0) F (dAt dk_X1_has 8 rfl) (by decide) ?_
      cases h
      exact E (dAt dk_X1_has 9 rfl) rfl
    · refine g_iconst (v := 1) F (dAt dk_X1_has 6 rfl) (by decide) ?_
      refine g_goto (tgt := 17) F (dAt dk_X1_has 7 rfl) (by decide) ?_
      cases h
      exact E (dAt dk_X1_has 9 rfl) rfl
theorem mi_X1_hasBoth : MI yX1_hasBoth cX1_hasBoth 3 (some .boolean) "MillOfDistances$Land" 2 := ⟨(gm mw_383 rfl), (gm mw_381 rfl), (gm mw_382 rfl), (gm mw_70 rfl), by decide +kernel, by decide⟩
theorem c_X1_hasBoth {l : Launch} {D : va_G} {ad : Nat → Nat} {g : Gv} {t u : Mem} {L : Fin 3} {x1 : Int32} {x2 : Int32} {t' : Mem} {r : Int32} (hJ : Jad ad) (h : f_X1_hasBoth L x1 x2 t = some (r, t')) : ConI l yX1_hasBoth cX1_hasBoth 3 (some .boolean) 0 [.ref (ad (oLd L)), .int x1, .int x2] D ad g t u t' u r := by
  refine con_i hJ (by decide) (Nat.le_of_ble_eq_true rfl) rfl (fun X F E => ?_)
  refine g_lv (lv' := [(0, .ref (ad (oLd L))), (1, .int x1), (2, .int x2)]) rfl ?_
  unfold f_X1_hasBoth at h
  refine g_iload_n F (dAt dk_X1_hasBoth 0 rfl) 1 rfl ?_
  refine g_if_lt (tgt := 28) F (dAt dk_X1_hasBoth 1 rfl) (by decide) h (fun c1 h => ?_) (fun c1 h => ?_)
  · refine g_iconst (v := 0) F (dAt dk_X1_hasBoth 14 rfl) (by decide) ?_
    cases h
    exact E (dAt dk_X1_hasBoth 15 rfl) rfl
  · refine g_iload_n F (dAt dk_X1_hasBoth 2 rfl) 1 rfl ?_
    refine g_aload_n F (dAt dk_X1_hasBoth 3 rfl) 0 rfl ?_
    refine gg_Land_count L F (gm mw_103 rfl) (dAt dk_X1_hasBoth 4 rfl) ?_
    refine g_icmp_ge (tgt := 28) F (dAt dk_X1_hasBoth 5 rfl) (by decide) h (fun c2 h => ?_) (fun c2 h => ?_)
    · refine g_iconst (v := 0) F (dAt dk_X1_hasBoth 14 rfl) (by decide) ?_
      cases h
      exact E (dAt dk_X1_hasBoth 15 rfl) rfl
    · refine g_iload_n F (dAt dk_X1_hasBoth 6 rfl) 2 rfl ?_
      refine g_if_lt (tgt := 28) F (dAt dk_X1_hasBoth 7 rfl) (by decide) h (fun c3 h => ?_) (fun c3 h => ?_)
      · refine g_iconst (v := 0) F (dAt dk_X1_hasBoth 14 rfl) (by decide) ?_
        cases h
        exact E (dAt dk_X1_hasBoth 15 rfl) rfl
      · refine g_iload_n F (dAt dk_X1_hasBoth 8 rfl) 2 rfl ?_
        refine g_aload_n F (dAt dk_X1_hasBoth 9 rfl) 0 rfl ?_
        refine gg_Land_count L F (gm mw_103 rfl) (dAt dk_X1_hasBoth 10 rfl) ?_
        refine g_icmp_ge (tgt := 28) F (dAt dk_X1_hasBoth 11 rfl) (by decide) h (fun c4 h => ?_) (fun c4 h => ?_)
        · refine g_iconst (v := 0) F (dAt dk_X1_hasBoth 14 rfl) (by decide) ?_
          cases h
          exact E (dAt dk_X1_hasBoth 15 rfl) rfl
        · refine g_iconst (v := 1) F (dAt dk_X1_hasBoth 12 rfl) (by decide) ?_
          refine g_goto (tgt := 29) F (dAt dk_X1_hasBoth 13 rfl) (by decide) ?_
          cases h
          exact E (dAt dk_X1_hasBoth 15 rfl) rfl
theorem mi_X1_hasRoom : MI yX1_hasRoom cX1_hasRoom 1 (some .boolean) "MillOfDistances$Land" 0 := ⟨(gm mw_362 rfl), (gm mw_360 rfl), (gm mw_361 rfl), (gm mw_70 rfl), by decide +kernel, by decide⟩
theorem c_X1_hasRoom {l : Launch} {D : va_G} {ad : Nat → Nat} {g : Gv} {t u : Mem} {L : Fin 3} {t' : Mem} {r : Int32} (hJ : Jad ad) (h : f_X1_hasRoom L t = some (r, t')) : ConI l yX1_hasRoom cX1_hasRoom 1 (some .boolean) 0 [.ref (ad (oLd L))] D ad g t u t' u r := by
  refine con_i hJ (by decide) (Nat.le_of_ble_eq_true rfl) rfl (fun X F E => ?_)
  refine g_lv (lv' := [(0, .ref (ad (oLd L)))]) rfl ?_
  unfold f_X1_hasRoom at h
  refine g_aload_n F (dAt dk_X1_hasRoom 0 rfl) 0 rfl ?_
  refine gg_Land_count L F (gm mw_103 rfl) (dAt dk_X1_hasRoom 1 rfl) ?_
  refine g_bipush (v := 8) F (dAt dk_X1_hasRoom 2 rfl) (by decide) ?_
  refine g_icmp_ge (tgt := 13) F (dAt dk_X1_hasRoom 3 rfl) (by decide) h (fun c1 h => ?_) (fun c1 h => ?_)
  · refine g_iconst (v := 0) F (dAt dk_X1_hasRoom 6 rfl) (by decide) ?_
    cases h
    exact E (dAt dk_X1_hasRoom 7 rfl) rfl
  · refine g_iconst (v := 1) F (dAt dk_X1_hasRoom 4 rfl) (by decide) ?_
    refine g_goto (tgt := 14) F (dAt dk_X1_hasRoom 5 rfl) (by decide) ?_
    cases h
    exact E (dAt dk_X1_hasRoom 7 rfl) rfl
theorem mi_X1_found : MI yX1_found cX1_found 3 (some .int) "MillOfDistances$Land" 2 := ⟨(gm mw_366 rfl), (gm mw_364 rfl), (gm mw_365 rfl), (gm mw_70 rfl), by decide +kernel, by decide⟩
theorem c_X1_found {l : Launch} {D : va_G} {ad : Nat → Nat} {g : Gv} {t u : Mem} {L : Fin 3} {x1 : Int32} {x2 : Int32} {t' : Mem} {r : Int32} (hJ : Jad ad) (h : f_X1_found L x1 x2 t = some (r, t')) : ConI l yX1_found cX1_found 3 (some .int) 1 [.ref (ad (oLd L)), .int x1, .int x2] D ad g t u t' u r := by
  refine con_i hJ (by decide) (Nat.le_of_ble_eq_true rfl) rfl (fun X F E => ?_)
  refine g_lv (lv' := [(0, .ref (ad (oLd L))), (1, .int x1), (2, .int x2)]) rfl ?_
  unfold f_X1_found at h
  refine g_aload_n F (dAt dk_X1_found 0 rfl) 0 rfl ?_
  refine g_invV_ic F mi_X1_hasRoom (gm mw_367 rfl) (dAt dk_X1_found 1 rfl) (rcx_of F (rc_Land L)) [] rfl rfl (by decide) (Nat.le_of_ble_eq_true rfl) h (fun _ _ hf => c_X1_hasRoom hJ hf) (fun r1 t2 h => ?_)
  refine g_if_ne (tgt := 9) F (dAt dk_X1_found 2 rfl) (by decide) h (fun c3 h => ?_) (fun c3 h => ?_)
  · refine g_aload_n F (dAt dk_X1_found 5 rfl) 0 rfl ?_
    refine gg_Land_kinds L F (gm mw_98 rfl) (dAt dk_X1_found 6 rfl) ?_
    refine g_aload_n F (dAt dk_X1_found 7 rfl) 0 rfl ?_
    refine gg_Land_count L F (gm mw_103 rfl) (dAt dk_X1_found 8 rfl) ?_
    refine g_iload_n F (dAt dk_X1_found 9 rfl) 1 rfl ?_
    refine g_ck h (fun hi4 h => ?_)
    refine g_iastorec F (ai_kinds L) (dAt dk_X1_found 10 rfl) hi4 ?_
    refine g_ltt h (fun t5 h => ?_)
    refine g_aload_n F (dAt dk_X1_found 11 rfl) 0 rfl ?_
    refine gg_Land_marks L F (gm mw_100 rfl) (dAt dk_X1_found 12 rfl) ?_
    refine g_aload_n F (dAt dk_X1_found 13 rfl) 0 rfl ?_
    refine gg_Land_count L F (gm mw_103 rfl) (dAt dk_X1_found 14 rfl) ?_
    refine g_iload_n F (dAt dk_X1_found 15 rfl) 2 rfl ?_
    refine g_ck h (fun hi6 h => ?_)
    refine g_iastorec F (ai_marks L) (dAt dk_X1_found 16 rfl) hi6 ?_
    refine g_ltt h (fun t7 h => ?_)
    refine g_aload_n F (dAt dk_X1_found 17 rfl) 0 rfl ?_
    refine g_dup F (dAt dk_X1_found 18 rfl) rfl ?_
    refine gg_Land_count L F (gm mw_103 rfl) (dAt dk_X1_found 19 rfl) ?_
    refine g_iconst (v := 1) F (dAt dk_X1_found 20 rfl) (by decide) ?_
    refine g_iadd F (dAt dk_X1_found 21 rfl) ?_
    refine gp_Land_count L F (gm mw_103 rfl) (dAt dk_X1_found 22 rfl) ?_
    refine g_ltt h (fun t8 h => ?_)
    refine g_aload_n F (dAt dk_X1_found 23 rfl) 0 rfl ?_
    refine gg_Land_count L F (gm mw_103 rfl) (dAt dk_X1_found 24 rfl) ?_
    refine g_iconst (v := 1) F (dAt dk_X1_found 25 rfl) (by decide) ?_
    refine g_isub F (dAt dk_X1_found 26 rfl) ?_
    cases h
    exact E (dAt dk_X1_found 27 rfl) rfl
  · refine g_iconst (v := (-1)) F (dAt dk_X1_found 3 rfl) (by decide) ?_
    cases h
    exact E (dAt dk_X1_found 4 rfl) rfl
theorem mi_X1_isOf : MI yX1_isOf cX1_isOf 5 (some .boolean) "MillOfDistances$Land" 2 := ⟨(gm mw_334 rfl), (gm mw_332 rfl), (gm mw_333 rfl), (gm mw_70 rfl), by decide +kernel, by decide⟩
theorem c_X1_isOf {l : Launch} {D : va_G} {ad : Nat → Nat} {g : Gv} {t u : Mem} {n : Nat} {L : Fin 3} {x1 : Int32} {x2 : Int32} {t' : Mem} {r : Int32} (hJ : Jad ad) (h : f_X1_isOf n L x1 x2 t = some (r, t')) : ConI l yX1_isOf cX1_isOf 5 (some .boolean) 0 [.ref (ad (oLd L)), .int x1, .int x2] D ad g t u t' u r := by
  refine con_i hJ (by decide) (Nat.le_of_ble_eq_true rfl) rfl (fun X F E => ?_)
  have H26 : ∀ (k : Nat) (s : Int32 × Int32 × Mem), iter (bd_X1_isOf_26 n L x1 x2) k s = some (r, t') → G X D ad g s.2.2 u [(2, .int x2), (3, .int s.1), (4, .int s.2.1)] 26 [] := by
    refine iter_walk (P := fun (s : Int32 × Int32 × Mem) => G X D ad g s.2.2 u [(2, .int x2), (3, .int s.1), (4, .int s.2.1)] 26 []) (fun self26 ih26 s h => ?_)
    obtain ⟨v3, v4, t0⟩ := s
    change G X D ad g t0 u [(2, .int x2), (3, .int v3), (4, .int v4)] 26 []
    unfold bd_X1_isOf_26 at h; try dsimp only at h
    refine g_iload F (dAt dk_X1_isOf 15 rfl) 2 rfl ?_
    refine g_iconst (v := 3) F (dAt dk_X1_isOf 16 rfl) (by decide) ?_
    refine g_icmp_ge (tgt := 63) F (dAt dk_X1_isOf 17 rfl) (by decide) h (fun c4 h => ?_) (fun c4 h => ?_)
    · refine g_iconst (v := 0) F (dAt dk_X1_isOf 35 rfl) (by decide) ?_
      cases h
      exact E (dAt dk_X1_isOf 36 rfl) rfl
    · refine g_iload_n F (dAt dk_X1_isOf 18 rfl) 1 rfl ?_
      refine g_if_lt (tgt := 63) F (dAt dk_X1_isOf 19 rfl) (by decide) h (fun c5 h => ?_) (fun c5 h => ?_)
      · refine g_iconst (v := 0) F (dAt dk_X1_isOf 35 rfl) (by decide) ?_
        cases h
        exact E (dAt dk_X1_isOf 36 rfl) rfl
      · refine g_iload_n F (dAt dk_X1_isOf 20 rfl) 1 rfl ?_
        refine g_getsK0N F (nw_335 F) (dAt dk_X1_isOf 21 rfl) ?_
        refine g_alenK0 F (dAt dk_X1_isOf 22 rfl) ?_
        refine g_icmp_ge (tgt := 63) F (dAt dk_X1_isOf 23 rfl) (by decide) h (fun c6 h => ?_) (fun c6 h => ?_)
        · refine g_iconst (v := 0) F (dAt dk_X1_isOf 35 rfl) (by decide) ?_
          cases h
          exact E (dAt dk_X1_isOf 36 rfl) rfl
        · refine g_iload_n F (dAt dk_X1_isOf 24 rfl) 1 rfl ?_
          refine g_iload_n F (dAt dk_X1_isOf 25 rfl) 0 rfl ?_
          refine g_icmp_ne (tgt := 51) F (dAt dk_X1_isOf 26 rfl) (by decide) h (fun c7 h => ?_) (fun c7 h => ?_)
          · refine g_getsK0N F (nw_335 F) (dAt dk_X1_isOf 29 rfl) ?_
            refine g_iload_n F (dAt dk_X1_isOf 30 rfl) 1 rfl ?_
            refine g_ck h (fun hi8 h => ?_)
            refine g_ialdK0 F (dAt dk_X1_isOf 31 rfl) hi8 ?_
            refine g_istore_n (lv' := [(3, .int (kaF v3.toNatClampNeg)), (2, .int x2), (4, .int v4)]) F (dAt dk_X1_isOf 32 rfl) (by decide) rfl ?_
            refine g_iinc (lv' := [(4, .int (v4 + 1)), (3, .int (kaF v3.toNatClampNeg)), (2, .int x2)]) F (dAt dk_X1_isOf 33 rfl) 2 rfl (w := 1) (by decide) (by decide) rfl ?_
            refine g_goto (tgt := 26) F (dAt dk_X1_isOf 34 rfl) (by decide) ?_
            refine g_sub (lv' := [(2, .int x2), (3, .int (kaF v3.toNatClampNeg)), (4, .int (v4 + 1))]) [2, 1, 0] rfl ?_
            exact ih26 ((kaF v3.toNatClampNeg), (v4 + 1), t0) h
          · refine g_iconst (v := 1) F (dAt dk_X1_isOf 27 rfl) (by decide) ?_
            cases h
            exact E (dAt dk_X1_isOf 28 rfl) rfl
  have J22 : ∀ (w0 : Int32) (t0 : Mem), jn_X1_isOf_22 n L x1 x2 w0 t0 = some (r, t') → G X D ad g t0 u [(2, .int x2)] 22 [.int w0] := by
    intro w0 t0 h
    unfold jn_X1_isOf_22 at h
    refine g_istore_n (lv' := [(3, .int w0), (2, .int x2)]) F (dAt dk_X1_isOf 12 rfl) (by decide) rfl ?_
    refine g_iconst (v := 0) F (dAt dk_X1_isOf 13 rfl) (by decide) ?_
    refine g_istore (lv' := [(4, .int 0), (3, .int w0), (2, .int x2)]) F (dAt dk_X1_isOf 14 rfl) (by decide) rfl ?_
    refine g_sub (lv' := [(2, .int x2), (3, .int w0), (4, .int 0)]) [2, 1, 0] rfl ?_
    exact H26  n (w0, 0, t0) h
  have J21 : ∀ (t0 : Mem), jn_X1_isOf_21 n L x1 x2 t0 = some (r, t') → G X D ad g t0 u [(2, .int x2)] 21 [] := by
    intro t0 h
    unfold jn_X1_isOf_21 at h
    refine g_iconst (v := (-1)) F (dAt dk_X1_isOf 11 rfl) (by decide) ?_
    refine g_sub (lv' := [(2, .int x2)]) [0] rfl ?_
    exact J22  (-1) t0 h
  refine g_lv (lv' := [(0, .ref (ad (oLd L))), (1, .int x1), (2, .int x2)]) rfl ?_
  unfold f_X1_isOf at h
  refine g_iload_n F (dAt dk_X1_isOf 0 rfl) 1 rfl ?_
  refine g_if_lt (tgt := 21) F (dAt dk_X1_isOf 1 rfl) (by decide) h (fun c1 h => ?_) (fun c1 h => ?_)
  · refine g_sub (lv' := [(2, .int x2)]) [2] rfl ?_
    exact J21  t h
  · refine g_iload_n F (dAt dk_X1_isOf 2 rfl) 1 rfl ?_
    refine g_aload_n F (dAt dk_X1_isOf 3 rfl) 0 rfl ?_
    refine gg_Land_count L F (gm mw_103 rfl) (dAt dk_X1_isOf 4 rfl) ?_
    refine g_icmp_ge (tgt := 21) F (dAt dk_X1_isOf 5 rfl) (by decide) h (fun c2 h => ?_) (fun c2 h => ?_)
    · refine g_sub (lv' := [(2, .int x2)]) [2] rfl ?_
      exact J21  t h
    · refine g_aload_n F (dAt dk_X1_isOf 6 rfl) 0 rfl ?_
      refine gg_Land_kinds L F (gm mw_98 rfl) (dAt dk_X1_isOf 7 rfl) ?_
      refine g_iload_n F (dAt dk_X1_isOf 8 rfl) 1 rfl ?_
      refine g_ck h (fun hi3 h => ?_)
      refine g_ialoadc F (ai_kinds L) (dAt dk_X1_isOf 9 rfl) hi3 ?_
      refine g_goto (tgt := 22) F (dAt dk_X1_isOf 10 rfl) (by decide) ?_
      refine g_sub (lv' := [(2, .int x2)]) [2] rfl ?_
      exact J22  (t.1 (oKn L) x1.toNatClampNeg) t h
theorem mi_X1_between : MI yX1_between cX1_between 3 (some .int) "MillOfDistances$Land" 2 := ⟨(gm mw_348 rfl), (gm mw_346 rfl), (gm mw_347 rfl), (gm mw_70 rfl), by decide +kernel, by decide⟩
theorem c_X1_between {l : Launch} {D : va_G} {ad : Nat → Nat} {g : Gv} {t u : Mem} {L : Fin 3} {x1 : Int32} {x2 : Int32} {t' : Mem} {r : Int32} (hJ : Jad ad) (h : f_X1_between L x1 x2 t = some (r, t')) : ConI l yX1_between cX1_between 3 (some .int) 0 [.ref (ad (oLd L)), .int x1, .int x2] D ad g t u t' u r := by
  refine con_i hJ (by decide) (Nat.le_of_ble_eq_true rfl) rfl (fun X F E => ?_)
  refine g_lv (lv' := [(0, .ref (ad (oLd L))), (1, .int x1), (2, .int x2)]) rfl ?_
  unfold f_X1_between at h
  refine g_iload_n F (dAt dk_X1_between 0 rfl) 1 rfl ?_
  refine g_if_lt (tgt := 38) F (dAt dk_X1_between 1 rfl) (by decide) h (fun c1 h => ?_) (fun c1 h => ?_)
  · refine g_iconst (v := 0) F (dAt dk_X1_between 21 rfl) (by decide) ?_
    cases h
    exact E (dAt dk_X1_between 22 rfl) rfl
  · refine g_iload_n F (dAt dk_X1_between 2 rfl) 1 rfl ?_
    refine g_aload_n F (dAt dk_X1_between 3 rfl) 0 rfl ?_
    refine gg_Land_count L F (gm mw_103 rfl) (dAt dk_X1_between 4 rfl) ?_
    refine g_icmp_ge (tgt := 38) F (dAt dk_X1_between 5 rfl) (by decide) h (fun c2 h => ?_) (fun c2 h => ?_)
    · refine g_iconst (v := 0) F (dAt dk_X1_between 21 rfl) (by decide) ?_
      cases h
      exact E (dAt dk_X1_between 22 rfl) rfl
    · refine g_iload_n F (dAt dk_X1_between 6 rfl) 2 rfl ?_
      refine g_if_lt (tgt := 38) F (dAt dk_X1_between 7 rfl) (by decide) h (fun c3 h => ?_) (fun c3 h => ?_)
      · refine g_iconst (v := 0) F (dAt dk_X1_between 21 rfl) (by decide) ?_
        cases h
        exact E (dAt dk_X1_between 22 rfl) rfl
      · refine g_iload_n F (dAt dk_X1_between 8 rfl) 2 rfl ?_
        refine g_aload_n F (dAt dk_X1_between 9 rfl) 0 rfl ?_
        refine gg_Land_count L F (gm mw_103 rfl) (dAt dk_X1_between 10 rfl) ?_
        refine g_icmp_ge (tgt := 38) F (dAt dk_X1_between 11 rfl) (by decide) h (fun c4 h => ?_) (fun c4 h => ?_)
        · refine g_iconst (v := 0) F (dAt dk_X1_between 21 rfl) (by decide) ?_
          cases h
          exact E (dAt dk_X1_between 22 rfl) rfl
        · refine g_aload_n F (dAt dk_X1_between 12 rfl) 0 rfl ?_
          refine gg_Land_roads L F (gm mw_102 rfl) (dAt dk_X1_between 13 rfl) ?_
          refine g_iload_n F (dAt dk_X1_between 14 rfl) 1 rfl ?_
          refine g_bipush (v := 8) F (dAt dk_X1_between 15 rfl) (by decide) ?_
          refine g_imul F (dAt dk_X1_between 16 rfl) ?_
          refine g_iload_n F (dAt dk_X1_between 17 rfl) 2 rfl ?_
          refine g_iadd F (dAt dk_X1_between 18 rfl) ?_
          refine g_ck h (fun hi5 h => ?_)
          refine g_ialoadc F (ai_roads L) (dAt dk_X1_between 19 rfl) hi5 ?_
          refine g_goto (tgt := 39) F (dAt dk_X1_between 20 rfl) (by decide) ?_
          cases h
          exact E (dAt dk_X1_between 22 rfl) rfl
theorem mi_X1_lay : MI yX1_lay cX1_lay 4 none "MillOfDistances$Land" 3 := ⟨(gm mw_388 rfl), (gm mw_386 rfl), (gm mw_387 rfl), (gm mw_70 rfl), by decide +kernel, by decide⟩
theorem c_X1_lay {l : Launch} {D : va_G} {ad : Nat → Nat} {g : Gv} {t u : Mem} {L : Fin 3} {x1 : Int32} {x2 : Int32} {x3 : Int32} {t' : Mem} (hJ : Jad ad) (h : f_X1_lay L x1 x2 x3 t = some ((), t')) : ConV l yX1_lay cX1_lay 4 none 1 [.ref (ad (oLd L)), .int x1, .int x2, .int x3] D ad g t u t' u := by
  refine con_v hJ (by decide) (Nat.le_of_ble_eq_true rfl) rfl (fun X F E => ?_)
  refine g_lv (lv' := [(0, .ref (ad (oLd L))), (1, .int x1), (2, .int x2), (3, .int x3)]) rfl ?_
  unfold f_X1_lay at h
  refine g_aload_n F (dAt dk_X1_lay 0 rfl) 0 rfl ?_
  refine g_iload_n F (dAt dk_X1_lay 1 rfl) 1 rfl ?_
  refine g_iload_n F (dAt dk_X1_lay 2 rfl) 2 rfl ?_
  refine g_invV_ic F mi_X1_hasBoth (gm mw_389 rfl) (dAt dk_X1_lay 3 rfl) (rcx_of F (rc_Land L)) [.int x1, .int x2] rfl rfl (by decide) (Nat.le_of_ble_eq_true rfl) h (fun _ _ hf => c_X1_hasBoth hJ hf) (fun r1 t2 h => ?_)
  refine g_if_eq (tgt := 38) F (dAt dk_X1_lay 4 rfl) (by decide) h (fun c3 h => ?_) (fun c3 h => ?_)
  · cases h
    exact E (dAt dk_X1_lay 26 rfl)
  · refine g_iload_n F (dAt dk_X1_lay 5 rfl) 1 rfl ?_
    refine g_iload_n F (dAt dk_X1_lay 6 rfl) 2 rfl ?_
    refine g_icmp_eq (tgt := 38) F (dAt dk_X1_lay 7 rfl) (by decide) h (fun c4 h => ?_) (fun c4 h => ?_)
    · cases h
      exact E (dAt dk_X1_lay 26 rfl)
    · refine g_aload_n F (dAt dk_X1_lay 8 rfl) 0 rfl ?_
      refine gg_Land_roads L F (gm mw_102 rfl) (dAt dk_X1_lay 9 rfl) ?_
      refine g_iload_n F (dAt dk_X1_lay 10 rfl) 1 rfl ?_
      refine g_bipush (v := 8) F (dAt dk_X1_lay 11 rfl) (by decide) ?_
      refine g_imul F (dAt dk_X1_lay 12 rfl) ?_
      refine g_iload_n F (dAt dk_X1_lay 13 rfl) 2 rfl ?_
      refine g_iadd F (dAt dk_X1_lay 14 rfl) ?_
      refine g_iload_n F (dAt dk_X1_lay 15 rfl) 3 rfl ?_
      refine g_ck h (fun hi5 h => ?_)
      refine g_iastorec F (ai_roads L) (dAt dk_X1_lay 16 rfl) hi5 ?_
      refine g_ltt h (fun t6 h => ?_)
      refine g_aload_n F (dAt dk_X1_lay 17 rfl) 0 rfl ?_
      refine gg_Land_roads L F (gm mw_102 rfl) (dAt dk_X1_lay 18 rfl) ?_
      refine g_iload_n F (dAt dk_X1_lay 19 rfl) 2 rfl ?_
      refine g_bipush (v := 8) F (dAt dk_X1_lay 20 rfl) (by decide) ?_
      refine g_imul F (dAt dk_X1_lay 21 rfl) ?_
      refine g_iload_n F (dAt dk_X1_lay 22 rfl) 1 rfl ?_
      refine g_iadd F (dAt dk_X1_lay 23 rfl) ?_
      refine g_iload_n F (dAt dk_X1_lay 24 rfl) 3 rfl ?_
      refine g_ck h (fun hi7 h => ?_)
      refine g_iastorec F (ai_roads L) (dAt dk_X1_lay 25 rfl) hi7 ?_
      refine g_ltt h (fun t8 h => ?_)
      cases h
      exact E (dAt dk_X1_lay 26 rfl)
theorem mi_X1_neighbours : MI yX1_neighbours cX1_neighbours 4 (some .int) "MillOfDistances$Land" 1 := ⟨(gm mw_344 rfl), (gm mw_342 rfl), (gm mw_343 rfl), (gm mw_70 rfl), by decide +kernel, by decide⟩
theorem c_X1_neighbours {l : Launch} {D : va_G} {ad : Nat → Nat} {g : Gv} {t u : Mem} {n : Nat} {L : Fin 3} {x1 : Int32} {t' : Mem} {r : Int32} (hJ : Jad ad) (h : f_X1_neighbours n L x1 t = some (r, t')) : ConI l yX1_neighbours cX1_neighbours 4 (some .int) 1 [.ref (ad (oLd L)), .int x1] D ad g t u t' u r := by
  refine con_i hJ (by decide) (Nat.le_of_ble_eq_true rfl) rfl (fun X F E => ?_)
  have H4 : ∀ (k : Nat) (s : Int32 × Int32 × Mem), iter (bd_X1_neighbours_4 n L x1) k s = some (r, t') → G X D ad g s.2.2 u [(0, .ref (ad (oLd L))), (1, .int x1), (2, .int s.1), (3, .int s.2.1)] 4 [] := by
    refine iter_walk (P := fun (s : Int32 × Int32 × Mem) => G X D ad g s.2.2 u [(0, .ref (ad (oLd L))), (1, .int x1), (2, .int s.1), (3, .int s.2.1)] 4 []) (fun self4 ih4 s h => ?_)
    obtain ⟨v2, v3, t0⟩ := s
    change G X D ad g t0 u [(0, .ref (ad (oLd L))), (1, .int x1), (2, .int v2), (3, .int v3)] 4 []
    unfold bd_X1_neighbours_4 at h; try dsimp only at h
    refine g_iload_n F (dAt dk_X1_neighbours 4 rfl) 3 rfl ?_
    refine g_aload_n F (dAt dk_X1_neighbours 5 rfl) 0 rfl ?_
    refine gg_Land_count L F (gm mw_103 rfl) (dAt dk_X1_neighbours 6 rfl) ?_
    refine g_icmp_ge (tgt := 33) F (dAt dk_X1_neighbours 7 rfl) (by decide) h (fun c1 h => ?_) (fun c1 h => ?_)
    · refine g_iload_n F (dAt dk_X1_neighbours 21 rfl) 2 rfl ?_
      cases h
      exact E (dAt dk_X1_neighbours 22 rfl) rfl
    · refine g_aload_n F (dAt dk_X1_neighbours 8 rfl) 0 rfl ?_
      refine g_iload_n F (dAt dk_X1_neighbours 9 rfl) 1 rfl ?_
      refine g_iload_n F (dAt dk_X1_neighbours 10 rfl) 3 rfl ?_
      refine g_invV_ic F mi_X1_between (gm mw_345 rfl) (dAt dk_X1_neighbours 11 rfl) (rcx_of F (rc_Land L)) [.int x1, .int v3] rfl rfl (by decide) (Nat.le_of_ble_eq_true rfl) h (fun _ _ hf => c_X1_between hJ hf) (fun r2 t3 h => ?_)
      refine g_if_eq (tgt := 27) F (dAt dk_X1_neighbours 12 rfl) (by decide) h (fun c4 h => ?_) (fun c4 h => ?_)
      · refine g_iinc (lv' := [(3, .int (v3 + 1)), (0, .ref (ad (oLd L))), (1, .int x1), (2, .int v2)]) F (dAt dk_X1_neighbours 19 rfl) 3 rfl (w := 1) (by decide) (by decide) rfl ?_
        refine g_goto (tgt := 4) F (dAt dk_X1_neighbours 20 rfl) (by decide) ?_
        refine g_sub (lv' := [(0, .ref (ad (oLd L))), (1, .int x1), (2, .int v2), (3, .int (v3 + 1))]) [1, 2, 3, 0] rfl ?_
        exact ih4 (v2, (v3 + 1), t3) h
      · refine g_iload_n F (dAt dk_X1_neighbours 13 rfl) 2 rfl ?_
        refine g_iconst (v := 1) F (dAt dk_X1_neighbours 14 rfl) (by decide) ?_
        refine g_iload_n F (dAt dk_X1_neighbours 15 rfl) 3 rfl ?_
        refine g_ishl F (dAt dk_X1_neighbours 16 rfl) ?_
        refine g_ior F (dAt dk_X1_neighbours 17 rfl) ?_
        refine g_lti h (fun y5 h => ?_)
        refine g_istore_n (lv' := [(2, .int y5), (0, .ref (ad (oLd L))), (1, .int x1), (3, .int v3)]) F (dAt dk_X1_neighbours 18 rfl) (by decide) rfl ?_
        refine g_iinc (lv' := [(3, .int (v3 + 1)), (2, .int y5), (0, .ref (ad (oLd L))), (1, .int x1)]) F (dAt dk_X1_neighbours 19 rfl) 3 rfl (w := 1) (by decide) (by decide) rfl ?_
        refine g_goto (tgt := 4) F (dAt dk_X1_neighbours 20 rfl) (by decide) ?_
        refine g_sub (lv' := [(0, .ref (ad (oLd L))), (1, .int x1), (2, .int y5), (3, .int (v3 + 1))]) [2, 3, 1, 0] rfl ?_
        exact ih4 (y5, (v3 + 1), t3) h
  refine g_lv (lv' := [(0, .ref (ad (oLd L))), (1, .int x1)]) rfl ?_
  unfold f_X1_neighbours at h
  refine g_iconst (v := 0) F (dAt dk_X1_neighbours 0 rfl) (by decide) ?_
  refine g_istore_n (lv' := [(2, .int 0), (0, .ref (ad (oLd L))), (1, .int x1)]) F (dAt dk_X1_neighbours 1 rfl) (by decide) rfl ?_
  refine g_iconst (v := 0) F (dAt dk_X1_neighbours 2 rfl) (by decide) ?_
  refine g_istore_n (lv' := [(3, .int 0), (2, .int 0), (0, .ref (ad (oLd L))), (1, .int x1)]) F (dAt dk_X1_neighbours 3 rfl) (by decide) rfl ?_
  refine g_sub (lv' := [(0, .ref (ad (oLd L))), (1, .int x1), (2, .int 0), (3, .int 0)]) [2, 3, 1, 0] rfl ?_
  exact H4  n (0, 0, t) h
theorem mi_X1_milesOf : MI yX1_milesOf cX1_milesOf 4 (some .int) "MillOfDistances$Land" 1 := ⟨(gm mw_375 rfl), (gm mw_373 rfl), (gm mw_374 rfl), (gm mw_70 rfl), by decide +kernel, by decide⟩
theorem c_X1_milesOf {l : Launch} {D : va_G} {ad : Nat → Nat} {g : Gv} {t u : Mem} {n : Nat} {L : Fin 3} {x1 : Int32} {t' : Mem} {r : Int32} (hJ : Jad ad) (h : f_X1_milesOf n L x1 t = some (r, t')) : ConI l yX1_milesOf cX1_milesOf 4 (some .int) 1 [.ref (ad (oLd L)), .int x1] D ad g t u t' u r := by
  refine con_i hJ (by decide) (Nat.le_of_ble_eq_true rfl) rfl (fun X F E => ?_)
  have H4 : ∀ (k : Nat) (s : Int32 × Int32 × Mem), iter (bd_X1_milesOf_4 n L x1) k s = some (r, t') → G X D ad g s.2.2 u [(0, .ref (ad (oLd L))), (1, .int x1), (2, .int s.1), (3, .int s.2.1)] 4 [] := by
    refine iter_walk (P := fun (s : Int32 × Int32 × Mem) => G X D ad g s.2.2 u [(0, .ref (ad (oLd L))), (1, .int x1), (2, .int s.1), (3, .int s.2.1)] 4 []) (fun self4 ih4 s h => ?_)
    obtain ⟨v2, v3, t0⟩ := s
    change G X D ad g t0 u [(0, .ref (ad (oLd L))), (1, .int x1), (2, .int v2), (3, .int v3)] 4 []
    unfold bd_X1_milesOf_4 at h; try dsimp only at h
    refine g_iload_n F (dAt dk_X1_milesOf 4 rfl) 3 rfl ?_
    refine g_aload_n F (dAt dk_X1_milesOf 5 rfl) 0 rfl ?_
    refine gg_Land_count L F (gm mw_103 rfl) (dAt dk_X1_milesOf 6 rfl) ?_
    refine g_icmp_ge (tgt := 27) F (dAt dk_X1_milesOf 7 rfl) (by decide) h (fun c1 h => ?_) (fun c1 h => ?_)
    · refine g_iload_n F (dAt dk_X1_milesOf 17 rfl) 2 rfl ?_
      cases h
      exact E (dAt dk_X1_milesOf 18 rfl) rfl
    · refine g_iload_n F (dAt dk_X1_milesOf 8 rfl) 2 rfl ?_
      refine g_aload_n F (dAt dk_X1_milesOf 9 rfl) 0 rfl ?_
      refine g_iload_n F (dAt dk_X1_milesOf 10 rfl) 1 rfl ?_
      refine g_iload_n F (dAt dk_X1_milesOf 11 rfl) 3 rfl ?_
      refine g_invV_ic F mi_X1_between (gm mw_345 rfl) (dAt dk_X1_milesOf 12 rfl) (rcx_of F (rc_Land L)) [.int x1, .int v3] rfl rfl (by decide) (Nat.le_of_ble_eq_true rfl) h (fun _ _ hf => c_X1_between hJ hf) (fun r2 t3 h => ?_)
      refine g_iadd F (dAt dk_X1_milesOf 13 rfl) ?_
      refine g_istore_n (lv' := [(2, .int (v2 + r2)), (0, .ref (ad (oLd L))), (1, .int x1), (3, .int v3)]) F (dAt dk_X1_milesOf 14 rfl) (by decide) rfl ?_
      refine g_iinc (lv' := [(3, .int (v3 + 1)), (2, .int (v2 + r2)), (0, .ref (ad (oLd L))), (1, .int x1)]) F (dAt dk_X1_milesOf 15 rfl) 3 rfl (w := 1) (by decide) (by decide) rfl ?_
      refine g_goto (tgt := 4) F (dAt dk_X1_milesOf 16 rfl) (by decide) ?_
      refine g_sub (lv' := [(0, .ref (ad (oLd L))), (1, .int x1), (2, .int (v2 + r2)), (3, .int (v3 + 1))]) [2, 3, 1, 0] rfl ?_
      exact ih4 ((v2 + r2), (v3 + 1), t3) h
  refine g_lv (lv' := [(0, .ref (ad (oLd L))), (1, .int x1)]) rfl ?_
  unfold f_X1_milesOf at h
  refine g_iconst (v := 0) F (dAt dk_X1_milesOf 0 rfl) (by decide) ?_
  refine g_istore_n (lv' := [(2, .int 0), (0, .ref (ad (oLd L))), (1, .int x1)]) F (dAt dk_X1_milesOf 1 rfl) (by decide) rfl ?_
  refine g_iconst (v := 0) F (dAt dk_X1_milesOf 2 rfl) (by decide) ?_
  refine g_istore_n (lv' := [(3, .int 0), (2, .int 0), (0, .ref (ad (oLd L))), (1, .int x1)]) F (dAt dk_X1_milesOf 3 rfl) (by decide) rfl ?_
  refine g_sub (lv' := [(0, .ref (ad (oLd L))), (1, .int x1), (2, .int 0), (3, .int 0)]) [2, 3, 1, 0] rfl ?_
  exact H4  n (0, 0, t) h
theorem ms_J6_bitCount_0f7a4 : MS yJ6_bitCount_0f7a4 cJ6_bitCount_0f7a4 1 (some .int) 1 := ⟨(gm mw_351 rfl), (gm mw_350 rfl), (gm mw_78 rfl), by decide +kernel, by decide⟩
theorem c_J6_bitCount_0f7a4 {l : Launch} {D : va_G} {ad : Nat → Nat} {g : Gv} {t u : Mem} {x0 : Int32} {r : Int32} (hJ : Jad ad) (h : f_J6_bitCount_0f7a4 x0 = some r) : ConI l yJ6_bitCount_0f7a4 cJ6_bitCount_0f7a4 1 (some .int) 0 [.int x0] D ad g t u t u r := by
  refine con_i hJ (by decide) (Nat.le_of_ble_eq_true rfl) rfl (fun X F E => ?_)
  refine g_lv (lv' := [(0, .int x0)]) rfl ?_
  unfold f_J6_bitCount_0f7a4 at h
  refine g_iload_n F (dAt dk_J6_bitCount_0f7a4 0 rfl) 0 rfl ?_
  refine g_iload_n F (dAt dk_J6_bitCount_0f7a4 1 rfl) 0 rfl ?_
  refine g_iconst (v := 1) F (dAt dk_J6_bitCount_0f7a4 2 rfl) (by decide) ?_
  refine g_iushr F (dAt dk_J6_bitCount_0f7a4 3 rfl) ?_
  refine g_ldcw (v := 1431655765) F (dAt dk_J6_bitCount_0f7a4 4 rfl) (gm mw_352 rfl) ?_
  refine g_iand F (dAt dk_J6_bitCount_0f7a4 5 rfl) ?_
  refine g_isub F (dAt dk_J6_bitCount_0f7a4 6 rfl) ?_
  refine g_lti h (fun y1 h => ?_)
  refine g_istore_n (lv' := [(0, .int y1)]) F (dAt dk_J6_bitCount_0f7a4 7 rfl) (by decide) rfl ?_
  refine g_iload_n F (dAt dk_J6_bitCount_0f7a4 8 rfl) 0 rfl ?_
  refine g_ldcw (v := 858993459) F (dAt dk_J6_bitCount_0f7a4 9 rfl) (gm mw_353 rfl) ?_
  refine g_iand F (dAt dk_J6_bitCount_0f7a4 10 rfl) ?_
  refine g_iload_n F (dAt dk_J6_bitCount_0f7a4 11 rfl) 0 rfl ?_
  refine g_iconst (v := 2) F (dAt dk_J6_bitCount_0f7a4 12 rfl) (by decide) ?_
  refine g_iushr F (dAt dk_J6_bitCount_0f7a4 13 rfl) ?_
  refine g_ldcw (v := 858993459) F (dAt dk_J6_bitCount_0f7a4 14 rfl) (gm mw_353 rfl) ?_
  refine g_iand F (dAt dk_J6_bitCount_0f7a4 15 rfl) ?_
  refine g_iadd F (dAt dk_J6_bitCount_0f7a4 16 rfl) ?_
  refine g_lti h (fun y2 h => ?_)
  refine g_istore_n (lv' := [(0, .int y2)]) F (dAt dk_J6_bitCount_0f7a4 17 rfl) (by decide) rfl ?_
  refine g_iload_n F (dAt dk_J6_bitCount_0f7a4 18 rfl) 0 rfl ?_
  refine g_iload_n F (dAt dk_J6_bitCount_0f7a4 19 rfl) 0 rfl ?_
  refine g_iconst (v := 4) F (dAt dk_J6_bitCount_0f7a4 20 rfl) (by decide) ?_
  refine g_iushr F (dAt dk_J6_bitCount_0f7a4 21 rfl) ?_
  refine g_iadd F (dAt dk_J6_bitCount_0f7a4 22 rfl) ?_
  refine g_ldcw (v := 252645135) F (dAt dk_J6_bitCount_0f7a4 23 rfl) (gm mw_354 rfl) ?_
  refine g_iand F (dAt dk_J6_bitCount_0f7a4 24 rfl) ?_
  refine g_lti h (fun y3 h => ?_)
  refine g_istore_n (lv' := [(0, .int y3)]) F (dAt dk_J6_bitCount_0f7a4 25 rfl) (by decide) rfl ?_
  refine g_iload_n F (dAt dk_J6_bitCount_0f7a4 26 rfl) 0 rfl ?_
  refine g_iload_n F (dAt dk_J6_bitCount_0f7a4 27 rfl) 0 rfl ?_
  refine g_bipush (v := 8) F (dAt dk_J6_bitCount_0f7a4 28 rfl) (by decide) ?_
  refine g_iushr F (dAt dk_J6_bitCount_0f7a4 29 rfl) ?_
  refine g_iadd F (dAt dk_J6_bitCount_0f7a4 30 rfl) ?_
  refine g_lti h (fun y4 h => ?_)
  refine g_istore_n (lv' := [(0, .int y4)]) F (dAt dk_J6_bitCount_0f7a4 31 rfl) (by decide) rfl ?_
  refine g_iload_n F (dAt dk_J6_bitCount_0f7a4 32 rfl) 0 rfl ?_
  refine g_iload_n F (dAt dk_J6_bitCount_0f7a4 33 rfl) 0 rfl ?_
  refine g_bipush (v := 16) F (dAt dk_J6_bitCount_0f7a4 34 rfl) (by decide) ?_
  refine g_iushr F (dAt dk_J6_bitCount_0f7a4 35 rfl) ?_
  refine g_iadd F (dAt dk_J6_bitCount_0f7a4 36 rfl) ?_
  refine g_lti h (fun y5 h => ?_)
  refine g_istore_n (lv' := [(0, .int y5)]) F (dAt dk_J6_bitCount_0f7a4 37 rfl) (by decide) rfl ?_
  refine g_iload_n F (dAt dk_J6_bitCount_0f7a4 38 rfl) 0 rfl ?_
  refine g_bipush (v := 63) F (dAt dk_J6_bitCount_0f7a4 39 rfl) (by decide) ?_
  refine g_iand F (dAt dk_J6_bitCount_0f7a4 40 rfl) ?_
  cases h
  exact E (dAt dk_J6_bitCount_0f7a4 41 rfl) rfl
theorem mi_X1_countRoads : MI yX1_countRoads cX1_countRoads 3 (some .int) "MillOfDistances$Land" 0 := ⟨(gm mw_850 rfl), (gm mw_848 rfl), (gm mw_849 rfl), (gm mw_70 rfl), by decide +kernel, by decide⟩
theorem c_X1_countRoads {l : Launch} {D : va_G} {ad : Nat → Nat} {g : Gv} {t u : Mem} {n : Nat} {L : Fin 3} {t' : Mem} {r : Int32} (hJ : Jad ad) (h : f_X1_countRoads n L t = some (r, t')) : ConI l yX1_countRoads cX1_countRoads 3 (some .int) 2 [.ref (ad (oLd L))] D ad g t u t' u r := by
  refine con_i hJ (by decide) (Nat.le_of_ble_eq_true rfl) rfl (fun X F E => ?_)
  have H4 : ∀ (k : Nat) (s : Int32 × Int32 × Mem), iter (bd_X1_countRoads_4 n L) k s = some (r, t') → G X D ad g s.2.2 u [(0, .ref (ad (oLd L))), (1, .int s.1), (2, .int s.2.1)] 4 [] := by
    refine iter_walk (P := fun (s : Int32 × Int32 × Mem) => G X D ad g s.2.2 u [(0, .ref (ad (oLd L))), (1, .int s.1), (2, .int s.2.1)] 4 []) (fun self4 ih4 s h => ?_)
    obtain ⟨v1, v2, t0⟩ := s
    change G X D ad g t0 u [(0, .ref (ad (oLd L))), (1, .int v1), (2, .int v2)] 4 []
    unfold bd_X1_countRoads_4 at h; try dsimp only at h
    refine g_iload_n F (dAt dk_X1_countRoads 4 rfl) 2 rfl ?_
    refine g_aload_n F (dAt dk_X1_countRoads 5 rfl) 0 rfl ?_
    refine gg_Land_count L F (gm mw_103 rfl) (dAt dk_X1_countRoads 6 rfl) ?_
    refine g_icmp_ge (tgt := 29) F (dAt dk_X1_countRoads 7 rfl) (by decide) h (fun c1 h => ?_) (fun c1 h => ?_)
    · refine g_iload_n F (dAt dk_X1_countRoads 17 rfl) 1 rfl ?_
      refine g_iconst (v := 2) F (dAt dk_X1_countRoads 18 rfl) (by decide) ?_
      refine g_idiv F (dAt dk_X1_countRoads 19 rfl) (by decide) ?_
      cases h
      exact E (dAt dk_X1_countRoads 20 rfl) rfl
    · refine g_iload_n F (dAt dk_X1_countRoads 8 rfl) 1 rfl ?_
      refine g_aload_n F (dAt dk_X1_countRoads 9 rfl) 0 rfl ?_
      refine g_iload_n F (dAt dk_X1_countRoads 10 rfl) 2 rfl ?_
      refine g_invV_ic F mi_X1_neighbours (gm mw_851 rfl) (dAt dk_X1_countRoads 11 rfl) (rcx_of F (rc_Land L)) [.int v2] rfl rfl (by decide) (Nat.le_of_ble_eq_true rfl) h (fun _ _ hf => c_X1_neighbours hJ hf) (fun r2 t3 h => ?_)
      refine g_invS_ip F ms_J6_bitCount_0f7a4 (gm mw_852 rfl) (dAt dk_X1_countRoads 12 rfl) [.int r2] rfl rfl (by decide) (Nat.le_of_ble_eq_true rfl) h (fun _ hf => c_J6_bitCount_0f7a4 hJ hf) (fun r4 h => ?_)
      refine g_iadd F (dAt dk_X1_countRoads 13 rfl) ?_
      refine g_istore_n (lv' := [(1, .int (v1 + r4)), (0, .ref (ad (oLd L))), (2, .int v2)]) F (dAt dk_X1_countRoads 14 rfl) (by decide) rfl ?_
      refine g_iinc (lv' := [(2, .int (v2 + 1)), (1, .int (v1 + r4)), (0, .ref (ad (oLd L)))]) F (dAt dk_X1_countRoads 15 rfl) 2 rfl (w := 1) (by decide) (by decide) rfl ?_
      refine g_goto (tgt := 4) F (dAt dk_X1_countRoads 16 rfl) (by decide) ?_
      refine g_sub (lv' := [(0, .ref (ad (oLd L))), (1, .int (v1 + r4)), (2, .int (v2 + 1))]) [2, 1, 0] rfl ?_
      exact ih4 ((v1 + r4), (v2 + 1), t3) h
  refine g_lv (lv' := [(0, .ref (ad (oLd L)))]) rfl ?_
  unfold f_X1_countRoads at h
  refine g_iconst (v := 0) F (dAt dk_X1_countRoads 0 rfl) (by decide) ?_
  refine g_istore_n (lv' := [(1, .int 0), (0, .ref (ad (oLd L)))]) F (dAt dk_X1_countRoads 1 rfl) (by decide) rfl ?_
  refine g_iconst (v := 0) F (dAt dk_X1_countRoads 2 rfl) (by decide) ?_
  refine g_istore_n (lv' := [(2, .int 0), (1, .int 0), (0, .ref (ad (oLd L)))]) F (dAt dk_X1_countRoads 3 rfl) (by decide) rfl ?_
  refine g_sub (lv' := [(0, .ref (ad (oLd L))), (1, .int 0), (2, .int 0)]) [2, 1, 0] rfl ?_
  exact H4  n (0, 0, t) h
theorem mi_X1_allMiles : MI yX1_allMiles cX1_allMiles 3 (some .int) "MillOfDistances$Land" 0 := ⟨(gm mw_856 rfl), (gm mw_854 rfl), (gm mw_855 rfl), (gm mw_70 rfl), by decide +kernel, by decide⟩
theorem c_X1_allMiles {l : Launch} {D : va_G} {ad : Nat → Nat} {g : Gv} {t u : Mem} {n : Nat} {L : Fin 3} {t' : Mem} {r : Int32} (hJ : Jad ad) (h : f_X1_allMiles n L t = some (r, t')) : ConI l yX1_allMiles cX1_allMiles 3 (some .int) 2 [.ref (ad (oLd L))] D ad g t u t' u r := by
  refine con_i hJ (by decide) (Nat.le_of_ble_eq_true rfl) rfl (fun X F E => ?_)
  have H4 : ∀ (k : Nat) (s : Int32 × Int32 × Mem), iter (bd_X1_allMiles_4 n L) k s = some (r, t') → G X D ad g s.2.2 u [(0, .ref (ad (oLd L))), (1, .int s.1), (2, .int s.2.1)] 4 [] := by
    refine iter_walk (P := fun (s : Int32 × Int32 × Mem) => G X D ad g s.2.2 u [(0, .ref (ad (oLd L))), (1, .int s.1), (2, .int s.2.1)] 4 []) (fun self4 ih4 s h => ?_)
    obtain ⟨v1, v2, t0⟩ := s
    change G X D ad g t0 u [(0, .ref (ad (oLd L))), (1, .int v1), (2, .int v2)] 4 []
    unfold bd_X1_allMiles_4 at h; try dsimp only at h
    refine g_iload_n F (dAt dk_X1_allMiles 4 rfl) 2 rfl ?_
    refine g_aload_n F (dAt dk_X1_allMiles 5 rfl) 0 rfl ?_
    refine gg_Land_count L F (gm mw_103 rfl) (dAt dk_X1_allMiles 6 rfl) ?_
    refine g_icmp_ge (tgt := 26) F (dAt dk_X1_allMiles 7 rfl) (by decide) h (fun c1 h => ?_) (fun c1 h => ?_)
    · refine g_iload_n F (dAt dk_X1_allMiles 16 rfl) 1 rfl ?_
      refine g_iconst (v := 2) F (dAt dk_X1_allMiles 17 rfl) (by decide) ?_
      refine g_idiv F (dAt dk_X1_allMiles 18 rfl) (by decide) ?_
      cases h
      exact E (dAt dk_X1_allMiles 19 rfl) rfl
    · refine g_iload_n F (dAt dk_X1_allMiles 8 rfl) 1 rfl ?_
      refine g_aload_n F (dAt dk_X1_allMiles 9 rfl) 0 rfl ?_
      refine g_iload_n F (dAt dk_X1_allMiles 10 rfl) 2 rfl ?_
      refine g_invV_ic F mi_X1_milesOf (gm mw_857 rfl) (dAt dk_X1_allMiles 11 rfl) (rcx_of F (rc_Land L)) [.int v2] rfl rfl (by decide) (Nat.le_of_ble_eq_true rfl) h (fun _ _ hf => c_X1_milesOf hJ hf) (fun r2 t3 h => ?_)
      refine g_iadd F (dAt dk_X1_allMiles 12 rfl) ?_
      refine g_istore_n (lv' := [(1, .int (v1 + r2)), (0, .ref (ad (oLd L))), (2, .int v2)]) F (dAt dk_X1_allMiles 13 rfl) (by decide) rfl ?_
      refine g_iinc (lv' := [(2, .int (v2 + 1)), (1, .int (v1 + r2)), (0, .ref (ad (oLd L)))]) F (dAt dk_X1_allMiles 14 rfl) 2 rfl (w := 1) (by decide) (by decide) rfl ?_
      refine g_goto (tgt := 4) F (dAt dk_X1_allMiles 15 rfl) (by decide) ?_
      refine g_sub (lv' := [(0, .ref (ad (oLd L))), (1, .int (v1 + r2)), (2, .int (v2 + 1))]) [2, 1, 0] rfl ?_
      exact ih4 ((v1 + r2), (v2 + 1), t3) h
  refine g_lv (lv' := [(0, .ref (ad (oLd L)))]) rfl ?_
  unfold f_X1_allMiles at h
  refine g_iconst (v := 0) F (dAt dk_X1_allMiles 0 rfl) (by decide) ?_
  refine g_istore_n (lv' := [(1, .int 0), (0, .ref (ad (oLd L)))]) F (dAt dk_X1_allMiles 1 rfl) (by decide) rfl ?_
  refine g_iconst (v := 0) F (dAt dk_X1_allMiles 2 rfl) (by decide) ?_
  refine g_istore_n (lv' := [(2, .int 0), (1, .int 0), (0, .ref (ad (oLd L)))]) F (dAt dk_X1_allMiles 3 rfl) (by decide) rfl ?_
  refine g_sub (lv' := [(0, .ref (ad (oLd L))), (1, .int 0), (2, .int 0)]) [2, 1, 0] rfl ?_
  exact H4  n (0, 0, t) h
theorem mi_X1_asks : MI yX1_asks cX1_asks 4 (some .int) "MillOfDistances$Land" 2 := ⟨(gm mw_340 rfl), (gm mw_338 rfl), (gm mw_339 rfl), (gm mw_70 rfl), by decide +kernel, by decide⟩
theorem c_X1_asks {l : Launch} {D : va_G} {ad : Nat → Nat} {g : Gv} {t u : Mem} {L : Fin 3} {x1 : Int32} {x2 : Int32} {t' : Mem} {r : Int32} (hJ : Jad ad) (h : f_X1_asks L x1 x2 t = some (r, t')) : ConI l yX1_asks cX1_asks 4 (some .int) 0 [.ref (ad (oLd L)), .int x1, .int x2] D ad g t u t' u r := by
  refine con_i hJ (by decide) (Nat.le_of_ble_eq_true rfl) rfl (fun X F E => ?_)
  refine g_lv (lv' := [(0, .ref (ad (oLd L))), (1, .int x1), (2, .int x2)]) rfl ?_
  unfold f_X1_asks at h
  refine g_iload_n F (dAt dk_X1_asks 0 rfl) 1 rfl ?_
  refine g_if_lt (tgt := 12) F (dAt dk_X1_asks 1 rfl) (by decide) h (fun c1 h => ?_) (fun c1 h => ?_)
  · refine g_iconst (v := 0) F (dAt dk_X1_asks 6 rfl) (by decide) ?_
    cases h
    exact E (dAt dk_X1_asks 7 rfl) rfl
  · refine g_iload_n F (dAt dk_X1_asks 2 rfl) 1 rfl ?_
    refine g_aload_n F (dAt dk_X1_asks 3 rfl) 0 rfl ?_
    refine gg_Land_count L F (gm mw_103 rfl) (dAt dk_X1_asks 4 rfl) ?_
    refine g_icmp_lt (tgt := 14) F (dAt dk_X1_asks 5 rfl) (by decide) h (fun c2 h => ?_) (fun c2 h => ?_)
    · refine g_iload_n F (dAt dk_X1_asks 8 rfl) 2 rfl ?_
      refine g_iload_n F (dAt dk_X1_asks 9 rfl) 2 rfl ?_
      refine g_bipush (v := 10) F (dAt dk_X1_asks 10 rfl) (by decide) ?_
      refine g_idiv F (dAt dk_X1_asks 11 rfl) (by decide) ?_
      refine g_isub F (dAt dk_X1_asks 12 rfl) ?_
      refine g_istore_n (lv' := [(3, .int (x2 - (x2 / 10))), (0, .ref (ad (oLd L))), (1, .int x1), (2, .int x2)]) F (dAt dk_X1_asks 13 rfl) (by decide) rfl ?_
      refine g_aload_n F (dAt dk_X1_asks 14 rfl) 1 rfl ?_
      refine gg_Land_kinds L F (gm mw_98 rfl) (dAt dk_X1_asks 15 rfl) ?_
      refine g_iload_n F (dAt dk_X1_asks 16 rfl) 2 rfl ?_
      refine g_ck h (fun hi3 h => ?_)
      refine g_ialoadc F (ai_kinds L) (dAt dk_X1_asks 17 rfl) hi3 ?_
      refine g_lti h (fun y4 h => ?_)
      refine g_case 1 h (fun c5 h => ?_) (fun c5 h => ?_)
      · refine g_tabIn (v := 1) (tgt := 64) (off := 37) F (dAt dk_X1_asks 18 rfl) c5 (by decide) (by decide) rfl (by decide) ?_
        refine g_iconst (v := 2) F (dAt dk_X1_asks 19 rfl) (by decide) ?_
        refine g_iload_n F (dAt dk_X1_asks 20 rfl) 3 rfl ?_
        refine g_imul F (dAt dk_X1_asks 21 rfl) ?_
        cases h
        exact E (dAt dk_X1_asks 22 rfl) rfl
      · refine g_case 2 h (fun c6 h => ?_) (fun c6 h => ?_)
        · refine g_tabIn (v := 2) (tgt := 72) (off := 45) F (dAt dk_X1_asks 18 rfl) c6 (by decide) (by decide) rfl (by decide) ?_
          refine g_iload_n F (dAt dk_X1_asks 27 rfl) 3 rfl ?_
          refine g_aload_n F (dAt dk_X1_asks 28 rfl) 1 rfl ?_
          refine gg_Land_marks L F (gm mw_100 rfl) (dAt dk_X1_asks 29 rfl) ?_
          refine g_iload_n F (dAt dk_X1_asks 30 rfl) 2 rfl ?_
          refine g_ck h (fun hi7 h => ?_)
          refine g_ialoadc F (ai_marks L) (dAt dk_X1_asks 31 rfl) hi7 ?_
          refine g_iadd F (dAt dk_X1_asks 32 rfl) ?_
          cases h
          exact E (dAt dk_X1_asks 33 rfl) rfl
        · refine g_case 3 h (fun c8 h => ?_) (fun c8 h => ?_)
          · refine g_tabIn (v := 3) (tgt := 68) (off := 41) F (dAt dk_X1_asks 18 rfl) c8 (by decide) (by decide) rfl (by decide) ?_
            refine g_iconst (v := 3) F (dAt dk_X1_asks 23 rfl) (by decide) ?_
            refine g_iload_n F (dAt dk_X1_asks 24 rfl) 3 rfl ?_
            refine g_imul F (dAt dk_X1_asks 25 rfl) ?_
            cases h
            exact E (dAt dk_X1_asks 26 rfl) rfl
          · refine g_case 4 h (fun c9 h => ?_) (fun c9 h => ?_)
            · refine g_tabIn (v := 4) (tgt := 92) (off := 65) F (dAt dk_X1_asks 18 rfl) c9 (by decide) (by decide) rfl (by decide) ?_
              refine g_iload_n F (dAt dk_X1_asks 43 rfl) 0 rfl ?_
              cases h
              exact E (dAt dk_X1_asks 44 rfl) rfl
            · refine g_case 5 h (fun c10 h => ?_) (fun c10 h => ?_)
              · refine g_tabIn (v := 5) (tgt := 81) (off := 54) F (dAt dk_X1_asks 18 rfl) c10 (by decide) (by decide) rfl (by decide) ?_
                refine g_iconst (v := 2) F (dAt dk_X1_asks 34 rfl) (by decide) ?_
                refine g_iload_n F (dAt dk_X1_asks 35 rfl) 3 rfl ?_
                refine g_imul F (dAt dk_X1_asks 36 rfl) ?_
                refine g_aload_n F (dAt dk_X1_asks 37 rfl) 1 rfl ?_
                refine gg_Land_marks L F (gm mw_100 rfl) (dAt dk_X1_asks 38 rfl) ?_
                refine g_iload_n F (dAt dk_X1_asks 39 rfl) 2 rfl ?_
                refine g_ck h (fun hi11 h => ?_)
                refine g_ialoadc F (ai_marks L) (dAt dk_X1_asks 40 rfl) hi11 ?_
                refine g_iadd F (dAt dk_X1_asks 41 rfl) ?_
                cases h
                exact E (dAt dk_X1_asks 42 rfl) rfl
              · refine g_case 6 h (fun c12 h => ?_) (fun c12 h => ?_)
                · refine g_tabIn (v := 6) (tgt := 94) (off := 67) F (dAt dk_X1_asks 18 rfl) c12 (by decide) (by decide) rfl (by decide) ?_
                  refine g_iload_n F (dAt dk_X1_asks 45 rfl) 0 rfl ?_
                  refine g_iconst (v := 1) F (dAt dk_X1_asks 46 rfl) (by decide) ?_
                  refine g_icmp_ge (tgt := 103) F (dAt dk_X1_asks 47 rfl) (by decide) h (fun c13 h => ?_) (fun c13 h => ?_)
                  · refine g_iload_n F (dAt dk_X1_asks 50 rfl) 0 rfl ?_
                    refine g_iconst (v := 1) F (dAt dk_X1_asks 51 rfl) (by decide) ?_
                    refine g_isub F (dAt dk_X1_asks 52 rfl) ?_
                    cases h
                    exact E (dAt dk_X1_asks 53 rfl) rfl
                  · refine g_iconst (v := 0) F (dAt dk_X1_asks 48 rfl) (by decide) ?_
                    refine g_goto (tgt := 106) F (dAt dk_X1_asks 49 rfl) (by decide) ?_
                    cases h
                    exact E (dAt dk_X1_asks 53 rfl) rfl
                · have := lv_neT c5 (a := 1) (by decide)
                  have := lv_neT c6 (a := 2) (by decide)
                  have := lv_neT c8 (a := 3) (by decide)
                  have := lv_neT c9 (a := 4) (by decide)
                  have := lv_neT c10 (a := 5) (by decide)
                  have := lv_neT c12 (a := 6) (by decide)
                  refine g_tabOut (tgt := 107) F (dAt dk_X1_asks 18 rfl) (by omega) (by decide) ?_
                  refine g_iload_n F (dAt dk_X1_asks 54 rfl) 3 rfl ?_
                  cases h
                  exact E (dAt dk_X1_asks 55 rfl) rfl
    · refine g_iconst (v := 0) F (dAt dk_X1_asks 6 rfl) (by decide) ?_
      cases h
      exact E (dAt dk_X1_asks 7 rfl) rfl
theorem mi_X1_costOf : MI yX1_costOf cX1_costOf 4 (some .int) "MillOfDistances$Land" 3 := ⟨(gm mw_520 rfl), (gm mw_518 rfl), (gm mw_519 rfl), (gm mw_70 rfl), by decide +kernel, by decide⟩
theorem c_X1_costOf {l : Launch} {D : va_G} {ad : Nat → Nat} {g : Gv} {t u : Mem} {L : Fin 3} {x1 : Int32} {x2 : Int32} {x3 : Int32} {t' : Mem} {r : Int32} (hJ : Jad ad) (h : f_X1_costOf L x1 x2 x3 t = some (r, t')) : ConI l yX1_costOf cX1_costOf 4 (some .int) 1 [.ref (ad (oLd L)), .int x1, .int x2, .int x3] D ad g t u t' u r := by
  refine con_i hJ (by decide) (Nat.le_of_ble_eq_true rfl) rfl (fun X F E => ?_)
  refine g_lv (lv' := [(0, .ref (ad (oLd L))), (1, .int x1), (2, .int x2), (3, .int x3)]) rfl ?_
  unfold f_X1_costOf at h
  refine g_aload_n F (dAt dk_X1_costOf 0 rfl) 0 rfl ?_
  refine g_iload_n F (dAt dk_X1_costOf 1 rfl) 1 rfl ?_
  refine g_iload_n F (dAt dk_X1_costOf 2 rfl) 3 rfl ?_
  refine g_invV_ic F mi_X1_asks (gm mw_521 rfl) (dAt dk_X1_costOf 3 rfl) (rcx_of F (rc_Land L)) [.int x1, .int x3] rfl rfl (by decide) (Nat.le_of_ble_eq_true rfl) h (fun _ _ hf => c_X1_asks hJ hf) (fun r1 t2 h => ?_)
  refine g_aload_n F (dAt dk_X1_costOf 4 rfl) 0 rfl ?_
  refine g_iload_n F (dAt dk_X1_costOf 5 rfl) 2 rfl ?_
  refine g_iload_n F (dAt dk_X1_costOf 6 rfl) 3 rfl ?_
  refine g_invV_ic F mi_X1_asks (gm mw_521 rfl) (dAt dk_X1_costOf 7 rfl) (rcx_of F (rc_Land L)) [.int x2, .int x3] rfl rfl (by decide) (Nat.le_of_ble_eq_true rfl) h (fun _ _ hf => c_X1_asks hJ hf) (fun r3 t4 h => ?_)
  refine g_mmax F (gm mw_522 rfl) (dAt dk_X1_costOf 8 rfl) (by decide) (Nat.le_of_ble_eq_true rfl) h (fun r5 h => ?_)
  cases h
  exact E (dAt dk_X1_costOf 9 rfl) rfl
theorem mi_X1_yieldOf : MI yX1_yieldOf cX1_yieldOf 4 (some .int) "MillOfDistances$Land" 2 := ⟨(gm mw_537 rfl), (gm mw_535 rfl), (gm mw_536 rfl), (gm mw_70 rfl), by decide +kernel, by decide⟩
theorem c_X1_yieldOf {l : Launch} {D : va_G} {ad : Nat → Nat} {g : Gv} {t u : Mem} {n : Nat} {L : Fin 3} {x1 : Int32} {x2 : Int32} {t' : Mem} {r : Int32} (hJ : Jad ad) (h : f_X1_yieldOf n L x1 x2 t = some (r, t')) : ConI l yX1_yieldOf cX1_yieldOf 4 (some .int) 1 [.ref (ad (oLd L)), .int x1, .int x2] D ad g t u t' u r := by
  refine con_i hJ (by decide) (Nat.le_of_ble_eq_true rfl) rfl (fun X F E => ?_)
  have J31 : ∀ (v3 : Int32) (t0 : Mem), jn_X1_yieldOf_31 n L x1 x2 v3 t0 = some (r, t') → G X D ad g t0 u [(0, .ref (ad (oLd L))), (1, .int x1), (2, .int x2), (3, .int v3)] 31 [] := by
    intro v3 t0 h
    unfold jn_X1_yieldOf_31 at h
    refine g_aload_n F (dAt dk_X1_yieldOf 21 rfl) 0 rfl ?_
    refine g_iload_n F (dAt dk_X1_yieldOf 22 rfl) 1 rfl ?_
    refine g_iconst (v := 2) F (dAt dk_X1_yieldOf 23 rfl) (by decide) ?_
    refine g_invV_ic F mi_X1_isOf (gm mw_538 rfl) (dAt dk_X1_yieldOf 24 rfl) (rcx_of F (rc_Land L)) [.int x1, .int 2] rfl rfl (by decide) (Nat.le_of_ble_eq_true rfl) h (fun _ _ hf => c_X1_isOf hJ hf) (fun r9 t10 h => ?_)
    refine g_if_ne (tgt := 49) F (dAt dk_X1_yieldOf 25 rfl) (by decide) h (fun c11 h => ?_) (fun c11 h => ?_)
    · refine g_iload_n F (dAt dk_X1_yieldOf 31 rfl) 3 rfl ?_
      refine g_iconst (v := 2) F (dAt dk_X1_yieldOf 32 rfl) (by decide) ?_
      refine g_idiv F (dAt dk_X1_yieldOf 33 rfl) (by decide) ?_
      refine g_istore_n (lv' := [(3, .int (v3 / 2)), (0, .ref (ad (oLd L))), (1, .int x1), (2, .int x2)]) F (dAt dk_X1_yieldOf 34 rfl) (by decide) rfl ?_
      refine g_iload_n F (dAt dk_X1_yieldOf 35 rfl) 0 rfl ?_
      cases h
      exact E (dAt dk_X1_yieldOf 36 rfl) rfl
    · refine g_aload_n F (dAt dk_X1_yieldOf 26 rfl) 0 rfl ?_
      refine g_iload_n F (dAt dk_X1_yieldOf 27 rfl) 2 rfl ?_
      refine g_iconst (v := 2) F (dAt dk_X1_yieldOf 28 rfl) (by decide) ?_
      refine g_invV_ic F mi_X1_isOf (gm mw_538 rfl) (dAt dk_X1_yieldOf 29 rfl) (rcx_of F (rc_Land L)) [.int x2, .int 2] rfl rfl (by decide) (Nat.le_of_ble_eq_true rfl) h (fun _ _ hf => c_X1_isOf hJ hf) (fun r12 t13 h => ?_)
      refine g_if_eq (tgt := 53) F (dAt dk_X1_yieldOf 30 rfl) (by decide) h (fun c14 h => ?_) (fun c14 h => ?_)
      · refine g_iload_n F (dAt dk_X1_yieldOf 35 rfl) 3 rfl ?_
        cases h
        exact E (dAt dk_X1_yieldOf 36 rfl) rfl
      · refine g_iload_n F (dAt dk_X1_yieldOf 31 rfl) 3 rfl ?_
        refine g_iconst (v := 2) F (dAt dk_X1_yieldOf 32 rfl) (by decide) ?_
        refine g_idiv F (dAt dk_X1_yieldOf 33 rfl) (by decide) ?_
        refine g_istore_n (lv' := [(3, .int (v3 / 2)), (0, .ref (ad (oLd L))), (1, .int x1), (2, .int x2)]) F (dAt dk_X1_yieldOf 34 rfl) (by decide) rfl ?_
        refine g_iload_n F (dAt dk_X1_yieldOf 35 rfl) 0 rfl ?_
        cases h
        exact E (dAt dk_X1_yieldOf 36 rfl) rfl
  have J25 : ∀ (v3 : Int32) (t0 : Mem), jn_X1_yieldOf_25 n L x1 x2 v3 t0 = some (r, t') → G X D ad g t0 u [(0, .ref (ad (oLd L))), (1, .int x1), (2, .int x2), (3, .int v3)] 25 [] := by
    intro v3 t0 h
    unfold jn_X1_yieldOf_25 at h
    refine g_iload_n F (dAt dk_X1_yieldOf 15 rfl) 3 rfl ?_
    refine g_iload_n F (dAt dk_X1_yieldOf 16 rfl) 3 rfl ?_
    refine g_iconst (v := 4) F (dAt dk_X1_yieldOf 17 rfl) (by decide) ?_
    refine g_idiv F (dAt dk_X1_yieldOf 18 rfl) (by decide) ?_
    refine g_isub F (dAt dk_X1_yieldOf 19 rfl) ?_
    refine g_istore_n (lv' := [(3, .int (v3 - (v3 / 4))), (0, .ref (ad (oLd L))), (1, .int x1), (2, .int x2)]) F (dAt dk_X1_yieldOf 20 rfl) (by decide) rfl ?_
    refine g_sub (lv' := [(0, .ref (ad (oLd L))), (1, .int x1), (2, .int x2), (3, .int (v3 - (v3 / 4)))]) [1, 2, 3, 0] rfl ?_
    exact J31  (v3 - (v3 / 4)) t0 h
  refine g_lv (lv' := [(0, .ref (ad (oLd L))), (1, .int x1), (2, .int x2)]) rfl ?_
  unfold f_X1_yieldOf at h
  refine g_aload_n F (dAt dk_X1_yieldOf 0 rfl) 0 rfl ?_
  refine g_iload_n F (dAt dk_X1_yieldOf 1 rfl) 1 rfl ?_
  refine g_iload_n F (dAt dk_X1_yieldOf 2 rfl) 2 rfl ?_
  refine g_invV_ic F mi_X1_between (gm mw_345 rfl) (dAt dk_X1_yieldOf 3 rfl) (rcx_of F (rc_Land L)) [.int x1, .int x2] rfl rfl (by decide) (Nat.le_of_ble_eq_true rfl) h (fun _ _ hf => c_X1_between hJ hf) (fun r1 t2 h => ?_)
  refine g_istore_n (lv' := [(3, .int r1), (0, .ref (ad (oLd L))), (1, .int x1), (2, .int x2)]) F (dAt dk_X1_yieldOf 4 rfl) (by decide) rfl ?_
  refine g_aload_n F (dAt dk_X1_yieldOf 5 rfl) 1 rfl ?_
  refine g_iload_n F (dAt dk_X1_yieldOf 6 rfl) 2 rfl ?_
  refine g_iconst (v := 1) F (dAt dk_X1_yieldOf 7 rfl) (by decide) ?_
  refine g_invV_ic F mi_X1_isOf (gm mw_538 rfl) (dAt dk_X1_yieldOf 8 rfl) (rcx_of F (rc_Land L)) [.int x1, .int 1] rfl rfl (by decide) (Nat.le_of_ble_eq_true rfl) h (fun _ _ hf => c_X1_isOf hJ hf) (fun r3 t4 h => ?_)
  refine g_if_ne (tgt := 25) F (dAt dk_X1_yieldOf 9 rfl) (by decide) h (fun c5 h => ?_) (fun c5 h => ?_)
  · refine g_sub (lv' := [(0, .ref (ad (oLd L))), (1, .int x1), (2, .int x2), (3, .int r1)]) [1, 2, 3, 0] rfl ?_
    exact J25  r1 t4 h
  · refine g_aload_n F (dAt dk_X1_yieldOf 10 rfl) 1 rfl ?_
    refine g_iload_n F (dAt dk_X1_yieldOf 11 rfl) 3 rfl ?_
    refine g_iconst (v := 1) F (dAt dk_X1_yieldOf 12 rfl) (by decide) ?_
    refine g_invV_ic F mi_X1_isOf (gm mw_538 rfl) (dAt dk_X1_yieldOf 13 rfl) (rcx_of F (rc_Land L)) [.int x2, .int 1] rfl rfl (by decide) (Nat.le_of_ble_eq_true rfl) h (fun _ _ hf => c_X1_isOf hJ hf) (fun r6 t7 h => ?_)
    refine g_if_eq (tgt := 31) F (dAt dk_X1_yieldOf 14 rfl) (by decide) h (fun c8 h => ?_) (fun c8 h => ?_)
    · refine g_sub (lv' := [(0, .ref (ad (oLd L))), (1, .int x1), (2, .int x2), (3, .int r1)]) [1, 2, 3, 0] rfl ?_
      exact J31  r1 t7 h
    · refine g_sub (lv' := [(0, .ref (ad (oLd L))), (1, .int x1), (2, .int x2), (3, .int r1)]) [1, 2, 3, 0] rfl ?_
      exact J25  r1 t7 h
theorem mi_X1_grindRoad : MI yX1_grindRoad cX1_grindRoad 3 none "MillOfDistances$Land" 2 := ⟨(gm mw_532 rfl), (gm mw_530 rfl), (gm mw_531 rfl), (gm mw_70 rfl), by decide +kernel, by decide⟩
theorem c_X1_grindRoad {l : Launch} {D : va_G} {ad : Nat → Nat} {g : Gv} {t u : Mem} {n : Nat} {L : Fin 3} {x1 : Int32} {x2 : Int32} {t' : Mem} (hJ : Jad ad) (h : f_X1_grindRoad n L x1 x2 t = some ((), t')) : ConV l yX1_grindRoad cX1_grindRoad 3 none 2 [.ref (ad (oLd L)), .int x1, .int x2] D ad g t u t' u := by
  refine con_v hJ (by decide) (Nat.le_of_ble_eq_true rfl) rfl (fun X F E => ?_)
  refine g_lv (lv' := [(0, .ref (ad (oLd L))), (1, .int x1), (2, .int x2)]) rfl ?_
  unfold f_X1_grindRoad at h
  refine g_aload_n F (dAt dk_X1_grindRoad 0 rfl) 0 rfl ?_
  refine g_ldc (v := 99999) F (dAt dk_X1_grindRoad 1 rfl) (gm mw_533 rfl) ?_
  refine g_aload_n F (dAt dk_X1_grindRoad 2 rfl) 0 rfl ?_
  refine gg_Land_flour L F (gm mw_106 rfl) (dAt dk_X1_grindRoad 3 rfl) ?_
  refine g_aload_n F (dAt dk_X1_grindRoad 4 rfl) 0 rfl ?_
  refine g_iload_n F (dAt dk_X1_grindRoad 5 rfl) 1 rfl ?_
  refine g_iload_n F (dAt dk_X1_grindRoad 6 rfl) 2 rfl ?_
  refine g_invV_ic F mi_X1_yieldOf (gm mw_534 rfl) (dAt dk_X1_grindRoad 7 rfl) (rcx_of F (rc_Land L)) [.int x1, .int x2] rfl rfl (by decide) (Nat.le_of_ble_eq_true rfl) h (fun _ _ hf => c_X1_yieldOf hJ hf) (fun r1 t2 h => ?_)
  refine g_iadd F (dAt dk_X1_grindRoad 8 rfl) ?_
  refine g_mmin F (gm mw_539 rfl) (dAt dk_X1_grindRoad 9 rfl) (by decide) (Nat.le_of_ble_eq_true rfl) h (fun r3 h => ?_)
  refine gp_Land_flour L F (gm mw_106 rfl) (dAt dk_X1_grindRoad 10 rfl) ?_
  refine g_ltt h (fun t4 h => ?_)
  refine g_aload_n F (dAt dk_X1_grindRoad 11 rfl) 0 rfl ?_
  refine g_iload_n F (dAt dk_X1_grindRoad 12 rfl) 1 rfl ?_
  refine g_iload_n F (dAt dk_X1_grindRoad 13 rfl) 2 rfl ?_
  refine g_iconst (v := 0) F (dAt dk_X1_grindRoad 14 rfl) (by decide) ?_
  refine g_invV_vc F mi_X1_lay (gm mw_542 rfl) (dAt dk_X1_grindRoad 15 rfl) (rcx_of F (rc_Land L)) [.int x1, .int x2, .int 0] rfl rfl (by decide) (Nat.le_of_ble_eq_true rfl) h (fun _ _ hf => c_X1_lay hJ hf) (fun _ t5 h => ?_)
  cases h
  exact E (dAt dk_X1_grindRoad 16 rfl)
theorem mi_X1_mayPinch : MI yX1_mayPinch cX1_mayPinch 5 (some .boolean) "MillOfDistances$Land" 3 := ⟨(gm mw_513 rfl), (gm mw_511 rfl), (gm mw_512 rfl), (gm mw_70 rfl), by decide +kernel, by decide⟩
theorem c_X1_mayPinch {l : Launch} {D : va_G} {ad : Nat → Nat} {g : Gv} {t u : Mem} {L : Fin 3} {x1 : Int32} {x2 : Int32} {x3 : Int32} {t' : Mem} {r : Int32} (hJ : Jad ad) (h : f_X1_mayPinch L x1 x2 x3 t = some (r, t')) : ConI l yX1_mayPinch cX1_mayPinch 5 (some .boolean) 2 [.ref (ad (oLd L)), .int x1, .int x2, .int x3] D ad g t u t' u r := by
  refine con_i hJ (by decide) (Nat.le_of_ble_eq_true rfl) rfl (fun X F E => ?_)
  refine g_lv (lv' := [(0, .ref (ad (oLd L))), (1, .int x1), (2, .int x2), (3, .int x3)]) rfl ?_
  unfold f_X1_mayPinch at h
  refine g_aload_n F (dAt dk_X1_mayPinch 0 rfl) 0 rfl ?_
  refine g_iload_n F (dAt dk_X1_mayPinch 1 rfl) 1 rfl ?_
  refine g_iload_n F (dAt dk_X1_mayPinch 2 rfl) 2 rfl ?_
  refine g_invV_ic F mi_X1_between (gm mw_345 rfl) (dAt dk_X1_mayPinch 3 rfl) (rcx_of F (rc_Land L)) [.int x1, .int x2] rfl rfl (by decide) (Nat.le_of_ble_eq_true rfl) h (fun _ _ hf => c_X1_between hJ hf) (fun r1 t2 h => ?_)
  refine g_istore (lv' := [(4, .int r1), (0, .ref (ad (oLd L))), (1, .int x1), (2, .int x2), (3, .int x3)]) F (dAt dk_X1_mayPinch 4 rfl) (by decide) rfl ?_
  refine g_iload F (dAt dk_X1_mayPinch 5 rfl) 0 rfl ?_
  refine g_if_eq (tgt := 31) F (dAt dk_X1_mayPinch 6 rfl) (by decide) h (fun c3 h => ?_) (fun c3 h => ?_)
  · refine g_iconst (v := 0) F (dAt dk_X1_mayPinch 15 rfl) (by decide) ?_
    cases h
    exact E (dAt dk_X1_mayPinch 16 rfl) rfl
  · refine g_iload_n F (dAt dk_X1_mayPinch 7 rfl) 4 rfl ?_
    refine g_if_eq (tgt := 31) F (dAt dk_X1_mayPinch 8 rfl) (by decide) h (fun c4 h => ?_) (fun c4 h => ?_)
    · refine g_iconst (v := 0) F (dAt dk_X1_mayPinch 15 rfl) (by decide) ?_
      cases h
      exact E (dAt dk_X1_mayPinch 16 rfl) rfl
    · refine g_iload_n F (dAt dk_X1_mayPinch 9 rfl) 4 rfl ?_
      refine g_sipush (v := (-998)) F (dAt dk_X1_mayPinch 10 rfl) (by decide) ?_
      refine g_icmp_lt (tgt := 31) F (dAt dk_X1_mayPinch 11 rfl) (by decide) h (fun c5 h => ?_) (fun c5 h => ?_)
      · refine g_iconst (v := 0) F (dAt dk_X1_mayPinch 15 rfl) (by decide) ?_
        cases h
        exact E (dAt dk_X1_mayPinch 16 rfl) rfl
      · refine g_iload_n F (dAt dk_X1_mayPinch 12 rfl) 4 rfl ?_
        refine g_sipush (v := 998) F (dAt dk_X1_mayPinch 13 rfl) (by decide) ?_
        refine g_icmp_le (tgt := 33) F (dAt dk_X1_mayPinch 14 rfl) (by decide) h (fun c6 h => ?_) (fun c6 h => ?_)
        · refine g_iload F (dAt dk_X1_mayPinch 17 rfl) 0 rfl ?_
          refine g_iload_n F (dAt dk_X1_mayPinch 18 rfl) 4 rfl ?_
          refine g_iadd F (dAt dk_X1_mayPinch 19 rfl) ?_
          refine g_iconst (v := 1) F (dAt dk_X1_mayPinch 20 rfl) (by decide) ?_
          refine g_icmp_lt (tgt := 72) F (dAt dk_X1_mayPinch 21 rfl) (by decide) h (fun c7 h => ?_) (fun c7 h => ?_)
          · refine g_iconst (v := 0) F (dAt dk_X1_mayPinch 38 rfl) (by decide) ?_
            cases h
            exact E (dAt dk_X1_mayPinch 39 rfl) rfl
          · refine g_iload F (dAt dk_X1_mayPinch 22 rfl) 0 rfl ?_
            refine g_iload_n F (dAt dk_X1_mayPinch 23 rfl) 4 rfl ?_
            refine g_iadd F (dAt dk_X1_mayPinch 24 rfl) ?_
            refine g_sipush (v := 999) F (dAt dk_X1_mayPinch 25 rfl) (by decide) ?_
            refine g_icmp_gt (tgt := 72) F (dAt dk_X1_mayPinch 26 rfl) (by decide) h (fun c8 h => ?_) (fun c8 h => ?_)
            · refine g_iconst (v := 0) F (dAt dk_X1_mayPinch 38 rfl) (by decide) ?_
              cases h
              exact E (dAt dk_X1_mayPinch 39 rfl) rfl
            · refine g_aload_n F (dAt dk_X1_mayPinch 27 rfl) 1 rfl ?_
              refine g_iload_n F (dAt dk_X1_mayPinch 28 rfl) 2 rfl ?_
              refine g_iload_n F (dAt dk_X1_mayPinch 29 rfl) 3 rfl ?_
              refine g_iload_n F (dAt dk_X1_mayPinch 30 rfl) 4 rfl ?_
              refine g_mabs F (gm mw_514 rfl) (dAt dk_X1_mayPinch 31 rfl) (by decide) (Nat.le_of_ble_eq_true rfl) h (fun r9 h => ?_)
              refine g_invV_ic F mi_X1_costOf (gm mw_517 rfl) (dAt dk_X1_mayPinch 32 rfl) (rcx_of F (rc_Land L)) [.int x1, .int x2, .int r9] rfl rfl (by decide) (Nat.le_of_ble_eq_true rfl) h (fun _ _ hf => c_X1_costOf hJ hf) (fun r10 t11 h => ?_)
              refine g_aload_n F (dAt dk_X1_mayPinch 33 rfl) 1 rfl ?_
              refine gg_Land_flour L F (gm mw_106 rfl) (dAt dk_X1_mayPinch 34 rfl) ?_
              refine g_icmp_gt (tgt := 72) F (dAt dk_X1_mayPinch 35 rfl) (by decide) h (fun c12 h => ?_) (fun c12 h => ?_)
              · refine g_iconst (v := 0) F (dAt dk_X1_mayPinch 38 rfl) (by decide) ?_
                cases h
                exact E (dAt dk_X1_mayPinch 39 rfl) rfl
              · refine g_iconst (v := 1) F (dAt dk_X1_mayPinch 36 rfl) (by decide) ?_
                refine g_goto (tgt := 73) F (dAt dk_X1_mayPinch 37 rfl) (by decide) ?_
                cases h
                exact E (dAt dk_X1_mayPinch 39 rfl) rfl
        · refine g_iconst (v := 0) F (dAt dk_X1_mayPinch 15 rfl) (by decide) ?_
          cases h
          exact E (dAt dk_X1_mayPinch 16 rfl) rfl
theorem mi_X1_pinch : MI yX1_pinch cX1_pinch 4 none "MillOfDistances$Land" 3 := ⟨(gm mw_546 rfl), (gm mw_544 rfl), (gm mw_545 rfl), (gm mw_70 rfl), by decide +kernel, by decide⟩
theorem c_X1_pinch {l : Launch} {D : va_G} {ad : Nat → Nat} {g : Gv} {t u : Mem} {L : Fin 3} {x1 : Int32} {x2 : Int32} {x3 : Int32} {t' : Mem} (hJ : Jad ad) (h : f_X1_pinch L x1 x2 x3 t = some ((), t')) : ConV l yX1_pinch cX1_pinch 4 none 2 [.ref (ad (oLd L)), .int x1, .int x2, .int x3] D ad g t u t' u := by
  refine con_v hJ (by decide) (Nat.le_of_ble_eq_true rfl) rfl (fun X F E => ?_)
  refine g_lv (lv' := [(0, .ref (ad (oLd L))), (1, .int x1), (2, .int x2), (3, .int x3)]) rfl ?_
  unfold f_X1_pinch at h
  refine g_aload_n F (dAt dk_X1_pinch 0 rfl) 0 rfl ?_
  refine g_dup F (dAt dk_X1_pinch 1 rfl) rfl ?_
  refine gg_Land_flour L F (gm mw_106 rfl) (dAt dk_X1_pinch 2 rfl) ?_
  refine g_aload_n F (dAt dk_X1_pinch 3 rfl) 0 rfl ?_
  refine g_iload_n F (dAt dk_X1_pinch 4 rfl) 1 rfl ?_
  refine g_iload_n F (dAt dk_X1_pinch 5 rfl) 2 rfl ?_
  refine g_iload_n F (dAt dk_X1_pinch 6 rfl) 3 rfl ?_
  refine g_mabs F (gm mw_514 rfl) (dAt dk_X1_pinch 7 rfl) (by decide) (Nat.le_of_ble_eq_true rfl) h (fun r1 h => ?_)
  refine g_invV_ic F mi_X1_costOf (gm mw_517 rfl) (dAt dk_X1_pinch 8 rfl) (rcx_of F (rc_Land L)) [.int x1, .int x2, .int r1] rfl rfl (by decide) (Nat.le_of_ble_eq_true rfl) h (fun _ _ hf => c_X1_costOf hJ hf) (fun r2 t3 h => ?_)
  refine g_isub F (dAt dk_X1_pinch 9 rfl) ?_
  refine gp_Land_flour L F (gm mw_106 rfl) (dAt dk_X1_pinch 10 rfl) ?_
  refine g_ltt h (fun t4 h => ?_)
  refine g_aload_n F (dAt dk_X1_pinch 11 rfl) 0 rfl ?_
  refine g_iload_n F (dAt dk_X1_pinch 12 rfl) 1 rfl ?_
  refine g_iload_n F (dAt dk_X1_pinch 13 rfl) 2 rfl ?_
  refine g_aload_n F (dAt dk_X1_pinch 14 rfl) 0 rfl ?_
  refine g_iload_n F (dAt dk_X1_pinch 15 rfl) 1 rfl ?_
  refine g_iload_n F (dAt dk_X1_pinch 16 rfl) 2 rfl ?_
  refine g_invV_ic F mi_X1_between (gm mw_345 rfl) (dAt dk_X1_pinch 17 rfl) (rcx_of F (rc_Land L)) [.int x1, .int x2] rfl rfl (by decide) (Nat.le_of_ble_eq_true rfl) h (fun _ _ hf => c_X1_between hJ hf) (fun r5 t6 h => ?_)
  refine g_iload_n F (dAt dk_X1_pinch 18 rfl) 3 rfl ?_
  refine g_iadd F (dAt dk_X1_pinch 19 rfl) ?_
  refine g_invV_vc F mi_X1_lay (gm mw_542 rfl) (dAt dk_X1_pinch 20 rfl) (rcx_of F (rc_Land L)) [.int x1, .int x2, .int (r5 + x3)] rfl rfl (by decide) (Nat.le_of_ble_eq_true rfl) h (fun _ _ hf => c_X1_lay hJ hf) (fun _ t7 h => ?_)
  cases h
  exact E (dAt dk_X1_pinch 21 rfl)
theorem mi_X1_bend : MI yX1_bend cX1_bend 6 none "MillOfDistances$Land" 3 := ⟨(gm mw_701 rfl), (gm mw_699 rfl), (gm mw_700 rfl), (gm mw_70 rfl), by decide +kernel, by decide⟩
theorem c_X1_bend {l : Launch} {D : va_G} {ad : Nat → Nat} {g : Gv} {t u : Mem} {L : Fin 3} {x1 : Int32} {x2 : Int32} {x3 : Int32} {t' : Mem} (hJ : Jad ad) (h : f_X1_bend L x1 x2 x3 t = some ((), t')) : ConV l yX1_bend cX1_bend 6 none 2 [.ref (ad (oLd L)), .int x1, .int x2, .int x3] D ad g t u t' u := by
  refine con_v hJ (by decide) (Nat.le_of_ble_eq_true rfl) rfl (fun X F E => ?_)
  refine g_lv (lv' := [(0, .ref (ad (oLd L))), (1, .int x1), (2, .int x2), (3, .int x3)]) rfl ?_
  unfold f_X1_bend at h
  refine g_aload_n F (dAt dk_X1_bend 0 rfl) 0 rfl ?_
  refine g_iload_n F (dAt dk_X1_bend 1 rfl) 1 rfl ?_
  refine g_iload_n F (dAt dk_X1_bend 2 rfl) 2 rfl ?_
  refine g_invV_ic F mi_X1_between (gm mw_345 rfl) (dAt dk_X1_bend 3 rfl) (rcx_of F (rc_Land L)) [.int x1, .int x2] rfl rfl (by decide) (Nat.le_of_ble_eq_true rfl) h (fun _ _ hf => c_X1_between hJ hf) (fun r1 t2 h => ?_)
  refine g_i2l F (dAt dk_X1_bend 4 rfl) ?_
  refine g_iload_n F (dAt dk_X1_bend 5 rfl) 3 rfl ?_
  refine g_i2l F (dAt dk_X1_bend 6 rfl) ?_
  refine g_ladd F (dAt dk_X1_bend 7 rfl) ?_
  refine g_lstore (lv' := [(4, .long (r1.toInt64 + x3.toInt64)), (0, .ref (ad (oLd L))), (1, .int x1), (2, .int x2), (3, .int x3)]) F (dAt dk_X1_bend 8 rfl) (by decide) rfl ?_
  refine g_aload_n F (dAt dk_X1_bend 9 rfl) 1 rfl ?_
  refine g_iload_n F (dAt dk_X1_bend 10 rfl) 2 rfl ?_
  refine g_iload_n F (dAt dk_X1_bend 11 rfl) 3 rfl ?_
  refine g_lconst (v := 1) F (dAt dk_X1_bend 12 rfl) (by decide) ?_
  refine g_ldc2 (v := 999) F (dAt dk_X1_bend 13 rfl) (gm mw_702 rfl) ?_
  refine g_lload F (dAt dk_X1_bend 14 rfl) 0 rfl ?_
  refine g_lmin F (gm mw_703 rfl) (dAt dk_X1_bend 15 rfl) (by decide) (Nat.le_of_ble_eq_true rfl) h (fun r3 h => ?_)
  refine g_lmax F (gm mw_706 rfl) (dAt dk_X1_bend 16 rfl) (by decide) (Nat.le_of_ble_eq_true rfl) h (fun r4 h => ?_)
  refine g_l2i F (dAt dk_X1_bend 17 rfl) ?_
  refine g_invV_vc F mi_X1_lay (gm mw_542 rfl) (dAt dk_X1_bend 18 rfl) (rcx_of F (rc_Land L)) [.int x1, .int x2, .int r4.toInt32] rfl rfl (by decide) (Nat.le_of_ble_eq_true rfl) h (fun _ _ hf => c_X1_lay hJ hf) (fun _ t5 h => ?_)
  cases h
  exact E (dAt dk_X1_bend 19 rfl)
theorem mi_X1_draw : MI yX1_draw cX1_draw 2 (some .int) "MillOfDistances$Land" 1 := ⟨(gm mw_792 rfl), (gm mw_790 rfl), (gm mw_791 rfl), (gm mw_70 rfl), by decide +kernel, by decide⟩
theorem c_X1_draw {l : Launch} {D : va_G} {ad : Nat → Nat} {g : Gv} {t u : Mem} {L : Fin 3} {x1 : Int32} {t' : Mem} {r : Int32} (hJ : Jad ad) (h : f_X1_draw L x1 t = some (r, t')) : ConI l yX1_draw cX1_draw 2 (some .int) 0 [.ref (ad (oLd L)), .int x1] D ad g t u t' u r := by
  refine con_i hJ (by decide) (Nat.le_of_ble_eq_true rfl) rfl (fun X F E => ?_)
  refine g_lv (lv' := [(0, .ref (ad (oLd L))), (1, .int x1)]) rfl ?_
  unfold f_X1_draw at h
  refine g_aload_n F (dAt dk_X1_draw 0 rfl) 0 rfl ?_
  refine g_aload_n F (dAt dk_X1_draw 1 rfl) 0 rfl ?_
  refine gg_Land_seed L F (gm mw_112 rfl) (dAt dk_X1_draw 2 rfl) ?_
  refine g_ldc (v := 1103515245) F (dAt dk_X1_draw 3 rfl) (gm mw_793 rfl) ?_
  refine g_imul F (dAt dk_X1_draw 4 rfl) ?_
  refine g_sipush (v := 12345) F (dAt dk_X1_draw 5 rfl) (by decide) ?_
  refine g_iadd F (dAt dk_X1_draw 6 rfl) ?_
  refine gp_Land_seed L F (gm mw_112 rfl) (dAt dk_X1_draw 7 rfl) ?_
  refine g_ltt h (fun t1 h => ?_)
  refine g_iload_n F (dAt dk_X1_draw 8 rfl) 1 rfl ?_
  refine g_iconst (v := 1) F (dAt dk_X1_draw 9 rfl) (by decide) ?_
  refine g_icmp_ge (tgt := 24) F (dAt dk_X1_draw 10 rfl) (by decide) h (fun c2 h => ?_) (fun c2 h => ?_)
  · refine g_aload_n F (dAt dk_X1_draw 13 rfl) 0 rfl ?_
    refine gg_Land_seed L F (gm mw_112 rfl) (dAt dk_X1_draw 14 rfl) ?_
    refine g_bipush (v := 16) F (dAt dk_X1_draw 15 rfl) (by decide) ?_
    refine g_iushr F (dAt dk_X1_draw 16 rfl) ?_
    refine g_iload_n F (dAt dk_X1_draw 17 rfl) 1 rfl ?_
    refine g_ck h (fun hz3 h => ?_)
    refine g_irem F (dAt dk_X1_draw 18 rfl) (of_decide_eq_true hz3) ?_
    cases h
    exact E (dAt dk_X1_draw 19 rfl) rfl
  · refine g_iconst (v := 0) F (dAt dk_X1_draw 11 rfl) (by decide) ?_
    refine g_goto (tgt := 33) F (dAt dk_X1_draw 12 rfl) (by decide) ?_
    cases h
    exact E (dAt dk_X1_draw 19 rfl) rfl
theorem mi_X1_gust : MI yX1_gust cX1_gust 5 (some .int) "MillOfDistances$Land" 0 := ⟨(gm mw_788 rfl), (gm mw_786 rfl), (gm mw_787 rfl), (gm mw_70 rfl), by decide +kernel, by decide⟩
theorem c_X1_gust {l : Launch} {D : va_G} {ad : Nat → Nat} {g : Gv} {t u : Mem} {L : Fin 3} {t' : Mem} {r : Int32} (hJ : Jad ad) (h : f_X1_gust L t = some (r, t')) : ConI l yX1_gust cX1_gust 5 (some .int) 2 [.ref (ad (oLd L))] D ad g t u t' u r := by
  refine con_i hJ (by decide) (Nat.le_of_ble_eq_true rfl) rfl (fun X F E => ?_)
  refine g_lv (lv' := [(0, .ref (ad (oLd L)))]) rfl ?_
  unfold f_X1_gust at h
  refine g_aload_n F (dAt dk_X1_gust 0 rfl) 0 rfl ?_
  refine g_aload_n F (dAt dk_X1_gust 1 rfl) 0 rfl ?_
  refine gg_Land_count L F (gm mw_103 rfl) (dAt dk_X1_gust 2 rfl) ?_
  refine g_invV_ic F mi_X1_draw (gm mw_789 rfl) (dAt dk_X1_gust 3 rfl) (rcx_of F (rc_Land L)) [.int (t.1 (oLd L) 3)] rfl rfl (by decide) (Nat.le_of_ble_eq_true rfl) h (fun _ _ hf => c_X1_draw hJ hf) (fun r1 t2 h => ?_)
  refine g_istore_n (lv' := [(1, .int r1), (0, .ref (ad (oLd L)))]) F (dAt dk_X1_gust 4 rfl) (by decide) rfl ?_
  refine g_aload_n F (dAt dk_X1_gust 5 rfl) 1 rfl ?_
  refine g_aload_n F (dAt dk_X1_gust 6 rfl) 1 rfl ?_
  refine gg_Land_count L F (gm mw_103 rfl) (dAt dk_X1_gust 7 rfl) ?_
  refine g_invV_ic F mi_X1_draw (gm mw_789 rfl) (dAt dk_X1_gust 8 rfl) (rcx_of F (rc_Land L)) [.int (t2.1 (oLd L) 3)] rfl rfl (by decide) (Nat.le_of_ble_eq_true rfl) h (fun _ _ hf => c_X1_draw hJ hf) (fun r3 t4 h => ?_)
  refine g_istore_n (lv' := [(2, .int r3), (1, .int r1), (0, .ref (ad (oLd L)))]) F (dAt dk_X1_gust 9 rfl) (by decide) rfl ?_
  refine g_aload_n F (dAt dk_X1_gust 10 rfl) 2 rfl ?_
  refine g_iload_n F (dAt dk_X1_gust 11 rfl) 1 rfl ?_
  refine g_iload_n F (dAt dk_X1_gust 12 rfl) 0 rfl ?_
  refine g_invV_ic F mi_X1_between (gm mw_345 rfl) (dAt dk_X1_gust 13 rfl) (rcx_of F (rc_Land L)) [.int r1, .int r3] rfl rfl (by decide) (Nat.le_of_ble_eq_true rfl) h (fun _ _ hf => c_X1_between hJ hf) (fun r5 t6 h => ?_)
  refine g_istore_n (lv' := [(3, .int r5), (2, .int r3), (1, .int r1), (0, .ref (ad (oLd L)))]) F (dAt dk_X1_gust 14 rfl) (by decide) rfl ?_
  refine g_iload_n F (dAt dk_X1_gust 15 rfl) 0 rfl ?_
  refine g_if_ne (tgt := 31) F (dAt dk_X1_gust 16 rfl) (by decide) h (fun c7 h => ?_) (fun c7 h => ?_)
  · refine g_aload_n F (dAt dk_X1_gust 19 rfl) 3 rfl ?_
    refine g_aload_n F (dAt dk_X1_gust 20 rfl) 3 rfl ?_
    refine gg_Land_wind L F (gm mw_109 rfl) (dAt dk_X1_gust 21 rfl) ?_
    refine g_iconst (v := 1) F (dAt dk_X1_gust 22 rfl) (by decide) ?_
    refine g_iadd F (dAt dk_X1_gust 23 rfl) ?_
    refine g_invV_ic F mi_X1_draw (gm mw_789 rfl) (dAt dk_X1_gust 24 rfl) (rcx_of F (rc_Land L)) [.int ((t6.1 (oLd L) 5) + 1)] rfl rfl (by decide) (Nat.le_of_ble_eq_true rfl) h (fun _ _ hf => c_X1_draw hJ hf) (fun r8 t9 h => ?_)
    refine g_istore (lv' := [(4, .int r8), (3, .int r5), (2, .int r3), (1, .int r1), (0, .ref (ad (oLd L)))]) F (dAt dk_X1_gust 25 rfl) (by decide) rfl ?_
    refine g_aload_n F (dAt dk_X1_gust 26 rfl) 4 rfl ?_
    refine g_iconst (v := 0) F (dAt dk_X1_gust 27 rfl) (by decide) ?_
    refine g_aload_n F (dAt dk_X1_gust 28 rfl) 4 rfl ?_
    refine gg_Land_flour L F (gm mw_106 rfl) (dAt dk_X1_gust 29 rfl) ?_
    refine g_iload F (dAt dk_X1_gust 30 rfl) 0 rfl ?_
    refine g_isub F (dAt dk_X1_gust 31 rfl) ?_
    refine g_mmax F (gm mw_522 rfl) (dAt dk_X1_gust 32 rfl) (by decide) (Nat.le_of_ble_eq_true rfl) h (fun r10 h => ?_)
    refine gp_Land_flour L F (gm mw_106 rfl) (dAt dk_X1_gust 33 rfl) ?_
    refine g_ltt h (fun t11 h => ?_)
    refine g_aload_n F (dAt dk_X1_gust 34 rfl) 4 rfl ?_
    refine g_iload_n F (dAt dk_X1_gust 35 rfl) 3 rfl ?_
    refine g_iload_n F (dAt dk_X1_gust 36 rfl) 2 rfl ?_
    refine g_sipush (v := 999) F (dAt dk_X1_gust 37 rfl) (by decide) ?_
    refine g_iload_n F (dAt dk_X1_gust 38 rfl) 1 rfl ?_
    refine g_iload F (dAt dk_X1_gust 39 rfl) 0 rfl ?_
    refine g_iadd F (dAt dk_X1_gust 40 rfl) ?_
    refine g_mmin F (gm mw_539 rfl) (dAt dk_X1_gust 41 rfl) (by decide) (Nat.le_of_ble_eq_true rfl) h (fun r12 h => ?_)
    refine g_invV_vc F mi_X1_lay (gm mw_542 rfl) (dAt dk_X1_gust 42 rfl) (rcx_of F (rc_Land L)) [.int r1, .int r3, .int r12] rfl rfl (by decide) (Nat.le_of_ble_eq_true rfl) h (fun _ _ hf => c_X1_lay hJ hf) (fun _ t13 h => ?_)
    refine g_aload_n F (dAt dk_X1_gust 43 rfl) 4 rfl ?_
    refine g_iload_n F (dAt dk_X1_gust 44 rfl) 3 rfl ?_
    refine g_iload_n F (dAt dk_X1_gust 45 rfl) 2 rfl ?_
    refine g_invV_ic F mi_X1_between (gm mw_345 rfl) (dAt dk_X1_gust 46 rfl) (rcx_of F (rc_Land L)) [.int r1, .int r3] rfl rfl (by decide) (Nat.le_of_ble_eq_true rfl) h (fun _ _ hf => c_X1_between hJ hf) (fun r14 t15 h => ?_)
    refine g_iload_n F (dAt dk_X1_gust 47 rfl) 1 rfl ?_
    refine g_isub F (dAt dk_X1_gust 48 rfl) ?_
    cases h
    exact E (dAt dk_X1_gust 49 rfl) rfl
  · refine g_iconst (v := 0) F (dAt dk_X1_gust 17 rfl) (by decide) ?_
    cases h
    exact E (dAt dk_X1_gust 18 rfl) rfl
theorem mi_X1_leastMilesFrom : MI yX1_leastMilesFrom cX1_leastMilesFrom 6 (some .int) "MillOfDistances$Land" 2 := ⟨(gm mw_632 rfl), (gm mw_631 rfl), (gm mw_15 rfl), (gm mw_70 rfl), by decide +kernel, by decide⟩
theorem c_X1_leastMilesFrom {l : Launch} {D : va_G} {ad : Nat → Nat} {g : Gv} {t u : Mem} {n : Nat} {L : Fin 3} {x1 : Int32} {x2 : Int32} {t' : Mem} {r : Int32} (hJ : Jad ad) (h : f_X1_leastMilesFrom n L x1 x2 t = some (r, t')) : ConI l yX1_leastMilesFrom cX1_leastMilesFrom 6 (some .int) 1 [.ref (ad (oLd L)), .int x1, .int x2] D ad g t u t' u r := by
  refine con_i hJ (by decide) (Nat.le_of_ble_eq_true rfl) rfl (fun X F E => ?_)
  have H5 : ∀ (k : Nat) (s : Int32 × Int32 × Mem), iter (bd_X1_leastMilesFrom_5 n L x1 x2) k s = some (r, t') → G X D ad g s.2.2 u [(0, .ref (ad (oLd L))), (1, .int x1), (2, .int x2), (3, .int s.1), (4, .int s.2.1)] 5 [] := by
    refine iter_walk (P := fun (s : Int32 × Int32 × Mem) => G X D ad g s.2.2 u [(0, .ref (ad (oLd L))), (1, .int x1), (2, .int x2), (3, .int s.1), (4, .int s.2.1)] 5 []) (fun self5 ih5 s h => ?_)
    obtain ⟨v3, v4, t0⟩ := s
    change G X D ad g t0 u [(0, .ref (ad (oLd L))), (1, .int x1), (2, .int x2), (3, .int v3), (4, .int v4)] 5 []
    unfold bd_X1_leastMilesFrom_5 at h; try dsimp only at h
    refine g_iload F (dAt dk_X1_leastMilesFrom 4 rfl) 4 rfl ?_
    refine g_aload_n F (dAt dk_X1_leastMilesFrom 5 rfl) 0 rfl ?_
    refine gg_Land_count L F (gm mw_103 rfl) (dAt dk_X1_leastMilesFrom 6 rfl) ?_
    refine g_icmp_ge (tgt := 56) F (dAt dk_X1_leastMilesFrom 7 rfl) (by decide) h (fun c1 h => ?_) (fun c1 h => ?_)
    · refine g_iload_n F (dAt dk_X1_leastMilesFrom 30 rfl) 3 rfl ?_
      cases h
      exact E (dAt dk_X1_leastMilesFrom 31 rfl) rfl
    · refine g_aload_n F (dAt dk_X1_leastMilesFrom 8 rfl) 0 rfl ?_
      refine g_iload F (dAt dk_X1_leastMilesFrom 9 rfl) 4 rfl ?_
      refine g_iload_n F (dAt dk_X1_leastMilesFrom 10 rfl) 2 rfl ?_
      refine g_invV_ic F mi_X1_between (gm mw_345 rfl) (dAt dk_X1_leastMilesFrom 11 rfl) (rcx_of F (rc_Land L)) [.int v4, .int x2] rfl rfl (by decide) (Nat.le_of_ble_eq_true rfl) h (fun _ _ hf => c_X1_between hJ hf) (fun r2 t3 h => ?_)
      refine g_istore (lv' := [(5, .int r2), (0, .ref (ad (oLd L))), (1, .int x1), (2, .int x2), (3, .int v3), (4, .int v4)]) F (dAt dk_X1_leastMilesFrom 12 rfl) (by decide) rfl ?_
      refine g_iload_n F (dAt dk_X1_leastMilesFrom 13 rfl) 2 rfl ?_
      refine g_iload F (dAt dk_X1_leastMilesFrom 14 rfl) 5 rfl ?_
      refine g_ishr F (dAt dk_X1_leastMilesFrom 15 rfl) ?_
      refine g_iconst (v := 1) F (dAt dk_X1_leastMilesFrom 16 rfl) (by decide) ?_
      refine g_iand F (dAt dk_X1_leastMilesFrom 17 rfl) ?_
      refine g_if_eq (tgt := 50) F (dAt dk_X1_leastMilesFrom 18 rfl) (by decide) h (fun c4 h => ?_) (fun c4 h => ?_)
      · refine g_iinc (lv' := [(4, .int (v4 + 1)), (5, .int r2), (0, .ref (ad (oLd L))), (1, .int x1), (2, .int x2), (3, .int v3)]) F (dAt dk_X1_leastMilesFrom 28 rfl) 5 rfl (w := 1) (by decide) (by decide) rfl ?_
        refine g_goto (tgt := 5) F (dAt dk_X1_leastMilesFrom 29 rfl) (by decide) ?_
        refine g_sub (lv' := [(0, .ref (ad (oLd L))), (1, .int x1), (2, .int x2), (3, .int v3), (4, .int (v4 + 1))]) [2, 3, 4, 5, 0] rfl ?_
        exact ih5 (v3, (v4 + 1), t3) h
      · refine g_iload F (dAt dk_X1_leastMilesFrom 19 rfl) 0 rfl ?_
        refine g_if_eq (tgt := 50) F (dAt dk_X1_leastMilesFrom 20 rfl) (by decide) h (fun c5 h => ?_) (fun c5 h => ?_)
        · refine g_iinc (lv' := [(4, .int (v4 + 1)), (5, .int r2), (0, .ref (ad (oLd L))), (1, .int x1), (2, .int x2), (3, .int v3)]) F (dAt dk_X1_leastMilesFrom 28 rfl) 5 rfl (w := 1) (by decide) (by decide) rfl ?_
          refine g_goto (tgt := 5) F (dAt dk_X1_leastMilesFrom 29 rfl) (by decide) ?_
          refine g_sub (lv' := [(0, .ref (ad (oLd L))), (1, .int x1), (2, .int x2), (3, .int v3), (4, .int (v4 + 1))]) [2, 3, 4, 5, 0] rfl ?_
          exact ih5 (v3, (v4 + 1), t3) h
        · refine g_iload_n F (dAt dk_X1_leastMilesFrom 21 rfl) 4 rfl ?_
          refine g_if_eq (tgt := 47) F (dAt dk_X1_leastMilesFrom 22 rfl) (by decide) h (fun c6 h => ?_) (fun c6 h => ?_)
          · refine g_iload F (dAt dk_X1_leastMilesFrom 26 rfl) 0 rfl ?_
            refine g_istore_n (lv' := [(3, .int r2), (5, .int r2), (0, .ref (ad (oLd L))), (1, .int x1), (2, .int x2), (4, .int v4)]) F (dAt dk_X1_leastMilesFrom 27 rfl) (by decide) rfl ?_
            refine g_iinc (lv' := [(4, .int (v4 + 1)), (3, .int r2), (5, .int r2), (0, .ref (ad (oLd L))), (1, .int x1), (2, .int x2)]) F (dAt dk_X1_leastMilesFrom 28 rfl) 5 rfl (w := 1) (by decide) (by decide) rfl ?_
            refine g_goto (tgt := 5) F (dAt dk_X1_leastMilesFrom 29 rfl) (by decide) ?_
            refine g_sub (lv' := [(0, .ref (ad (oLd L))), (1, .int x1), (2, .int x2), (3, .int r2), (4, .int (v4 + 1))]) [3, 4, 5, 1, 0] rfl ?_
            exact ih5 (r2, (v4 + 1), t3) h
          · refine g_iload F (dAt dk_X1_leastMilesFrom 23 rfl) 0 rfl ?_
            refine g_iload_n F (dAt dk_X1_leastMilesFrom 24 rfl) 4 rfl ?_
            refine g_icmp_ge (tgt := 50) F (dAt dk_X1_leastMilesFrom 25 rfl) (by decide) h (fun c7 h => ?_) (fun c7 h => ?_)
            · refine g_iinc (lv' := [(4, .int (v4 + 1)), (5, .int r2), (0, .ref (ad (oLd L))), (1, .int x1), (2, .int x2), (3, .int v3)]) F (dAt dk_X1_leastMilesFrom 28 rfl) 5 rfl (w := 1) (by decide) (by decide) rfl ?_
              refine g_goto (tgt := 5) F (dAt dk_X1_leastMilesFrom 29 rfl) (by decide) ?_
              refine g_sub (lv' := [(0, .ref (ad (oLd L))), (1, .int x1), (2, .int x2), (3, .int v3), (4, .int (v4 + 1))]) [2, 3, 4, 5, 0] rfl ?_
              exact ih5 (v3, (v4 + 1), t3) h
            · refine g_iload F (dAt dk_X1_leastMilesFrom 26 rfl) 0 rfl ?_
              refine g_istore_n (lv' := [(3, .int r2), (5, .int r2), (0, .ref (ad (oLd L))), (1, .int x1), (2, .int x2), (4, .int v4)]) F (dAt dk_X1_leastMilesFrom 27 rfl) (by decide) rfl ?_
              refine g_iinc (lv' := [(4, .int (v4 + 1)), (3, .int r2), (5, .int r2), (0, .ref (ad (oLd L))), (1, .int x1), (2, .int x2)]) F (dAt dk_X1_leastMilesFrom 28 rfl) 5 rfl (w := 1) (by decide) (by decide) rfl ?_
              refine g_goto (tgt := 5) F (dAt dk_X1_leastMilesFrom 29 rfl) (by decide) ?_
              refine g_sub (lv' := [(0, .ref (ad (oLd L))), (1, .int x1), (2, .int x2), (3, .int r2), (4, .int (v4 + 1))]) [3, 4, 5, 1, 0] rfl ?_
              exact ih5 (r2, (v4 + 1), t3) h
  refine g_lv (lv' := [(0, .ref (ad (oLd L))), (1, .int x1), (2, .int x2)]) rfl ?_
  unfold f_X1_leastMilesFrom at h
  refine g_iconst (v := 0) F (dAt dk_X1_leastMilesFrom 0 rfl) (by decide) ?_
  refine g_istore_n (lv' := [(3, .int 0), (0, .ref (ad (oLd L))), (1, .int x1), (2, .int x2)]) F (dAt dk_X1_leastMilesFrom 1 rfl) (by decide) rfl ?_
  refine g_iconst (v := 0) F (dAt dk_X1_leastMilesFrom 2 rfl) (by decide) ?_
  refine g_istore (lv' := [(4, .int 0), (3, .int 0), (0, .ref (ad (oLd L))), (1, .int x1), (2, .int x2)]) F (dAt dk_X1_leastMilesFrom 3 rfl) (by decide) rfl ?_
  refine g_sub (lv' := [(0, .ref (ad (oLd L))), (1, .int x1), (2, .int x2), (3, .int 0), (4, .int 0)]) [2, 3, 4, 1, 0] rfl ?_
  exact H5  n (0, 0, t) h
theorem mi_X1_leastMilesThatKeep : MI yX1_leastMilesThatKeep cX1_leastMilesThatKeep 8 (some .int) "MillOfDistances$Land" 0 := ⟨(gm mw_628 rfl), (gm mw_626 rfl), (gm mw_627 rfl), (gm mw_70 rfl), by decide +kernel, by decide⟩
theorem c_X1_leastMilesThatKeep {l : Launch} {D : va_G} {ad : Nat → Nat} {g : Gv} {t u : Mem} {n : Nat} {L : Fin 3} {t' : Mem} {r : Int32} (hJ : Jad ad) (h : f_X1_leastMilesThatKeep n L t = some (r, t')) : ConI l yX1_leastMilesThatKeep cX1_leastMilesThatKeep 8 (some .int) 2 [.ref (ad (oLd L))] D ad g t u t' u r := by
  refine con_i hJ (by decide) (Nat.le_of_ble_eq_true rfl) rfl (fun X F E => ?_)
  have J102 : ∀ (self6 : Int32 × Int32 × Int32 × Mem → Option (Int32 × Mem)), (∀ s, self6 s = some (r, t') → G X D ad g s.2.2.2 u [(0, .ref (ad (oLd L))), (1, .int s.1), (2, .int s.2.1), (3, .int s.2.2.1)] 6 []) → ∀ (v2 : Int32) (v3 : Int32) (v5 : Int32) (w0 : Int32) (w1 : Int32) (t0 : Mem), jn_X1_leastMilesThatKeep_102 n L self6 v2 v3 v5 w0 w1 t0 = some (r, t') → G X D ad g t0 u [(0, .ref (ad (oLd L))), (2, .int v2), (3, .int v3), (5, .int v5)] 102 [.int w0, .int w1] := by
    intro self6 ih6 v2 v3 v5 w0 w1 t0 h
    unfold jn_X1_leastMilesThatKeep_102 at h
    refine g_ior F (dAt dk_X1_leastMilesThatKeep 56 rfl) ?_
    refine g_istore_n (lv' := [(1, .int (w1 ||| w0)), (0, .ref (ad (oLd L))), (2, .int v2), (3, .int v3), (5, .int v5)]) F (dAt dk_X1_leastMilesThatKeep 57 rfl) (by decide) rfl ?_
    refine g_iload_n F (dAt dk_X1_leastMilesThatKeep 58 rfl) 2 rfl ?_
    refine g_iload F (dAt dk_X1_leastMilesThatKeep 59 rfl) 4 rfl ?_
    refine g_iadd F (dAt dk_X1_leastMilesThatKeep 60 rfl) ?_
    refine g_istore_n (lv' := [(2, .int (v2 + v5)), (1, .int (w1 ||| w0)), (0, .ref (ad (oLd L))), (3, .int v3), (5, .int v5)]) F (dAt dk_X1_leastMilesThatKeep 61 rfl) (by decide) rfl ?_
    refine g_iinc (lv' := [(3, .int (v3 + 1)), (2, .int (v2 + v5)), (1, .int (w1 ||| w0)), (0, .ref (ad (oLd L))), (5, .int v5)]) F (dAt dk_X1_leastMilesThatKeep 62 rfl) 3 rfl (w := 1) (by decide) (by decide) rfl ?_
    refine g_goto (tgt := 6) F (dAt dk_X1_leastMilesThatKeep 63 rfl) (by decide) ?_
    refine g_sub (lv' := [(0, .ref (ad (oLd L))), (1, .int (w1 ||| w0)), (2, .int (v2 + v5)), (3, .int (v3 + 1))]) [3, 2, 1, 0] rfl ?_
    exact ih6 ((w1 ||| w0), (v2 + v5), (v3 + 1), t0) h
  have H23 : ∀ (self6 : Int32 × Int32 × Int32 × Mem → Option (Int32 × Mem)), (∀ s, self6 s = some (r, t') → G X D ad g s.2.2.2 u [(0, .ref (ad (oLd L))), (1, .int s.1), (2, .int s.2.1), (3, .int s.2.2.1)] 6 []) → ∀ (k : Nat) (s : Int32 × Int32 × Int32 × Int32 × Int32 × Int32 × Mem), iter (bd_X1_leastMilesThatKeep_23 n L self6) k s = some (r, t') → G X D ad g s.2.2.2.2.2.2 u [(0, .ref (ad (oLd L))), (1, .int s.1), (2, .int s.2.1), (3, .int s.2.2.1), (4, .int s.2.2.2.1), (5, .int s.2.2.2.2.1), (6, .int s.2.2.2.2.2.1)] 23 [] := by
    intro self6 ih6
    refine iter_walk (P := fun (s : Int32 × Int32 × Int32 × Int32 × Int32 × Int32 × Mem) => G X D ad g s.2.2.2.2.2.2 u [(0, .ref (ad (oLd L))), (1, .int s.1), (2, .int s.2.1), (3, .int s.2.2.1), (4, .int s.2.2.2.1), (5, .int s.2.2.2.2.1), (6, .int s.2.2.2.2.2.1)] 23 []) (fun self23 ih23 s h => ?_)
    obtain ⟨v1, v2, v3, v4, v5, v6, t0⟩ := s
    change G X D ad g t0 u [(0, .ref (ad (oLd L))), (1, .int v1), (2, .int v2), (3, .int v3), (4, .int v4), (5, .int v5), (6, .int v6)] 23 []
    unfold bd_X1_leastMilesThatKeep_23 at h; try dsimp only at h
    refine g_iload F (dAt dk_X1_leastMilesThatKeep 16 rfl) 6 rfl ?_
    refine g_aload_n F (dAt dk_X1_leastMilesThatKeep 17 rfl) 0 rfl ?_
    refine gg_Land_count L F (gm mw_103 rfl) (dAt dk_X1_leastMilesThatKeep 18 rfl) ?_
    refine g_icmp_ge (tgt := 87) F (dAt dk_X1_leastMilesThatKeep 19 rfl) (by decide) h (fun c2 h => ?_) (fun c2 h => ?_)
    · refine g_iload_n F (dAt dk_X1_leastMilesThatKeep 47 rfl) 1 rfl ?_
      refine g_iload F (dAt dk_X1_leastMilesThatKeep 48 rfl) 4 rfl ?_
      refine g_iconst (v := (-1)) F (dAt dk_X1_leastMilesThatKeep 49 rfl) (by decide) ?_
      refine g_icmp_ne (tgt := 98) F (dAt dk_X1_leastMilesThatKeep 50 rfl) (by decide) h (fun c3 h => ?_) (fun c3 h => ?_)
      · refine g_iconst (v := 1) F (dAt dk_X1_leastMilesThatKeep 53 rfl) (by decide) ?_
        refine g_iload F (dAt dk_X1_leastMilesThatKeep 54 rfl) 4 rfl ?_
        refine g_ishl F (dAt dk_X1_leastMilesThatKeep 55 rfl) ?_
        refine g_sub (lv' := [(0, .ref (ad (oLd L))), (2, .int v2), (3, .int v3), (5, .int v5)]) [0, 2, 3, 5] rfl ?_
        exact J102 self6 ih6 v2 v3 v5 ((1 : Int32) <<< (v4 &&& 31)) v1 t0 h
      · refine g_iconst (v := 0) F (dAt dk_X1_leastMilesThatKeep 51 rfl) (by decide) ?_
        refine g_goto (tgt := 102) F (dAt dk_X1_leastMilesThatKeep 52 rfl) (by decide) ?_
        refine g_sub (lv' := [(0, .ref (ad (oLd L))), (2, .int v2), (3, .int v3), (5, .int v5)]) [0, 2, 3, 5] rfl ?_
        exact J102 self6 ih6 v2 v3 v5 0 v1 t0 h
    · refine g_iload_n F (dAt dk_X1_leastMilesThatKeep 20 rfl) 1 rfl ?_
      refine g_iload F (dAt dk_X1_leastMilesThatKeep 21 rfl) 6 rfl ?_
      refine g_ishr F (dAt dk_X1_leastMilesThatKeep 22 rfl) ?_
      refine g_iconst (v := 1) F (dAt dk_X1_leastMilesThatKeep 23 rfl) (by decide) ?_
      refine g_iand F (dAt dk_X1_leastMilesThatKeep 24 rfl) ?_
      refine g_if_ne (tgt := 81) F (dAt dk_X1_leastMilesThatKeep 25 rfl) (by decide) h (fun c4 h => ?_) (fun c4 h => ?_)
      · refine g_iinc (lv' := [(6, .int (v6 + 1)), (0, .ref (ad (oLd L))), (1, .int v1), (2, .int v2), (3, .int v3), (4, .int v4), (5, .int v5)]) F (dAt dk_X1_leastMilesThatKeep 45 rfl) 6 rfl (w := 1) (by decide) (by decide) rfl ?_
        refine g_goto (tgt := 23) F (dAt dk_X1_leastMilesThatKeep 46 rfl) (by decide) ?_
        refine g_sub (lv' := [(0, .ref (ad (oLd L))), (1, .int v1), (2, .int v2), (3, .int v3), (4, .int v4), (5, .int v5), (6, .int (v6 + 1))]) [1, 2, 3, 4, 5, 6, 0] rfl ?_
        exact ih23 (v1, v2, v3, v4, v5, (v6 + 1), t0) h
      · refine g_aload_n F (dAt dk_X1_leastMilesThatKeep 26 rfl) 0 rfl ?_
        refine g_iload_n F (dAt dk_X1_leastMilesThatKeep 27 rfl) 1 rfl ?_
        refine g_iload F (dAt dk_X1_leastMilesThatKeep 28 rfl) 6 rfl ?_
        refine g_invV_ic F mi_X1_leastMilesFrom (gm mw_629 rfl) (dAt dk_X1_leastMilesThatKeep 29 rfl) (rcx_of F (rc_Land L)) [.int v1, .int v6] rfl rfl (by decide) (Nat.le_of_ble_eq_true rfl) h (fun _ _ hf => c_X1_leastMilesFrom hJ hf) (fun r5 t6 h => ?_)
        refine g_istore (lv' := [(7, .int r5), (0, .ref (ad (oLd L))), (1, .int v1), (2, .int v2), (3, .int v3), (4, .int v4), (5, .int v5), (6, .int v6)]) F (dAt dk_X1_leastMilesThatKeep 30 rfl) (by decide) rfl ?_
        refine g_iload F (dAt dk_X1_leastMilesThatKeep 31 rfl) 5 rfl ?_
        refine g_iconst (v := (-1)) F (dAt dk_X1_leastMilesThatKeep 32 rfl) (by decide) ?_
        refine g_icmp_eq (tgt := 73) F (dAt dk_X1_leastMilesThatKeep 33 rfl) (by decide) h (fun c7 h => ?_) (fun c7 h => ?_)
        · refine g_iload F (dAt dk_X1_leastMilesThatKeep 41 rfl) 7 rfl ?_
          refine g_istore (lv' := [(4, .int v6), (7, .int r5), (0, .ref (ad (oLd L))), (1, .int v1), (2, .int v2), (3, .int v3), (5, .int v5), (6, .int v6)]) F (dAt dk_X1_leastMilesThatKeep 42 rfl) (by decide) rfl ?_
          refine g_iload F (dAt dk_X1_leastMilesThatKeep 43 rfl) 1 rfl ?_
          refine g_istore (lv' := [(5, .int r5), (4, .int v6), (7, .int r5), (0, .ref (ad (oLd L))), (1, .int v1), (2, .int v2), (3, .int v3), (6, .int v6)]) F (dAt dk_X1_leastMilesThatKeep 44 rfl) (by decide) rfl ?_
          refine g_iinc (lv' := [(6, .int (v6 + 1)), (5, .int r5), (4, .int v6), (7, .int r5), (0, .ref (ad (oLd L))), (1, .int v1), (2, .int v2), (3, .int v3)]) F (dAt dk_X1_leastMilesThatKeep 45 rfl) 7 rfl (w := 1) (by decide) (by decide) rfl ?_
          refine g_goto (tgt := 23) F (dAt dk_X1_leastMilesThatKeep 46 rfl) (by decide) ?_
          refine g_sub (lv' := [(0, .ref (ad (oLd L))), (1, .int v1), (2, .int v2), (3, .int v3), (4, .int v6), (5, .int r5), (6, .int (v6 + 1))]) [4, 5, 6, 7, 2, 1, 0] rfl ?_
          exact ih23 (v1, v2, v3, v6, r5, (v6 + 1), t6) h
        · refine g_iload F (dAt dk_X1_leastMilesThatKeep 34 rfl) 0 rfl ?_
          refine g_if_eq (tgt := 81) F (dAt dk_X1_leastMilesThatKeep 35 rfl) (by decide) h (fun c8 h => ?_) (fun c8 h => ?_)
          · refine g_iinc (lv' := [(6, .int (v6 + 1)), (7, .int r5), (0, .ref (ad (oLd L))), (1, .int v1), (2, .int v2), (3, .int v3), (4, .int v4), (5, .int v5)]) F (dAt dk_X1_leastMilesThatKeep 45 rfl) 7 rfl (w := 1) (by decide) (by decide) rfl ?_
            refine g_goto (tgt := 23) F (dAt dk_X1_leastMilesThatKeep 46 rfl) (by decide) ?_
            refine g_sub (lv' := [(0, .ref (ad (oLd L))), (1, .int v1), (2, .int v2), (3, .int v3), (4, .int v4), (5, .int v5), (6, .int (v6 + 1))]) [2, 3, 4, 5, 6, 7, 0] rfl ?_
            exact ih23 (v1, v2, v3, v4, v5, (v6 + 1), t6) h
          · refine g_iload F (dAt dk_X1_leastMilesThatKeep 36 rfl) 6 rfl ?_
            refine g_if_eq (tgt := 73) F (dAt dk_X1_leastMilesThatKeep 37 rfl) (by decide) h (fun c9 h => ?_) (fun c9 h => ?_)
            · refine g_iload F (dAt dk_X1_leastMilesThatKeep 41 rfl) 7 rfl ?_
              refine g_istore (lv' := [(4, .int v6), (7, .int r5), (0, .ref (ad (oLd L))), (1, .int v1), (2, .int v2), (3, .int v3), (5, .int v5), (6, .int v6)]) F (dAt dk_X1_leastMilesThatKeep 42 rfl) (by decide) rfl ?_
              refine g_iload F (dAt dk_X1_leastMilesThatKeep 43 rfl) 1 rfl ?_
              refine g_istore (lv' := [(5, .int r5), (4, .int v6), (7, .int r5), (0, .ref (ad (oLd L))), (1, .int v1), (2, .int v2), (3, .int v3), (6, .int v6)]) F (dAt dk_X1_leastMilesThatKeep 44 rfl) (by decide) rfl ?_
              refine g_iinc (lv' := [(6, .int (v6 + 1)), (5, .int r5), (4, .int v6), (7, .int r5), (0, .ref (ad (oLd L))), (1, .int v1), (2, .int v2), (3, .int v3)]) F (dAt dk_X1_leastMilesThatKeep 45 rfl) 7 rfl (w := 1) (by decide) (by decide) rfl ?_
              refine g_goto (tgt := 23) F (dAt dk_X1_leastMilesThatKeep 46 rfl) (by decide) ?_
              refine g_sub (lv' := [(0, .ref (ad (oLd L))), (1, .int v1), (2, .int v2), (3, .int v3), (4, .int v6), (5, .int r5), (6, .int (v6 + 1))]) [4, 5, 6, 7, 2, 1, 0] rfl ?_
              exact ih23 (v1, v2, v3, v6, r5, (v6 + 1), t6) h
            · refine g_iload F (dAt dk_X1_leastMilesThatKeep 38 rfl) 0 rfl ?_
              refine g_iload F (dAt dk_X1_leastMilesThatKeep 39 rfl) 6 rfl ?_
              refine g_icmp_ge (tgt := 81) F (dAt dk_X1_leastMilesThatKeep 40 rfl) (by decide) h (fun c10 h => ?_) (fun c10 h => ?_)
              · refine g_iinc (lv' := [(6, .int (v6 + 1)), (7, .int r5), (0, .ref (ad (oLd L))), (1, .int v1), (2, .int v2), (3, .int v3), (4, .int v4), (5, .int v5)]) F (dAt dk_X1_leastMilesThatKeep 45 rfl) 7 rfl (w := 1) (by decide) (by decide) rfl ?_
                refine g_goto (tgt := 23) F (dAt dk_X1_leastMilesThatKeep 46 rfl) (by decide) ?_
                refine g_sub (lv' := [(0, .ref (ad (oLd L))), (1, .int v1), (2, .int v2), (3, .int v3), (4, .int v4), (5, .int v5), (6, .int (v6 + 1))]) [2, 3, 4, 5, 6, 7, 0] rfl ?_
                exact ih23 (v1, v2, v3, v4, v5, (v6 + 1), t6) h
              · refine g_iload F (dAt dk_X1_leastMilesThatKeep 41 rfl) 7 rfl ?_
                refine g_istore (lv' := [(4, .int v6), (7, .int r5), (0, .ref (ad (oLd L))), (1, .int v1), (2, .int v2), (3, .int v3), (5, .int v5), (6, .int v6)]) F (dAt dk_X1_leastMilesThatKeep 42 rfl) (by decide) rfl ?_
                refine g_iload F (dAt dk_X1_leastMilesThatKeep 43 rfl) 1 rfl ?_
                refine g_istore (lv' := [(5, .int r5), (4, .int v6), (7, .int r5), (0, .ref (ad (oLd L))), (1, .int v1), (2, .int v2), (3, .int v3), (6, .int v6)]) F (dAt dk_X1_leastMilesThatKeep 44 rfl) (by decide) rfl ?_
                refine g_iinc (lv' := [(6, .int (v6 + 1)), (5, .int r5), (4, .int v6), (7, .int r5), (0, .ref (ad (oLd L))), (1, .int v1), (2, .int v2), (3, .int v3)]) F (dAt dk_X1_leastMilesThatKeep 45 rfl) 7 rfl (w := 1) (by decide) (by decide) rfl ?_
                refine g_goto (tgt := 23) F (dAt dk_X1_leastMilesThatKeep 46 rfl) (by decide) ?_
                refine g_sub (lv' := [(0, .ref (ad (oLd L))), (1, .int v1), (2, .int v2), (3, .int v3), (4, .int v6), (5, .int r5), (6, .int (v6 + 1))]) [4, 5, 6, 7, 2, 1, 0] rfl ?_
                exact ih23 (v1, v2, v3, v6, r5, (v6 + 1), t6) h
  have H6 : ∀ (k : Nat) (s : Int32 × Int32 × Int32 × Mem), iter (bd_X1_leastMilesThatKeep_6 n L) k s = some (r, t') → G X D ad g s.2.2.2 u [(0, .ref (ad (oLd L))), (1, .int s.1), (2, .int s.2.1), (3, .int s.2.2.1)] 6 [] := by
    refine iter_walk (P := fun (s : Int32 × Int32 × Int32 × Mem) => G X D ad g s.2.2.2 u [(0, .ref (ad (oLd L))), (1, .int s.1), (2, .int s.2.1), (3, .int s.2.2.1)] 6 []) (fun self6 ih6 s h => ?_)
    obtain ⟨v1, v2, v3, t0⟩ := s
    change G X D ad g t0 u [(0, .ref (ad (oLd L))), (1, .int v1), (2, .int v2), (3, .int v3)] 6 []
    unfold bd_X1_leastMilesThatKeep_6 at h; try dsimp only at h
    refine g_iload_n F (dAt dk_X1_leastMilesThatKeep 6 rfl) 3 rfl ?_
    refine g_aload_n F (dAt dk_X1_leastMilesThatKeep 7 rfl) 0 rfl ?_
    refine gg_Land_count L F (gm mw_103 rfl) (dAt dk_X1_leastMilesThatKeep 8 rfl) ?_
    refine g_icmp_ge (tgt := 115) F (dAt dk_X1_leastMilesThatKeep 9 rfl) (by decide) h (fun c1 h => ?_) (fun c1 h => ?_)
    · refine g_iload_n F (dAt dk_X1_leastMilesThatKeep 64 rfl) 2 rfl ?_
      cases h
      exact E (dAt dk_X1_leastMilesThatKeep 65 rfl) rfl
    · refine g_iconst (v := (-1)) F (dAt dk_X1_leastMilesThatKeep 10 rfl) (by decide) ?_
      refine g_istore (lv' := [(4, .int (-1)), (0, .ref (ad (oLd L))), (1, .int v1), (2, .int v2), (3, .int v3)]) F (dAt dk_X1_leastMilesThatKeep 11 rfl) (by decide) rfl ?_
      refine g_iconst (v := 0) F (dAt dk_X1_leastMilesThatKeep 12 rfl) (by decide) ?_
      refine g_istore (lv' := [(5, .int 0), (4, .int (-1)), (0, .ref (ad (oLd L))), (1, .int v1), (2, .int v2), (3, .int v3)]) F (dAt dk_X1_leastMilesThatKeep 13 rfl) (by decide) rfl ?_
      refine g_iconst (v := 0) F (dAt dk_X1_leastMilesThatKeep 14 rfl) (by decide) ?_
      refine g_istore (lv' := [(6, .int 0), (5, .int 0), (4, .int (-1)), (0, .ref (ad (oLd L))), (1, .int v1), (2, .int v2), (3, .int v3)]) F (dAt dk_X1_leastMilesThatKeep 15 rfl) (by decide) rfl ?_
      refine g_sub (lv' := [(0, .ref (ad (oLd L))), (1, .int v1), (2, .int v2), (3, .int v3), (4, .int (-1)), (5, .int 0), (6, .int 0)]) [3, 4, 5, 6, 2, 1, 0] rfl ?_
      exact H23 self6 ih6 n (v1, v2, v3, (-1), 0, 0, t0) h
  refine g_lv (lv' := [(0, .ref (ad (oLd L)))]) rfl ?_
  unfold f_X1_leastMilesThatKeep at h
  refine g_iconst (v := 0) F (dAt dk_X1_leastMilesThatKeep 0 rfl) (by decide) ?_
  refine g_istore_n (lv' := [(1, .int 0), (0, .ref (ad (oLd L)))]) F (dAt dk_X1_leastMilesThatKeep 1 rfl) (by decide) rfl ?_
  refine g_iconst (v := 0) F (dAt dk_X1_leastMilesThatKeep 2 rfl) (by decide) ?_
  refine g_istore_n (lv' := [(2, .int 0), (1, .int 0), (0, .ref (ad (oLd L)))]) F (dAt dk_X1_leastMilesThatKeep 3 rfl) (by decide) rfl ?_
  refine g_iconst (v := 0) F (dAt dk_X1_leastMilesThatKeep 4 rfl) (by decide) ?_
  refine g_istore_n (lv' := [(3, .int 0), (2, .int 0), (1, .int 0), (0, .ref (ad (oLd L)))]) F (dAt dk_X1_leastMilesThatKeep 5 rfl) (by decide) rfl ?_
  refine g_sub (lv' := [(0, .ref (ad (oLd L))), (1, .int 0), (2, .int 0), (3, .int 0)]) [3, 2, 1, 0] rfl ?_
  exact H6  n (0, 0, 0, t) h
theorem mi_X2_isInside : MI yX2_isInside cX2_isInside 3 (some .boolean) "MillOfDistances$Lengths" 2 := ⟨(gm mw_585 rfl), (gm mw_584 rfl), (gm mw_13 rfl), (gm mw_71 rfl), by decide +kernel, by decide⟩
theorem c_X2_isInside {l : Launch} {D : va_G} {ad : Nat → Nat} {g : Gv} {t u : Mem} {J : Fin 2} {x1 : Int32} {x2 : Int32} {t' : Mem} {r : Int32} (hJ : Jad ad) (h : f_X2_isInside J x1 x2 t = some (r, t')) : ConI l yX2_isInside cX2_isInside 3 (some .boolean) 0 [.ref (ad (oLn J)), .int x1, .int x2] D ad g t u t' u r := by
  refine con_i hJ (by decide) (Nat.le_of_ble_eq_true rfl) rfl (fun X F E => ?_)
  refine g_lv (lv' := [(0, .ref (ad (oLn J))), (1, .int x1), (2, .int x2)]) rfl ?_
  unfold f_X2_isInside at h
  refine g_iload_n F (dAt dk_X2_isInside 0 rfl) 1 rfl ?_
  refine g_if_lt (tgt := 28) F (dAt dk_X2_isInside 1 rfl) (by decide) h (fun c1 h => ?_) (fun c1 h => ?_)
  · refine g_iconst (v := 0) F (dAt dk_X2_isInside 14 rfl) (by decide) ?_
    cases h
    exact E (dAt dk_X2_isInside 15 rfl) rfl
  · refine g_iload_n F (dAt dk_X2_isInside 2 rfl) 1 rfl ?_
    refine g_aload_n F (dAt dk_X2_isInside 3 rfl) 0 rfl ?_
    refine gg_Len_count J F (gm mw_137 rfl) (dAt dk_X2_isInside 4 rfl) ?_
    refine g_icmp_ge (tgt := 28) F (dAt dk_X2_isInside 5 rfl) (by decide) h (fun c2 h => ?_) (fun c2 h => ?_)
    · refine g_iconst (v := 0) F (dAt dk_X2_isInside 14 rfl) (by decide) ?_
      cases h
      exact E (dAt dk_X2_isInside 15 rfl) rfl
    · refine g_iload_n F (dAt dk_X2_isInside 6 rfl) 2 rfl ?_
      refine g_if_lt (tgt := 28) F (dAt dk_X2_isInside 7 rfl) (by decide) h (fun c3 h => ?_) (fun c3 h => ?_)
      · refine g_iconst (v := 0) F (dAt dk_X2_isInside 14 rfl) (by decide) ?_
        cases h
        exact E (dAt dk_X2_isInside 15 rfl) rfl
      · refine g_iload_n F (dAt dk_X2_isInside 8 rfl) 2 rfl ?_
        refine g_aload_n F (dAt dk_X2_isInside 9 rfl) 0 rfl ?_
        refine gg_Len_count J F (gm mw_137 rfl) (dAt dk_X2_isInside 10 rfl) ?_
        refine g_icmp_ge (tgt := 28) F (dAt dk_X2_isInside 11 rfl) (by decide) h (fun c4 h => ?_) (fun c4 h => ?_)
        · refine g_iconst (v := 0) F (dAt dk_X2_isInside 14 rfl) (by decide) ?_
          cases h
          exact E (dAt dk_X2_isInside 15 rfl) rfl
        · refine g_iconst (v := 1) F (dAt dk_X2_isInside 12 rfl) (by decide) ?_
          refine g_goto (tgt := 29) F (dAt dk_X2_isInside 13 rfl) (by decide) ?_
          cases h
          exact E (dAt dk_X2_isInside 15 rfl) rfl
theorem mi_X2_note : MI yX2_note cX2_note 4 none "MillOfDistances$Lengths" 3 := ⟨(gm mw_581 rfl), (gm mw_580 rfl), (gm mw_12 rfl), (gm mw_71 rfl), by decide +kernel, by decide⟩
theorem c_X2_note {l : Launch} {D : va_G} {ad : Nat → Nat} {g : Gv} {t u : Mem} {J : Fin 2} {x1 : Int32} {x2 : Int32} {x3 : Int32} {t' : Mem} (hJ : Jad ad) (h : f_X2_note J x1 x2 x3 t = some ((), t')) : ConV l yX2_note cX2_note 4 none 1 [.ref (ad (oLn J)), .int x1, .int x2, .int x3] D ad g t u t' u := by
  refine con_v hJ (by decide) (Nat.le_of_ble_eq_true rfl) rfl (fun X F E => ?_)
  refine g_lv (lv' := [(0, .ref (ad (oLn J))), (1, .int x1), (2, .int x2), (3, .int x3)]) rfl ?_
  unfold f_X2_note at h
  refine g_aload_n F (dAt dk_X2_note 0 rfl) 0 rfl ?_
  refine g_iload_n F (dAt dk_X2_note 1 rfl) 1 rfl ?_
  refine g_iload_n F (dAt dk_X2_note 2 rfl) 2 rfl ?_
  refine g_invV_ic F mi_X2_isInside (gm mw_582 rfl) (dAt dk_X2_note 3 rfl) (rcx_of F (rc_Len J)) [.int x1, .int x2] rfl rfl (by decide) (Nat.le_of_ble_eq_true rfl) h (fun _ _ hf => c_X2_isInside hJ hf) (fun r1 t2 h => ?_)
  refine g_if_eq (tgt := 33) F (dAt dk_X2_note 4 rfl) (by decide) h (fun c3 h => ?_) (fun c3 h => ?_)
  · cases h
    exact E (dAt dk_X2_note 23 rfl)
  · refine g_aload_n F (dAt dk_X2_note 5 rfl) 0 rfl ?_
    refine gg_Len_cells J F (gm mw_136 rfl) (dAt dk_X2_note 6 rfl) ?_
    refine g_iload_n F (dAt dk_X2_note 7 rfl) 1 rfl ?_
    refine g_bipush (v := 8) F (dAt dk_X2_note 8 rfl) (by decide) ?_
    refine g_imul F (dAt dk_X2_note 9 rfl) ?_
    refine g_iload_n F (dAt dk_X2_note 10 rfl) 2 rfl ?_
    refine g_iadd F (dAt dk_X2_note 11 rfl) ?_
    refine g_iload_n F (dAt dk_X2_note 12 rfl) 3 rfl ?_
    refine g_ck h (fun hi4 h => ?_)
    refine g_iastorec F (ai_cells J) (dAt dk_X2_note 13 rfl) hi4 ?_
    refine g_ltt h (fun t5 h => ?_)
    refine g_aload_n F (dAt dk_X2_note 14 rfl) 0 rfl ?_
    refine gg_Len_cells J F (gm mw_136 rfl) (dAt dk_X2_note 15 rfl) ?_
    refine g_iload_n F (dAt dk_X2_note 16 rfl) 2 rfl ?_
    refine g_bipush (v := 8) F (dAt dk_X2_note 17 rfl) (by decide) ?_
    refine g_imul F (dAt dk_X2_note 18 rfl) ?_
    refine g_iload_n F (dAt dk_X2_note 19 rfl) 1 rfl ?_
    refine g_iadd F (dAt dk_X2_note 20 rfl) ?_
    refine g_iload_n F (dAt dk_X2_note 21 rfl) 3 rfl ?_
    refine g_ck h (fun hi6 h => ?_)
    refine g_iastorec F (ai_cells J) (dAt dk_X2_note 22 rfl) hi6 ?_
    refine g_ltt h (fun t7 h => ?_)
    cases h
    exact E (dAt dk_X2_note 23 rfl)
theorem mi_X2_takeRoads : MI yX2_takeRoads cX2_takeRoads 5 none "MillOfDistances$Lengths" 1 := ⟨(gm mw_577 rfl), (gm mw_576 rfl), (gm mw_11 rfl), (gm mw_71 rfl), by decide +kernel, by decide⟩
theorem c_X2_takeRoads {l : Launch} {D : va_G} {ad : Nat → Nat} {g : Gv} {t u : Mem} {n : Nat} {J : Fin 2} {x1 : Fin 3} {t' : Mem} (hJ : Jad ad) (h : f_X2_takeRoads n J x1 t = some ((), t')) : ConV l yX2_takeRoads cX2_takeRoads 5 none 2 [.ref (ad (oLn J)), .ref (ad (oLd x1))] D ad g t u t' u := by
  refine con_v hJ (by decide) (Nat.le_of_ble_eq_true rfl) rfl (fun X F E => ?_)
  have J61 : ∀ (self10 : Int32 × Mem → Option (Unit × Mem)), (∀ s, self10 s = some ((), t') → G X D ad g s.2 u [(0, .ref (ad (oLn J))), (1, .ref (ad (oLd x1))), (2, .int s.1)] 10 []) → ∀ (self29 : Int32 × Int32 × Mem → Option (Unit × Mem)), (∀ s, self29 s = some ((), t') → G X D ad g s.2.2 u [(0, .ref (ad (oLn J))), (1, .ref (ad (oLd x1))), (2, .int s.1), (3, .int s.2.1)] 29 []) → ∀ (v2 : Int32) (v3 : Int32) (w0 : Int32) (w1 : Int32) (w2 : Int32) (t0 : Mem), jn_X2_takeRoads_61 n J x1 self10 self29 v2 v3 w0 w1 w2 t0 = some ((), t') → G X D ad g t0 u [(0, .ref (ad (oLn J))), (1, .ref (ad (oLd x1))), (2, .int v2), (3, .int v3)] 61 [.int w0, .int w1, .int w2, .ref (ad (oLn J))] := by
    intro self10 ih10 self29 ih29 v2 v3 w0 w1 w2 t0 h
    unfold jn_X2_takeRoads_61 at h
    refine g_invV_vc F mi_X2_note (gm mw_578 rfl) (dAt dk_X2_takeRoads 36 rfl) (rcx_of F (rc_Len J)) [.int w2, .int w1, .int w0] rfl rfl (by decide) (Nat.le_of_ble_eq_true rfl) h (fun _ _ hf => c_X2_note hJ hf) (fun _ t8 h => ?_)
    refine g_iinc (lv' := [(3, .int (v3 + 1)), (0, .ref (ad (oLn J))), (1, .ref (ad (oLd x1))), (2, .int v2)]) F (dAt dk_X2_takeRoads 37 rfl) 3 rfl (w := 1) (by decide) (by decide) rfl ?_
    refine g_goto (tgt := 29) F (dAt dk_X2_takeRoads 38 rfl) (by decide) ?_
    refine g_sub (lv' := [(0, .ref (ad (oLn J))), (1, .ref (ad (oLd x1))), (2, .int v2), (3, .int (v3 + 1))]) [1, 2, 3, 0] rfl ?_
    exact ih29 (v2, (v3 + 1), t8) h
  have H29 : ∀ (self10 : Int32 × Mem → Option (Unit × Mem)), (∀ s, self10 s = some ((), t') → G X D ad g s.2 u [(0, .ref (ad (oLn J))), (1, .ref (ad (oLd x1))), (2, .int s.1)] 10 []) → ∀ (k : Nat) (s : Int32 × Int32 × Mem), iter (bd_X2_takeRoads_29 n J x1 self10) k s = some ((), t') → G X D ad g s.2.2 u [(0, .ref (ad (oLn J))), (1, .ref (ad (oLd x1))), (2, .int s.1), (3, .int s.2.1)] 29 [] := by
    intro self10 ih10
    refine iter_walk (P := fun (s : Int32 × Int32 × Mem) => G X D ad g s.2.2 u [(0, .ref (ad (oLn J))), (1, .ref (ad (oLd x1))), (2, .int s.1), (3, .int s.2.1)] 29 []) (fun self29 ih29 s h => ?_)
    obtain ⟨v2, v3, t0⟩ := s
    change G X D ad g t0 u [(0, .ref (ad (oLn J))), (1, .ref (ad (oLd x1))), (2, .int v2), (3, .int v3)] 29 []
    unfold bd_X2_takeRoads_29 at h; try dsimp only at h
    refine g_iload_n F (dAt dk_X2_takeRoads 19 rfl) 3 rfl ?_
    refine g_aload_n F (dAt dk_X2_takeRoads 20 rfl) 0 rfl ?_
    refine gg_Len_count J F (gm mw_137 rfl) (dAt dk_X2_takeRoads 21 rfl) ?_
    refine g_icmp_ge (tgt := 70) F (dAt dk_X2_takeRoads 22 rfl) (by decide) h (fun c4 h => ?_) (fun c4 h => ?_)
    · refine g_iinc (lv' := [(2, .int (v2 + 1)), (0, .ref (ad (oLn J))), (1, .ref (ad (oLd x1))), (3, .int v3)]) F (dAt dk_X2_takeRoads 39 rfl) 2 rfl (w := 1) (by decide) (by decide) rfl ?_
      refine g_goto (tgt := 10) F (dAt dk_X2_takeRoads 40 rfl) (by decide) ?_
      refine g_sub (lv' := [(0, .ref (ad (oLn J))), (1, .ref (ad (oLd x1))), (2, .int (v2 + 1))]) [1, 2, 0] rfl ?_
      exact ih10 ((v2 + 1), t0) h
    · refine g_aload_n F (dAt dk_X2_takeRoads 23 rfl) 1 rfl ?_
      refine g_iload_n F (dAt dk_X2_takeRoads 24 rfl) 2 rfl ?_
      refine g_iload_n F (dAt dk_X2_takeRoads 25 rfl) 3 rfl ?_
      refine g_invV_ic F mi_X1_between (gm mw_586 rfl) (dAt dk_X2_takeRoads 26 rfl) (rcx_of F (rc_Land x1)) [.int v2, .int v3] rfl rfl (by decide) (Nat.le_of_ble_eq_true rfl) h (fun _ _ hf => c_X1_between hJ hf) (fun r5 t6 h => ?_)
      refine g_istore (lv' := [(4, .int r5), (0, .ref (ad (oLn J))), (1, .ref (ad (oLd x1))), (2, .int v2), (3, .int v3)]) F (dAt dk_X2_takeRoads 27 rfl) (by decide) rfl ?_
      refine g_aload_n F (dAt dk_X2_takeRoads 28 rfl) 1 rfl ?_
      refine g_iload_n F (dAt dk_X2_takeRoads 29 rfl) 3 rfl ?_
      refine g_iload_n F (dAt dk_X2_takeRoads 30 rfl) 4 rfl ?_
      refine g_iload F (dAt dk_X2_takeRoads 31 rfl) 0 rfl ?_
      refine g_if_ne (tgt := 59) F (dAt dk_X2_takeRoads 32 rfl) (by decide) h (fun c7 h => ?_) (fun c7 h => ?_)
      · refine g_iload F (dAt dk_X2_takeRoads 35 rfl) 0 rfl ?_
        refine g_sub (lv' := [(0, .ref (ad (oLn J))), (1, .ref (ad (oLd x1))), (2, .int v2), (3, .int v3)]) [1, 2, 3, 4] rfl ?_
        exact J61 self10 ih10 self29 ih29 v2 v3 r5 v3 v2 t6 h
      · refine g_sipush (v := 10000) F (dAt dk_X2_takeRoads 33 rfl) (by decide) ?_
        refine g_goto (tgt := 61) F (dAt dk_X2_takeRoads 34 rfl) (by decide) ?_
        refine g_sub (lv' := [(0, .ref (ad (oLn J))), (1, .ref (ad (oLd x1))), (2, .int v2), (3, .int v3)]) [1, 2, 3, 4] rfl ?_
        exact J61 self10 ih10 self29 ih29 v2 v3 10000 v3 v2 t6 h
  have H10 : ∀ (k : Nat) (s : Int32 × Mem), iter (bd_X2_takeRoads_10 n J x1) k s = some ((), t') → G X D ad g s.2 u [(0, .ref (ad (oLn J))), (1, .ref (ad (oLd x1))), (2, .int s.1)] 10 [] := by
    refine iter_walk (P := fun (s : Int32 × Mem) => G X D ad g s.2 u [(0, .ref (ad (oLn J))), (1, .ref (ad (oLd x1))), (2, .int s.1)] 10 []) (fun self10 ih10 s h => ?_)
    obtain ⟨v2, t0⟩ := s
    change G X D ad g t0 u [(0, .ref (ad (oLn J))), (1, .ref (ad (oLd x1))), (2, .int v2)] 10 []
    unfold bd_X2_takeRoads_10 at h; try dsimp only at h
    refine g_iload_n F (dAt dk_X2_takeRoads 6 rfl) 2 rfl ?_
    refine g_aload_n F (dAt dk_X2_takeRoads 7 rfl) 0 rfl ?_
    refine gg_Len_count J F (gm mw_137 rfl) (dAt dk_X2_takeRoads 8 rfl) ?_
    refine g_icmp_ge (tgt := 76) F (dAt dk_X2_takeRoads 9 rfl) (by decide) h (fun c2 h => ?_) (fun c2 h => ?_)
    · cases h
      exact E (dAt dk_X2_takeRoads 41 rfl)
    · refine g_aload_n F (dAt dk_X2_takeRoads 10 rfl) 0 rfl ?_
      refine g_iload_n F (dAt dk_X2_takeRoads 11 rfl) 2 rfl ?_
      refine g_iload_n F (dAt dk_X2_takeRoads 12 rfl) 2 rfl ?_
      refine g_iconst (v := 0) F (dAt dk_X2_takeRoads 13 rfl) (by decide) ?_
      refine g_invV_vc F mi_X2_note (gm mw_578 rfl) (dAt dk_X2_takeRoads 14 rfl) (rcx_of F (rc_Len J)) [.int v2, .int v2, .int 0] rfl rfl (by decide) (Nat.le_of_ble_eq_true rfl) h (fun _ _ hf => c_X2_note hJ hf) (fun _ t3 h => ?_)
      refine g_iload_n F (dAt dk_X2_takeRoads 15 rfl) 2 rfl ?_
      refine g_iconst (v := 1) F (dAt dk_X2_takeRoads 16 rfl) (by decide) ?_
      refine g_iadd F (dAt dk_X2_takeRoads 17 rfl) ?_
      refine g_istore_n (lv' := [(3, .int (v2 + 1)), (0, .ref (ad (oLn J))), (1, .ref (ad (oLd x1))), (2, .int v2)]) F (dAt dk_X2_takeRoads 18 rfl) (by decide) rfl ?_
      refine g_sub (lv' := [(0, .ref (ad (oLn J))), (1, .ref (ad (oLd x1))), (2, .int v2), (3, .int (v2 + 1))]) [1, 2, 3, 0] rfl ?_
      exact H29 self10 ih10 n (v2, (v2 + 1), t3) h
  refine g_lv (lv' := [(0, .ref (ad (oLn J))), (1, .ref (ad (oLd x1)))]) rfl ?_
  unfold f_X2_takeRoads at h
  refine g_aload_n F (dAt dk_X2_takeRoads 0 rfl) 0 rfl ?_
  refine g_aload_n F (dAt dk_X2_takeRoads 1 rfl) 1 rfl ?_
  refine gg_Land_count x1 F (gm mw_104 rfl) (dAt dk_X2_takeRoads 2 rfl) ?_
  refine gp_Len_count J F (gm mw_137 rfl) (dAt dk_X2_takeRoads 3 rfl) ?_
  refine g_ltt h (fun t1 h => ?_)
  refine g_iconst (v := 0) F (dAt dk_X2_takeRoads 4 rfl) (by decide) ?_
  refine g_istore_n (lv' := [(2, .int 0), (0, .ref (ad (oLn J))), (1, .ref (ad (oLd x1)))]) F (dAt dk_X2_takeRoads 5 rfl) (by decide) rfl ?_
  refine g_sub (lv' := [(0, .ref (ad (oLn J))), (1, .ref (ad (oLd x1))), (2, .int 0)]) [1, 2, 0] rfl ?_
  exact H10  n (0, t1) h
theorem mi_X2_close : MI yX2_close cX2_close 7 none "MillOfDistances$Lengths" 0 := ⟨(gm mw_590 rfl), (gm mw_589 rfl), (gm mw_14 rfl), (gm mw_71 rfl), by decide +kernel, by decide⟩
theorem c_X2_close {l : Launch} {D : va_G} {ad : Nat → Nat} {g : Gv} {t u : Mem} {n : Nat} {J : Fin 2} {t' : Mem} (hJ : Jad ad) (h : f_X2_close n J t = some ((), t')) : ConV l yX2_close cX2_close 7 none 1 [.ref (ad (oLn J))] D ad g t u t' u := by
  refine con_v hJ (by decide) (Nat.le_of_ble_eq_true rfl) rfl (fun X F E => ?_)
  have H42 : ∀ (self12 : Int32 × Int32 × Mem → Option (Unit × Mem)), (∀ s, self12 s = some ((), t') → G X D ad g s.2.2 u [(0, .ref (ad (oLn J))), (1, .int s.1), (2, .int s.2.1)] 12 []) → ∀ (self19 : Int32 × Int32 × Int32 × Mem → Option (Unit × Mem)), (∀ s, self19 s = some ((), t') → G X D ad g s.2.2.2 u [(0, .ref (ad (oLn J))), (1, .int s.1), (2, .int s.2.1), (3, .int s.2.2.1)] 19 []) → ∀ (k : Nat) (s : Int32 × Int32 × Int32 × Int32 × Int32 × Mem), iter (bd_X2_close_42 n J self12 self19) k s = some ((), t') → G X D ad g s.2.2.2.2.2 u [(0, .ref (ad (oLn J))), (1, .int s.1), (2, .int s.2.1), (3, .int s.2.2.1), (4, .int s.2.2.2.1), (5, .int s.2.2.2.2.1)] 42 [] := by
    intro self12 ih12 self19 ih19
    refine iter_walk (P := fun (s : Int32 × Int32 × Int32 × Int32 × Int32 × Mem) => G X D ad g s.2.2.2.2.2 u [(0, .ref (ad (oLn J))), (1, .int s.1), (2, .int s.2.1), (3, .int s.2.2.1), (4, .int s.2.2.2.1), (5, .int s.2.2.2.2.1)] 42 []) (fun self42 ih42 s h => ?_)
    obtain ⟨v1, v2, v3, v4, v5, t0⟩ := s
    change G X D ad g t0 u [(0, .ref (ad (oLn J))), (1, .int v1), (2, .int v2), (3, .int v3), (4, .int v4), (5, .int v5)] 42 []
    unfold bd_X2_close_42 at h; try dsimp only at h
    refine g_iload F (dAt dk_X2_close 28 rfl) 5 rfl ?_
    refine g_iload_n F (dAt dk_X2_close 29 rfl) 1 rfl ?_
    refine g_icmp_ge (tgt := 124) F (dAt dk_X2_close 30 rfl) (by decide) h (fun c6 h => ?_) (fun c6 h => ?_)
    · refine g_iinc (lv' := [(3, .int (v3 + 1)), (0, .ref (ad (oLn J))), (1, .int v1), (2, .int v2), (4, .int v4), (5, .int v5)]) F (dAt dk_X2_close 75 rfl) 3 rfl (w := 1) (by decide) (by decide) rfl ?_
      refine g_goto (tgt := 19) F (dAt dk_X2_close 76 rfl) (by decide) ?_
      refine g_sub (lv' := [(0, .ref (ad (oLn J))), (1, .int v1), (2, .int v2), (3, .int (v3 + 1))]) [1, 2, 3, 0] rfl ?_
      exact ih19 (v1, v2, (v3 + 1), t0) h
    · refine g_iload F (dAt dk_X2_close 31 rfl) 4 rfl ?_
      refine g_sipush (v := 10000) F (dAt dk_X2_close 32 rfl) (by decide) ?_
      refine g_icmp_ge (tgt := 124) F (dAt dk_X2_close 33 rfl) (by decide) h (fun c7 h => ?_) (fun c7 h => ?_)
      · refine g_iinc (lv' := [(3, .int (v3 + 1)), (0, .ref (ad (oLn J))), (1, .int v1), (2, .int v2), (4, .int v4), (5, .int v5)]) F (dAt dk_X2_close 75 rfl) 3 rfl (w := 1) (by decide) (by decide) rfl ?_
        refine g_goto (tgt := 19) F (dAt dk_X2_close 76 rfl) (by decide) ?_
        refine g_sub (lv' := [(0, .ref (ad (oLn J))), (1, .int v1), (2, .int v2), (3, .int (v3 + 1))]) [1, 2, 3, 0] rfl ?_
        exact ih19 (v1, v2, (v3 + 1), t0) h
      · refine g_iload F (dAt dk_X2_close 34 rfl) 4 rfl ?_
        refine g_aload_n F (dAt dk_X2_close 35 rfl) 0 rfl ?_
        refine gg_Len_cells J F (gm mw_136 rfl) (dAt dk_X2_close 36 rfl) ?_
        refine g_iload_n F (dAt dk_X2_close 37 rfl) 2 rfl ?_
        refine g_bipush (v := 8) F (dAt dk_X2_close 38 rfl) (by decide) ?_
        refine g_imul F (dAt dk_X2_close 39 rfl) ?_
        refine g_iload F (dAt dk_X2_close 40 rfl) 5 rfl ?_
        refine g_iadd F (dAt dk_X2_close 41 rfl) ?_
        refine g_ck h (fun hi8 h => ?_)
        refine g_ialoadc F (ai_cells J) (dAt dk_X2_close 42 rfl) hi8 ?_
        refine g_iadd F (dAt dk_X2_close 43 rfl) ?_
        refine g_lti h (fun y9 h => ?_)
        refine g_istore (lv' := [(6, .int y9), (0, .ref (ad (oLn J))), (1, .int v1), (2, .int v2), (3, .int v3), (4, .int v4), (5, .int v5)]) F (dAt dk_X2_close 44 rfl) (by decide) rfl ?_
        refine g_iload F (dAt dk_X2_close 45 rfl) 0 rfl ?_
        refine g_aload_n F (dAt dk_X2_close 46 rfl) 1 rfl ?_
        refine gg_Len_cells J F (gm mw_136 rfl) (dAt dk_X2_close 47 rfl) ?_
        refine g_iload_n F (dAt dk_X2_close 48 rfl) 4 rfl ?_
        refine g_bipush (v := 8) F (dAt dk_X2_close 49 rfl) (by decide) ?_
        refine g_imul F (dAt dk_X2_close 50 rfl) ?_
        refine g_iload F (dAt dk_X2_close 51 rfl) 6 rfl ?_
        refine g_iadd F (dAt dk_X2_close 52 rfl) ?_
        refine g_ck h (fun hi10 h => ?_)
        refine g_ialoadc F (ai_cells J) (dAt dk_X2_close 53 rfl) hi10 ?_
        refine g_icmp_ge (tgt := 118) F (dAt dk_X2_close 54 rfl) (by decide) h (fun c11 h => ?_) (fun c11 h => ?_)
        · refine g_iinc (lv' := [(5, .int (v5 + 1)), (6, .int y9), (0, .ref (ad (oLn J))), (1, .int v1), (2, .int v2), (3, .int v3), (4, .int v4)]) F (dAt dk_X2_close 73 rfl) 6 rfl (w := 1) (by decide) (by decide) rfl ?_
          refine g_goto (tgt := 42) F (dAt dk_X2_close 74 rfl) (by decide) ?_
          refine g_sub (lv' := [(0, .ref (ad (oLn J))), (1, .int v1), (2, .int v2), (3, .int v3), (4, .int v4), (5, .int (v5 + 1))]) [2, 3, 4, 5, 6, 0] rfl ?_
          exact ih42 (v1, v2, v3, v4, (v5 + 1), t0) h
        · refine g_aload_n F (dAt dk_X2_close 55 rfl) 1 rfl ?_
          refine gg_Len_cells J F (gm mw_136 rfl) (dAt dk_X2_close 56 rfl) ?_
          refine g_iload_n F (dAt dk_X2_close 57 rfl) 4 rfl ?_
          refine g_bipush (v := 8) F (dAt dk_X2_close 58 rfl) (by decide) ?_
          refine g_imul F (dAt dk_X2_close 59 rfl) ?_
          refine g_iload F (dAt dk_X2_close 60 rfl) 6 rfl ?_
          refine g_iadd F (dAt dk_X2_close 61 rfl) ?_
          refine g_iload F (dAt dk_X2_close 62 rfl) 0 rfl ?_
          refine g_ck h (fun hi12 h => ?_)
          refine g_iastorec F (ai_cells J) (dAt dk_X2_close 63 rfl) hi12 ?_
          refine g_ltt h (fun t13 h => ?_)
          refine g_aload_n F (dAt dk_X2_close 64 rfl) 1 rfl ?_
          refine gg_Len_cells J F (gm mw_136 rfl) (dAt dk_X2_close 65 rfl) ?_
          refine g_iload F (dAt dk_X2_close 66 rfl) 6 rfl ?_
          refine g_bipush (v := 8) F (dAt dk_X2_close 67 rfl) (by decide) ?_
          refine g_imul F (dAt dk_X2_close 68 rfl) ?_
          refine g_iload_n F (dAt dk_X2_close 69 rfl) 4 rfl ?_
          refine g_iadd F (dAt dk_X2_close 70 rfl) ?_
          refine g_iload F (dAt dk_X2_close 71 rfl) 0 rfl ?_
          refine g_ck h (fun hi14 h => ?_)
          refine g_iastorec F (ai_cells J) (dAt dk_X2_close 72 rfl) hi14 ?_
          refine g_ltt h (fun t15 h => ?_)
          refine g_iinc (lv' := [(5, .int (v5 + 1)), (6, .int y9), (0, .ref (ad (oLn J))), (1, .int v1), (2, .int v2), (3, .int v3), (4, .int v4)]) F (dAt dk_X2_close 73 rfl) 6 rfl (w := 1) (by decide) (by decide) rfl ?_
          refine g_goto (tgt := 42) F (dAt dk_X2_close 74 rfl) (by decide) ?_
          refine g_sub (lv' := [(0, .ref (ad (oLn J))), (1, .int v1), (2, .int v2), (3, .int v3), (4, .int v4), (5, .int (v5 + 1))]) [2, 3, 4, 5, 6, 0] rfl ?_
          exact ih42 (v1, v2, v3, v4, (v5 + 1), t15) h
  have H19 : ∀ (self12 : Int32 × Int32 × Mem → Option (Unit × Mem)), (∀ s, self12 s = some ((), t') → G X D ad g s.2.2 u [(0, .ref (ad (oLn J))), (1, .int s.1), (2, .int s.2.1)] 12 []) → ∀ (k : Nat) (s : Int32 × Int32 × Int32 × Mem), iter (bd_X2_close_19 n J self12) k s = some ((), t') → G X D ad g s.2.2.2 u [(0, .ref (ad (oLn J))), (1, .int s.1), (2, .int s.2.1), (3, .int s.2.2.1)] 19 [] := by
    intro self12 ih12
    refine iter_walk (P := fun (s : Int32 × Int32 × Int32 × Mem) => G X D ad g s.2.2.2 u [(0, .ref (ad (oLn J))), (1, .int s.1), (2, .int s.2.1), (3, .int s.2.2.1)] 19 []) (fun self19 ih19 s h => ?_)
    obtain ⟨v1, v2, v3, t0⟩ := s
    change G X D ad g t0 u [(0, .ref (ad (oLn J))), (1, .int v1), (2, .int v2), (3, .int v3)] 19 []
    unfold bd_X2_close_19 at h; try dsimp only at h
    refine g_iload_n F (dAt dk_X2_close 12 rfl) 3 rfl ?_
    refine g_iload_n F (dAt dk_X2_close 13 rfl) 1 rfl ?_
    refine g_icmp_ge (tgt := 130) F (dAt dk_X2_close 14 rfl) (by decide) h (fun c3 h => ?_) (fun c3 h => ?_)
    · refine g_iinc (lv' := [(2, .int (v2 + 1)), (0, .ref (ad (oLn J))), (1, .int v1), (3, .int v3)]) F (dAt dk_X2_close 77 rfl) 2 rfl (w := 1) (by decide) (by decide) rfl ?_
      refine g_goto (tgt := 12) F (dAt dk_X2_close 78 rfl) (by decide) ?_
      refine g_sub (lv' := [(0, .ref (ad (oLn J))), (1, .int v1), (2, .int (v2 + 1))]) [1, 2, 0] rfl ?_
      exact ih12 (v1, (v2 + 1), t0) h
    · refine g_aload_n F (dAt dk_X2_close 15 rfl) 0 rfl ?_
      refine gg_Len_cells J F (gm mw_136 rfl) (dAt dk_X2_close 16 rfl) ?_
      refine g_iload_n F (dAt dk_X2_close 17 rfl) 3 rfl ?_
      refine g_bipush (v := 8) F (dAt dk_X2_close 18 rfl) (by decide) ?_
      refine g_imul F (dAt dk_X2_close 19 rfl) ?_
      refine g_iload_n F (dAt dk_X2_close 20 rfl) 2 rfl ?_
      refine g_iadd F (dAt dk_X2_close 21 rfl) ?_
      refine g_ck h (fun hi4 h => ?_)
      refine g_ialoadc F (ai_cells J) (dAt dk_X2_close 22 rfl) hi4 ?_
      refine g_lti h (fun y5 h => ?_)
      refine g_istore (lv' := [(4, .int y5), (0, .ref (ad (oLn J))), (1, .int v1), (2, .int v2), (3, .int v3)]) F (dAt dk_X2_close 23 rfl) (by decide) rfl ?_
      refine g_iload_n F (dAt dk_X2_close 24 rfl) 4 rfl ?_
      refine g_iconst (v := 1) F (dAt dk_X2_close 25 rfl) (by decide) ?_
      refine g_iadd F (dAt dk_X2_close 26 rfl) ?_
      refine g_istore (lv' := [(5, .int (v3 + 1)), (4, .int y5), (0, .ref (ad (oLn J))), (1, .int v1), (2, .int v2), (3, .int v3)]) F (dAt dk_X2_close 27 rfl) (by decide) rfl ?_
      refine g_sub (lv' := [(0, .ref (ad (oLn J))), (1, .int v1), (2, .int v2), (3, .int v3), (4, .int y5), (5, .int (v3 + 1))]) [2, 3, 4, 5, 1, 0] rfl ?_
      exact H42 self12 ih12 self19 ih19 n (v1, v2, v3, y5, (v3 + 1), t0) h
  have H12 : ∀ (k : Nat) (s : Int32 × Int32 × Mem), iter (bd_X2_close_12 n J) k s = some ((), t') → G X D ad g s.2.2 u [(0, .ref (ad (oLn J))), (1, .int s.1), (2, .int s.2.1)] 12 [] := by
    refine iter_walk (P := fun (s : Int32 × Int32 × Mem) => G X D ad g s.2.2 u [(0, .ref (ad (oLn J))), (1, .int s.1), (2, .int s.2.1)] 12 []) (fun self12 ih12 s h => ?_)
    obtain ⟨v1, v2, t0⟩ := s
    change G X D ad g t0 u [(0, .ref (ad (oLn J))), (1, .int v1), (2, .int v2)] 12 []
    unfold bd_X2_close_12 at h; try dsimp only at h
    refine g_iload_n F (dAt dk_X2_close 7 rfl) 2 rfl ?_
    refine g_iload_n F (dAt dk_X2_close 8 rfl) 1 rfl ?_
    refine g_icmp_ge (tgt := 136) F (dAt dk_X2_close 9 rfl) (by decide) h (fun c2 h => ?_) (fun c2 h => ?_)
    · cases h
      exact E (dAt dk_X2_close 79 rfl)
    · refine g_iconst (v := 0) F (dAt dk_X2_close 10 rfl) (by decide) ?_
      refine g_istore_n (lv' := [(3, .int 0), (0, .ref (ad (oLn J))), (1, .int v1), (2, .int v2)]) F (dAt dk_X2_close 11 rfl) (by decide) rfl ?_
      refine g_sub (lv' := [(0, .ref (ad (oLn J))), (1, .int v1), (2, .int v2), (3, .int 0)]) [1, 2, 3, 0] rfl ?_
      exact H19 self12 ih12 n (v1, v2, 0, t0) h
  refine g_lv (lv' := [(0, .ref (ad (oLn J)))]) rfl ?_
  unfold f_X2_close at h
  refine g_aload_n F (dAt dk_X2_close 0 rfl) 0 rfl ?_
  refine gg_Len_count J F (gm mw_137 rfl) (dAt dk_X2_close 1 rfl) ?_
  refine g_bipush (v := 8) F (dAt dk_X2_close 2 rfl) (by decide) ?_
  refine g_mmin F (gm mw_591 rfl) (dAt dk_X2_close 3 rfl) (by decide) (Nat.le_of_ble_eq_true rfl) h (fun r1 h => ?_)
  refine g_istore_n (lv' := [(1, .int r1), (0, .ref (ad (oLn J)))]) F (dAt dk_X2_close 4 rfl) (by decide) rfl ?_
  refine g_iconst (v := 0) F (dAt dk_X2_close 5 rfl) (by decide) ?_
  refine g_istore_n (lv' := [(2, .int 0), (1, .int r1), (0, .ref (ad (oLn J)))]) F (dAt dk_X2_close 6 rfl) (by decide) rfl ?_
  refine g_sub (lv' := [(0, .ref (ad (oLn J))), (1, .int r1), (2, .int 0)]) [2, 1, 0] rfl ?_
  exact H12  n (r1, 0, t) h
theorem mi_X2_measure : MI yX2_measure cX2_measure 2 none "MillOfDistances$Lengths" 1 := ⟨(gm mw_573 rfl), (gm mw_571 rfl), (gm mw_572 rfl), (gm mw_71 rfl), by decide +kernel, by decide⟩
theorem c_X2_measure {l : Launch} {D : va_G} {ad : Nat → Nat} {g : Gv} {t u : Mem} {n : Nat} {J : Fin 2} {x1 : Fin 3} {t' : Mem} (hJ : Jad ad) (h : f_X2_measure n J x1 t = some ((), t')) : ConV l yX2_measure cX2_measure 2 none 3 [.ref (ad (oLn J)), .ref (ad (oLd x1))] D ad g t u t' u := by
  refine con_v hJ (by decide) (Nat.le_of_ble_eq_true rfl) rfl (fun X F E => ?_)
  refine g_lv (lv' := [(0, .ref (ad (oLn J))), (1, .ref (ad (oLd x1)))]) rfl ?_
  unfold f_X2_measure at h
  refine g_aload_n F (dAt dk_X2_measure 0 rfl) 0 rfl ?_
  refine g_aload_n F (dAt dk_X2_measure 1 rfl) 1 rfl ?_
  refine g_invV_vc F mi_X2_takeRoads (gm mw_574 rfl) (dAt dk_X2_measure 2 rfl) (rcx_of F (rc_Len J)) [.ref (ad (oLd x1))] rfl rfl (by decide) (Nat.le_of_ble_eq_true rfl) h (fun _ _ hf => c_X2_takeRoads hJ hf) (fun _ t1 h => ?_)
  refine g_aload_n F (dAt dk_X2_measure 3 rfl) 0 rfl ?_
  refine g_invV_vc F mi_X2_close (gm mw_587 rfl) (dAt dk_X2_measure 4 rfl) (rcx_of F (rc_Len J)) [] rfl rfl (by decide) (Nat.le_of_ble_eq_true rfl) h (fun _ _ hf => c_X2_close hJ hf) (fun _ t2 h => ?_)
  cases h
  exact E (dAt dk_X2_measure 5 rfl)
theorem mi_X2_measureWithout : MI yX2_measureWithout cX2_measureWithout 4 none "MillOfDistances$Lengths" 3 := ⟨(gm mw_655 rfl), (gm mw_653 rfl), (gm mw_654 rfl), (gm mw_71 rfl), by decide +kernel, by decide⟩
theorem c_X2_measureWithout {l : Launch} {D : va_G} {ad : Nat → Nat} {g : Gv} {t u : Mem} {n : Nat} {J : Fin 2} {x1 : Fin 3} {x2 : Int32} {x3 : Int32} {t' : Mem} (hJ : Jad ad) (h : f_X2_measureWithout n J x1 x2 x3 t = some ((), t')) : ConV l yX2_measureWithout cX2_measureWithout 4 none 3 [.ref (ad (oLn J)), .ref (ad (oLd x1)), .int x2, .int x3] D ad g t u t' u := by
  refine con_v hJ (by decide) (Nat.le_of_ble_eq_true rfl) rfl (fun X F E => ?_)
  refine g_lv (lv' := [(0, .ref (ad (oLn J))), (1, .ref (ad (oLd x1))), (2, .int x2), (3, .int x3)]) rfl ?_
  unfold f_X2_measureWithout at h
  refine g_aload_n F (dAt dk_X2_measureWithout 0 rfl) 0 rfl ?_
  refine g_aload_n F (dAt dk_X2_measureWithout 1 rfl) 1 rfl ?_
  refine g_invV_vc F mi_X2_takeRoads (gm mw_574 rfl) (dAt dk_X2_measureWithout 2 rfl) (rcx_of F (rc_Len J)) [.ref (ad (oLd x1))] rfl rfl (by decide) (Nat.le_of_ble_eq_true rfl) h (fun _ _ hf => c_X2_takeRoads hJ hf) (fun _ t1 h => ?_)
  refine g_aload_n F (dAt dk_X2_measureWithout 3 rfl) 0 rfl ?_
  refine g_iload_n F (dAt dk_X2_measureWithout 4 rfl) 2 rfl ?_
  refine g_iload_n F (dAt dk_X2_measureWithout 5 rfl) 3 rfl ?_
  refine g_sipush (v := 10000) F (dAt dk_X2_measureWithout 6 rfl) (by decide) ?_
  refine g_invV_vc F mi_X2_note (gm mw_578 rfl) (dAt dk_X2_measureWithout 7 rfl) (rcx_of F (rc_Len J)) [.int x2, .int x3, .int 10000] rfl rfl (by decide) (Nat.le_of_ble_eq_true rfl) h (fun _ _ hf => c_X2_note hJ hf) (fun _ t2 h => ?_)
  refine g_aload_n F (dAt dk_X2_measureWithout 8 rfl) 0 rfl ?_
  refine g_invV_vc F mi_X2_close (gm mw_587 rfl) (dAt dk_X2_measureWithout 9 rfl) (rcx_of F (rc_Len J)) [] rfl rfl (by decide) (Nat.le_of_ble_eq_true rfl) h (fun _ _ hf => c_X2_close hJ hf) (fun _ t3 h => ?_)
  cases h
  exact E (dAt dk_X2_measureWithout 10 rfl)
theorem ms_X5_pairOf : MS yX5_pairOf cX5_pairOf 5 (some .int) 3 := ⟨(gm mw_726 rfl), (gm mw_725 rfl), (gm mw_69 rfl), by decide +kernel, by decide⟩
theorem c_X5_pairOf {l : Launch} {D : va_G} {ad : Nat → Nat} {g : Gv} {t u : Mem} {x0 : Int32} {x1 : Int32} {x2 : Int32} {r : Int32} (hJ : Jad ad) (h : f_X5_pairOf x0 x1 x2 = some r) : ConI l yX5_pairOf cX5_pairOf 5 (some .int) 1 [.int x0, .int x1, .int x2] D ad g t u t u r := by
  refine con_i hJ (by decide) (Nat.le_of_ble_eq_true rfl) rfl (fun X F E => ?_)
  refine g_lv (lv' := [(0, .int x0), (1, .int x1), (2, .int x2)]) rfl ?_
  unfold f_X5_pairOf at h
  refine g_iload_n F (dAt dk_X5_pairOf 0 rfl) 0 rfl ?_
  refine g_iload_n F (dAt dk_X5_pairOf 1 rfl) 1 rfl ?_
  refine g_mmin F (gm mw_727 rfl) (dAt dk_X5_pairOf 2 rfl) (by decide) (Nat.le_of_ble_eq_true rfl) h (fun r1 h => ?_)
  refine g_istore_n (lv' := [(3, .int r1), (0, .int x0), (1, .int x1), (2, .int x2)]) F (dAt dk_X5_pairOf 3 rfl) (by decide) rfl ?_
  refine g_iload_n F (dAt dk_X5_pairOf 4 rfl) 1 rfl ?_
  refine g_iload_n F (dAt dk_X5_pairOf 5 rfl) 2 rfl ?_
  refine g_mmax F (gm mw_681 rfl) (dAt dk_X5_pairOf 6 rfl) (by decide) (Nat.le_of_ble_eq_true rfl) h (fun r2 h => ?_)
  refine g_istore (lv' := [(4, .int r2), (3, .int r1), (0, .int x0), (1, .int x1), (2, .int x2)]) F (dAt dk_X5_pairOf 7 rfl) (by decide) rfl ?_
  refine g_iload_n F (dAt dk_X5_pairOf 8 rfl) 1 rfl ?_
  refine g_iload_n F (dAt dk_X5_pairOf 9 rfl) 4 rfl ?_
  refine g_imul F (dAt dk_X5_pairOf 10 rfl) ?_
  refine g_iload_n F (dAt dk_X5_pairOf 11 rfl) 1 rfl ?_
  refine g_iload_n F (dAt dk_X5_pairOf 12 rfl) 1 rfl ?_
  refine g_iconst (v := 1) F (dAt dk_X5_pairOf 13 rfl) (by decide) ?_
  refine g_iadd F (dAt dk_X5_pairOf 14 rfl) ?_
  refine g_imul F (dAt dk_X5_pairOf 15 rfl) ?_
  refine g_iconst (v := 2) F (dAt dk_X5_pairOf 16 rfl) (by decide) ?_
  refine g_idiv F (dAt dk_X5_pairOf 17 rfl) (by decide) ?_
  refine g_isub F (dAt dk_X5_pairOf 18 rfl) ?_
  refine g_iload F (dAt dk_X5_pairOf 19 rfl) 0 rfl ?_
  refine g_iadd F (dAt dk_X5_pairOf 20 rfl) ?_
  refine g_iload_n F (dAt dk_X5_pairOf 21 rfl) 1 rfl ?_
  refine g_isub F (dAt dk_X5_pairOf 22 rfl) ?_
  refine g_iconst (v := 1) F (dAt dk_X5_pairOf 23 rfl) (by decide) ?_
  refine g_isub F (dAt dk_X5_pairOf 24 rfl) ?_
  cases h
  exact E (dAt dk_X5_pairOf 25 rfl) rfl
theorem mi_X4_asInt : MI yX4_asInt cX4_asInt 2 (some .int) "MillOfDistances$Shelf" 1 := ⟨(gm mw_453 rfl), (gm mw_451 rfl), (gm mw_452 rfl), (gm mw_74 rfl), by decide +kernel, by decide⟩
theorem c_X4_asInt {l : Launch} {D : va_G} {ad : Nat → Nat} {g : Gv} {t u : Mem} {K : Fin 8} {x1 : Int32} {t' : Mem} {r : Int32} (hJ : Jad ad) (h : f_X4_asInt K x1 t = some (r, t')) : ConI l yX4_asInt cX4_asInt 2 (some .int) 0 [.ref (ad (oSh K)), .int x1] D ad g t u t' u r := by
  refine con_i hJ (by decide) (Nat.le_of_ble_eq_true rfl) rfl (fun X F E => ?_)
  refine g_lv (lv' := [(0, .ref (ad (oSh K))), (1, .int x1)]) rfl ?_
  unfold f_X4_asInt at h
  refine g_iload_n F (dAt dk_X4_asInt 0 rfl) 1 rfl ?_
  refine g_if_lt (tgt := 22) F (dAt dk_X4_asInt 1 rfl) (by decide) h (fun c1 h => ?_) (fun c1 h => ?_)
  · refine g_iconst (v := 0) F (dAt dk_X4_asInt 12 rfl) (by decide) ?_
    cases h
    exact E (dAt dk_X4_asInt 13 rfl) rfl
  · refine g_iload_n F (dAt dk_X4_asInt 2 rfl) 1 rfl ?_
    refine g_aload_n F (dAt dk_X4_asInt 3 rfl) 0 rfl ?_
    refine gg_Shelf_size K F (gm mw_196 rfl) (dAt dk_X4_asInt 4 rfl) ?_
    refine g_icmp_ge (tgt := 22) F (dAt dk_X4_asInt 5 rfl) (by decide) h (fun c2 h => ?_) (fun c2 h => ?_)
    · refine g_iconst (v := 0) F (dAt dk_X4_asInt 12 rfl) (by decide) ?_
      cases h
      exact E (dAt dk_X4_asInt 13 rfl) rfl
    · refine g_aload_n F (dAt dk_X4_asInt 6 rfl) 0 rfl ?_
      refine gg_Shelf_elements K F (gm mw_193 rfl) (dAt dk_X4_asInt 7 rfl) ?_
      refine g_iload_n F (dAt dk_X4_asInt 8 rfl) 1 rfl ?_
      refine g_ck h (fun hi3 h => ?_)
      refine g_laloadc F (ai_elements K) (dAt dk_X4_asInt 9 rfl) hi3 ?_
      refine g_l2i F (dAt dk_X4_asInt 10 rfl) ?_
      refine g_goto (tgt := 23) F (dAt dk_X4_asInt 11 rfl) (by decide) ?_
      cases h
      exact E (dAt dk_X4_asInt 13 rfl) rfl
theorem mi_X2_measureTable : MI yX2_measureTable cX2_measureTable 5 none "MillOfDistances$Lengths" 2 := ⟨(gm mw_735 rfl), (gm mw_733 rfl), (gm mw_734 rfl), (gm mw_71 rfl), by decide +kernel, by decide⟩
theorem c_X2_measureTable {l : Launch} {D : va_G} {ad : Nat → Nat} {g : Gv} {t u : Mem} {n : Nat} {J : Fin 2} {x1 : Fin 8} {x2 : Int32} {t' : Mem} (hJ : Jad ad) (h : f_X2_measureTable n J x1 x2 t = some ((), t')) : ConV l yX2_measureTable cX2_measureTable 5 none 2 [.ref (ad (oLn J)), .ref (ad (oSh x1)), .int x2] D ad g t u t' u := by
  refine con_v hJ (by decide) (Nat.le_of_ble_eq_true rfl) rfl (fun X F E => ?_)
  have H27 : ∀ (self7 : Int32 × Mem → Option (Unit × Mem)), (∀ s, self7 s = some ((), t') → G X D ad g s.2 u [(0, .ref (ad (oLn J))), (1, .ref (ad (oSh x1))), (3, .int s.1)] 7 []) → ∀ (k : Nat) (s : Int32 × Int32 × Mem), iter (bd_X2_measureTable_27 n J x1 x2 self7) k s = some ((), t') → G X D ad g s.2.2 u [(0, .ref (ad (oLn J))), (1, .ref (ad (oSh x1))), (3, .int s.1), (4, .int s.2.1)] 27 [] := by
    intro self7 ih7
    refine iter_walk (P := fun (s : Int32 × Int32 × Mem) => G X D ad g s.2.2 u [(0, .ref (ad (oLn J))), (1, .ref (ad (oSh x1))), (3, .int s.1), (4, .int s.2.1)] 27 []) (fun self27 ih27 s h => ?_)
    obtain ⟨v3, v4, t0⟩ := s
    change G X D ad g t0 u [(0, .ref (ad (oLn J))), (1, .ref (ad (oSh x1))), (3, .int v3), (4, .int v4)] 27 []
    unfold bd_X2_measureTable_27 at h; try dsimp only at h
    refine g_iload F (dAt dk_X2_measureTable 18 rfl) 3 rfl ?_
    refine g_aload_n F (dAt dk_X2_measureTable 19 rfl) 0 rfl ?_
    refine gg_Len_count J F (gm mw_137 rfl) (dAt dk_X2_measureTable 20 rfl) ?_
    refine g_icmp_ge (tgt := 63) F (dAt dk_X2_measureTable 21 rfl) (by decide) h (fun c5 h => ?_) (fun c5 h => ?_)
    · refine g_iinc (lv' := [(3, .int (v3 + 1)), (0, .ref (ad (oLn J))), (1, .ref (ad (oSh x1))), (4, .int v4)]) F (dAt dk_X2_measureTable 35 rfl) 2 rfl (w := 1) (by decide) (by decide) rfl ?_
      refine g_goto (tgt := 7) F (dAt dk_X2_measureTable 36 rfl) (by decide) ?_
      refine g_sub (lv' := [(0, .ref (ad (oLn J))), (1, .ref (ad (oSh x1))), (3, .int (v3 + 1))]) [1, 2, 0] rfl ?_
      exact ih7 ((v3 + 1), t0) h
    · refine g_aload_n F (dAt dk_X2_measureTable 22 rfl) 0 rfl ?_
      refine g_iload_n F (dAt dk_X2_measureTable 23 rfl) 2 rfl ?_
      refine g_iload F (dAt dk_X2_measureTable 24 rfl) 3 rfl ?_
      refine g_aload_n F (dAt dk_X2_measureTable 25 rfl) 1 rfl ?_
      refine g_iload_n F (dAt dk_X2_measureTable 26 rfl) 2 rfl ?_
      refine g_iload F (dAt dk_X2_measureTable 27 rfl) 3 rfl ?_
      refine g_aload_n F (dAt dk_X2_measureTable 28 rfl) 0 rfl ?_
      refine gg_Len_count J F (gm mw_137 rfl) (dAt dk_X2_measureTable 29 rfl) ?_
      refine g_invSN_ip F ms_X5_pairOf (nw_736 F) (dAt dk_X2_measureTable 30 rfl) [.int v3, .int v4, .int (t0.1 (oLn J) 1)] rfl rfl (by decide) (Nat.le_of_ble_eq_true rfl) h (fun _ hf => c_X5_pairOf hJ hf) (fun r6 h => ?_)
      refine g_invV_ic F mi_X4_asInt (gm mw_737 rfl) (dAt dk_X2_measureTable 31 rfl) (rcx_of F (rc_Shelf x1)) [.int r6] rfl rfl (by decide) (Nat.le_of_ble_eq_true rfl) h (fun _ _ hf => c_X4_asInt hJ hf) (fun r7 t8 h => ?_)
      refine g_invV_vc F mi_X2_note (gm mw_578 rfl) (dAt dk_X2_measureTable 32 rfl) (rcx_of F (rc_Len J)) [.int v3, .int v4, .int r7] rfl rfl (by decide) (Nat.le_of_ble_eq_true rfl) h (fun _ _ hf => c_X2_note hJ hf) (fun _ t9 h => ?_)
      refine g_iinc (lv' := [(4, .int (v4 + 1)), (0, .ref (ad (oLn J))), (1, .ref (ad (oSh x1))), (3, .int v3)]) F (dAt dk_X2_measureTable 33 rfl) 3 rfl (w := 1) (by decide) (by decide) rfl ?_
      refine g_goto (tgt := 27) F (dAt dk_X2_measureTable 34 rfl) (by decide) ?_
      refine g_sub (lv' := [(0, .ref (ad (oLn J))), (1, .ref (ad (oSh x1))), (3, .int v3), (4, .int (v4 + 1))]) [1, 2, 3, 0] rfl ?_
      exact ih27 (v3, (v4 + 1), t9) h
  have H7 : ∀ (k : Nat) (s : Int32 × Mem), iter (bd_X2_measureTable_7 n J x1 x2) k s = some ((), t') → G X D ad g s.2 u [(0, .ref (ad (oLn J))), (1, .ref (ad (oSh x1))), (3, .int s.1)] 7 [] := by
    refine iter_walk (P := fun (s : Int32 × Mem) => G X D ad g s.2 u [(0, .ref (ad (oLn J))), (1, .ref (ad (oSh x1))), (3, .int s.1)] 7 []) (fun self7 ih7 s h => ?_)
    obtain ⟨v3, t0⟩ := s
    change G X D ad g t0 u [(0, .ref (ad (oLn J))), (1, .ref (ad (oSh x1))), (3, .int v3)] 7 []
    unfold bd_X2_measureTable_7 at h; try dsimp only at h
    refine g_iload_n F (dAt dk_X2_measureTable 5 rfl) 2 rfl ?_
    refine g_aload_n F (dAt dk_X2_measureTable 6 rfl) 0 rfl ?_
    refine gg_Len_count J F (gm mw_137 rfl) (dAt dk_X2_measureTable 7 rfl) ?_
    refine g_icmp_ge (tgt := 69) F (dAt dk_X2_measureTable 8 rfl) (by decide) h (fun c2 h => ?_) (fun c2 h => ?_)
    · refine g_aload_n F (dAt dk_X2_measureTable 37 rfl) 0 rfl ?_
      refine g_invV_vc F mi_X2_close (gm mw_587 rfl) (dAt dk_X2_measureTable 38 rfl) (rcx_of F (rc_Len J)) [] rfl rfl (by decide) (Nat.le_of_ble_eq_true rfl) h (fun _ _ hf => c_X2_close hJ hf) (fun _ t3 h => ?_)
      cases h
      exact E (dAt dk_X2_measureTable 39 rfl)
    · refine g_aload_n F (dAt dk_X2_measureTable 9 rfl) 0 rfl ?_
      refine g_iload_n F (dAt dk_X2_measureTable 10 rfl) 2 rfl ?_
      refine g_iload_n F (dAt dk_X2_measureTable 11 rfl) 2 rfl ?_
      refine g_iconst (v := 0) F (dAt dk_X2_measureTable 12 rfl) (by decide) ?_
      refine g_invV_vc F mi_X2_note (gm mw_578 rfl) (dAt dk_X2_measureTable 13 rfl) (rcx_of F (rc_Len J)) [.int v3, .int v3, .int 0] rfl rfl (by decide) (Nat.le_of_ble_eq_true rfl) h (fun _ _ hf => c_X2_note hJ hf) (fun _ t4 h => ?_)
      refine g_iload_n F (dAt dk_X2_measureTable 14 rfl) 2 rfl ?_
      refine g_iconst (v := 1) F (dAt dk_X2_measureTable 15 rfl) (by decide) ?_
      refine g_iadd F (dAt dk_X2_measureTable 16 rfl) ?_
      refine g_istore (lv' := [(4, .int (v3 + 1)), (0, .ref (ad (oLn J))), (1, .ref (ad (oSh x1))), (3, .int v3)]) F (dAt dk_X2_measureTable 17 rfl) (by decide) rfl ?_
      refine g_sub (lv' := [(0, .ref (ad (oLn J))), (1, .ref (ad (oSh x1))), (3, .int v3), (4, .int (v3 + 1))]) [1, 2, 3, 0] rfl ?_
      exact H27 self7 ih7 n (v3, (v3 + 1), t4) h
  refine g_lv (lv' := [(0, .ref (ad (oLn J))), (1, .ref (ad (oSh x1))), (2, .int x2)]) rfl ?_
  unfold f_X2_measureTable at h
  refine g_aload_n F (dAt dk_X2_measureTable 0 rfl) 0 rfl ?_
  refine g_iload_n F (dAt dk_X2_measureTable 1 rfl) 2 rfl ?_
  refine gp_Len_count J F (gm mw_137 rfl) (dAt dk_X2_measureTable 2 rfl) ?_
  refine g_ltt h (fun t1 h => ?_)
  refine g_iconst (v := 0) F (dAt dk_X2_measureTable 3 rfl) (by decide) ?_
  refine g_istore_n (lv' := [(3, .int 0), (0, .ref (ad (oLn J))), (1, .ref (ad (oSh x1))), (2, .int x2)]) F (dAt dk_X2_measureTable 4 rfl) (by decide) rfl ?_
  refine g_sub (lv' := [(0, .ref (ad (oLn J))), (1, .ref (ad (oSh x1))), (3, .int 0)]) [1, 2, 0] rfl ?_
  exact H7  n (0, t1) h
theorem mi_X2_length : MI yX2_length cX2_length 3 (some .int) "MillOfDistances$Lengths" 2 := ⟨(gm mw_603 rfl), (gm mw_601 rfl), (gm mw_602 rfl), (gm mw_71 rfl), by decide +kernel, by decide⟩
theorem c_X2_length {l : Launch} {D : va_G} {ad : Nat → Nat} {g : Gv} {t u : Mem} {J : Fin 2} {x1 : Int32} {x2 : Int32} {t' : Mem} {r : Int32} (hJ : Jad ad) (h : f_X2_length J x1 x2 t = some (r, t')) : ConI l yX2_length cX2_length 3 (some .int) 1 [.ref (ad (oLn J)), .int x1, .int x2] D ad g t u t' u r := by
  refine con_i hJ (by decide) (Nat.le_of_ble_eq_true rfl) rfl (fun X F E => ?_)
  refine g_lv (lv' := [(0, .ref (ad (oLn J))), (1, .int x1), (2, .int x2)]) rfl ?_
  unfold f_X2_length at h
  refine g_aload_n F (dAt dk_X2_length 0 rfl) 0 rfl ?_
  refine g_iload_n F (dAt dk_X2_length 1 rfl) 1 rfl ?_
  refine g_iload_n F (dAt dk_X2_length 2 rfl) 2 rfl ?_
  refine g_invV_ic F mi_X2_isInside (gm mw_582 rfl) (dAt dk_X2_length 3 rfl) (rcx_of F (rc_Len J)) [.int x1, .int x2] rfl rfl (by decide) (Nat.le_of_ble_eq_true rfl) h (fun _ _ hf => c_X2_isInside hJ hf) (fun r1 t2 h => ?_)
  refine g_if_eq (tgt := 23) F (dAt dk_X2_length 4 rfl) (by decide) h (fun c3 h => ?_) (fun c3 h => ?_)
  · refine g_sipush (v := 10000) F (dAt dk_X2_length 14 rfl) (by decide) ?_
    cases h
    exact E (dAt dk_X2_length 15 rfl) rfl
  · refine g_aload_n F (dAt dk_X2_length 5 rfl) 0 rfl ?_
    refine gg_Len_cells J F (gm mw_136 rfl) (dAt dk_X2_length 6 rfl) ?_
    refine g_iload_n F (dAt dk_X2_length 7 rfl) 1 rfl ?_
    refine g_bipush (v := 8) F (dAt dk_X2_length 8 rfl) (by decide) ?_
    refine g_imul F (dAt dk_X2_length 9 rfl) ?_
    refine g_iload_n F (dAt dk_X2_length 10 rfl) 2 rfl ?_
    refine g_iadd F (dAt dk_X2_length 11 rfl) ?_
    refine g_ck h (fun hi4 h => ?_)
    refine g_ialoadc F (ai_cells J) (dAt dk_X2_length 12 rfl) hi4 ?_
    refine g_goto (tgt := 26) F (dAt dk_X2_length 13 rfl) (by decide) ?_
    cases h
    exact E (dAt dk_X2_length 15 rfl) rfl
theorem mi_X2_joins : MI yX2_joins cX2_joins 3 (some .boolean) "MillOfDistances$Lengths" 2 := ⟨(gm mw_599 rfl), (gm mw_597 rfl), (gm mw_598 rfl), (gm mw_71 rfl), by decide +kernel, by decide⟩
theorem c_X2_joins {l : Launch} {D : va_G} {ad : Nat → Nat} {g : Gv} {t u : Mem} {J : Fin 2} {x1 : Int32} {x2 : Int32} {t' : Mem} {r : Int32} (hJ : Jad ad) (h : f_X2_joins J x1 x2 t = some (r, t')) : ConI l yX2_joins cX2_joins 3 (some .boolean) 2 [.ref (ad (oLn J)), .int x1, .int x2] D ad g t u t' u r := by
  refine con_i hJ (by decide) (Nat.le_of_ble_eq_true rfl) rfl (fun X F E => ?_)
  refine g_lv (lv' := [(0, .ref (ad (oLn J))), (1, .int x1), (2, .int x2)]) rfl ?_
  unfold f_X2_joins at h
  refine g_aload_n F (dAt dk_X2_joins 0 rfl) 0 rfl ?_
  refine g_iload_n F (dAt dk_X2_joins 1 rfl) 1 rfl ?_
  refine g_iload_n F (dAt dk_X2_joins 2 rfl) 2 rfl ?_
  refine g_invV_ic F mi_X2_length (gm mw_600 rfl) (dAt dk_X2_joins 3 rfl) (rcx_of F (rc_Len J)) [.int x1, .int x2] rfl rfl (by decide) (Nat.le_of_ble_eq_true rfl) h (fun _ _ hf => c_X2_length hJ hf) (fun r1 t2 h => ?_)
  refine g_sipush (v := 10000) F (dAt dk_X2_joins 4 rfl) (by decide) ?_
  refine g_icmp_ge (tgt := 16) F (dAt dk_X2_joins 5 rfl) (by decide) h (fun c3 h => ?_) (fun c3 h => ?_)
  · refine g_iconst (v := 0) F (dAt dk_X2_joins 8 rfl) (by decide) ?_
    cases h
    exact E (dAt dk_X2_joins 9 rfl) rfl
  · refine g_iconst (v := 1) F (dAt dk_X2_joins 6 rfl) (by decide) ?_
    refine g_goto (tgt := 17) F (dAt dk_X2_joins 7 rfl) (by decide) ?_
    cases h
    exact E (dAt dk_X2_joins 9 rfl) rfl
theorem mi_X2_lengthOrNone : MI yX2_lengthOrNone cX2_lengthOrNone 3 (some .int) "MillOfDistances$Lengths" 2 := ⟨(gm mw_595 rfl), (gm mw_593 rfl), (gm mw_594 rfl), (gm mw_71 rfl), by decide +kernel, by decide⟩
theorem c_X2_lengthOrNone {l : Launch} {D : va_G} {ad : Nat → Nat} {g : Gv} {t u : Mem} {J : Fin 2} {x1 : Int32} {x2 : Int32} {t' : Mem} {r : Int32} (hJ : Jad ad) (h : f_X2_lengthOrNone J x1 x2 t = some (r, t')) : ConI l yX2_lengthOrNone cX2_lengthOrNone 3 (some .int) 3 [.ref (ad (oLn J)), .int x1, .int x2] D ad g t u t' u r := by
  refine con_i hJ (by decide) (Nat.le_of_ble_eq_true rfl) rfl (fun X F E => ?_)
  refine g_lv (lv' := [(0, .ref (ad (oLn J))), (1, .int x1), (2, .int x2)]) rfl ?_
  unfold f_X2_lengthOrNone at h
  refine g_aload_n F (dAt dk_X2_lengthOrNone 0 rfl) 0 rfl ?_
  refine g_iload_n F (dAt dk_X2_lengthOrNone 1 rfl) 1 rfl ?_
  refine g_iload_n F (dAt dk_X2_lengthOrNone 2 rfl) 2 rfl ?_
  refine g_invV_ic F mi_X2_joins (gm mw_596 rfl) (dAt dk_X2_lengthOrNone 3 rfl) (rcx_of F (rc_Len J)) [.int x1, .int x2] rfl rfl (by decide) (Nat.le_of_ble_eq_true rfl) h (fun _ _ hf => c_X2_joins hJ hf) (fun r1 t2 h => ?_)
  refine g_if_eq (tgt := 18) F (dAt dk_X2_lengthOrNone 4 rfl) (by decide) h (fun c3 h => ?_) (fun c3 h => ?_)
  · refine g_iconst (v := (-1)) F (dAt dk_X2_lengthOrNone 10 rfl) (by decide) ?_
    cases h
    exact E (dAt dk_X2_lengthOrNone 11 rfl) rfl
  · refine g_aload_n F (dAt dk_X2_lengthOrNone 5 rfl) 0 rfl ?_
    refine g_iload_n F (dAt dk_X2_lengthOrNone 6 rfl) 1 rfl ?_
    refine g_iload_n F (dAt dk_X2_lengthOrNone 7 rfl) 2 rfl ?_
    refine g_invV_ic F mi_X2_length (gm mw_600 rfl) (dAt dk_X2_lengthOrNone 8 rfl) (rcx_of F (rc_Len J)) [.int x1, .int x2] rfl rfl (by decide) (Nat.le_of_ble_eq_true rfl) h (fun _ _ hf => c_X2_length hJ hf) (fun r4 t5 h => ?_)
    refine g_goto (tgt := 19) F (dAt dk_X2_lengthOrNone 9 rfl) (by decide) ?_
    cases h
    exact E (dAt dk_X2_lengthOrNone 11 rfl) rfl
theorem mi_X2_lengthBeside : MI yX2_lengthBeside cX2_lengthBeside 5 (some .int) "MillOfDistances$Lengths" 4 := ⟨(gm mw_676 rfl), (gm mw_674 rfl), (gm mw_675 rfl), (gm mw_71 rfl), by decide +kernel, by decide⟩
theorem c_X2_lengthBeside {l : Launch} {D : va_G} {ad : Nat → Nat} {g : Gv} {t u : Mem} {J : Fin 2} {x1 : Int32} {x2 : Int32} {x3 : Int32} {x4 : Int32} {t' : Mem} {r : Int32} (hJ : Jad ad) (h : f_X2_lengthBeside J x1 x2 x3 x4 t = some (r, t')) : ConI l yX2_lengthBeside cX2_lengthBeside 5 (some .int) 2 [.ref (ad (oLn J)), .int x1, .int x2, .int x3, .int x4] D ad g t u t' u r := by
  refine con_i hJ (by decide) (Nat.le_of_ble_eq_true rfl) rfl (fun X F E => ?_)
  refine g_lv (lv' := [(0, .ref (ad (oLn J))), (1, .int x1), (2, .int x2), (3, .int x3), (4, .int x4)]) rfl ?_
  unfold f_X2_lengthBeside at h
  refine g_aload_n F (dAt dk_X2_lengthBeside 0 rfl) 0 rfl ?_
  refine g_iload_n F (dAt dk_X2_lengthBeside 1 rfl) 1 rfl ?_
  refine g_iload_n F (dAt dk_X2_lengthBeside 2 rfl) 3 rfl ?_
  refine g_invV_ic F mi_X2_length (gm mw_600 rfl) (dAt dk_X2_lengthBeside 3 rfl) (rcx_of F (rc_Len J)) [.int x1, .int x3] rfl rfl (by decide) (Nat.le_of_ble_eq_true rfl) h (fun _ _ hf => c_X2_length hJ hf) (fun r1 t2 h => ?_)
  refine g_aload_n F (dAt dk_X2_lengthBeside 4 rfl) 0 rfl ?_
  refine g_iload F (dAt dk_X2_lengthBeside 5 rfl) 4 rfl ?_
  refine g_iload_n F (dAt dk_X2_lengthBeside 6 rfl) 2 rfl ?_
  refine g_invV_ic F mi_X2_length (gm mw_600 rfl) (dAt dk_X2_lengthBeside 7 rfl) (rcx_of F (rc_Len J)) [.int x4, .int x2] rfl rfl (by decide) (Nat.le_of_ble_eq_true rfl) h (fun _ _ hf => c_X2_length hJ hf) (fun r3 t4 h => ?_)
  refine g_iadd F (dAt dk_X2_lengthBeside 8 rfl) ?_
  refine g_aload_n F (dAt dk_X2_lengthBeside 9 rfl) 0 rfl ?_
  refine g_iload_n F (dAt dk_X2_lengthBeside 10 rfl) 1 rfl ?_
  refine g_iload F (dAt dk_X2_lengthBeside 11 rfl) 4 rfl ?_
  refine g_invV_ic F mi_X2_length (gm mw_600 rfl) (dAt dk_X2_lengthBeside 12 rfl) (rcx_of F (rc_Len J)) [.int x1, .int x4] rfl rfl (by decide) (Nat.le_of_ble_eq_true rfl) h (fun _ _ hf => c_X2_length hJ hf) (fun r5 t6 h => ?_)
  refine g_aload_n F (dAt dk_X2_lengthBeside 13 rfl) 0 rfl ?_
  refine g_iload_n F (dAt dk_X2_lengthBeside 14 rfl) 3 rfl ?_
  refine g_iload_n F (dAt dk_X2_lengthBeside 15 rfl) 2 rfl ?_
  refine g_invV_ic F mi_X2_length (gm mw_600 rfl) (dAt dk_X2_lengthBeside 16 rfl) (rcx_of F (rc_Len J)) [.int x3, .int x2] rfl rfl (by decide) (Nat.le_of_ble_eq_true rfl) h (fun _ _ hf => c_X2_length hJ hf) (fun r7 t8 h => ?_)
  refine g_iadd F (dAt dk_X2_lengthBeside 17 rfl) ?_
  refine g_mmin F (gm mw_591 rfl) (dAt dk_X2_lengthBeside 18 rfl) (by decide) (Nat.le_of_ble_eq_true rfl) h (fun r9 h => ?_)
  cases h
  exact E (dAt dk_X2_lengthBeside 19 rfl) rfl
theorem mi_X2_nextOnTheWay : MI yX2_nextOnTheWay cX2_nextOnTheWay 6 (some .int) "MillOfDistances$Lengths" 3 := ⟨(gm mw_612 rfl), (gm mw_610 rfl), (gm mw_611 rfl), (gm mw_71 rfl), by decide +kernel, by decide⟩
theorem c_X2_nextOnTheWay {l : Launch} {D : va_G} {ad : Nat → Nat} {g : Gv} {t u : Mem} {n : Nat} {J : Fin 2} {x1 : Fin 3} {x2 : Int32} {x3 : Int32} {t' : Mem} {r : Int32} (hJ : Jad ad) (h : f_X2_nextOnTheWay n J x1 x2 x3 t = some (r, t')) : ConI l yX2_nextOnTheWay cX2_nextOnTheWay 6 (some .int) 2 [.ref (ad (oLn J)), .ref (ad (oLd x1)), .int x2, .int x3] D ad g t u t' u r := by
  refine con_i hJ (by decide) (Nat.le_of_ble_eq_true rfl) rfl (fun X F E => ?_)
  have H3 : ∀ (k : Nat) (s : Int32 × Mem), iter (bd_X2_nextOnTheWay_3 n J x1 x2 x3) k s = some (r, t') → G X D ad g s.2 u [(0, .ref (ad (oLn J))), (1, .ref (ad (oLd x1))), (2, .int x2), (3, .int x3), (4, .int s.1)] 3 [] := by
    refine iter_walk (P := fun (s : Int32 × Mem) => G X D ad g s.2 u [(0, .ref (ad (oLn J))), (1, .ref (ad (oLd x1))), (2, .int x2), (3, .int x3), (4, .int s.1)] 3 []) (fun self3 ih3 s h => ?_)
    obtain ⟨v4, t0⟩ := s
    change G X D ad g t0 u [(0, .ref (ad (oLn J))), (1, .ref (ad (oLd x1))), (2, .int x2), (3, .int x3), (4, .int v4)] 3 []
    unfold bd_X2_nextOnTheWay_3 at h; try dsimp only at h
    refine g_iload F (dAt dk_X2_nextOnTheWay 2 rfl) 4 rfl ?_
    refine g_aload_n F (dAt dk_X2_nextOnTheWay 3 rfl) 0 rfl ?_
    refine gg_Len_count J F (gm mw_137 rfl) (dAt dk_X2_nextOnTheWay 4 rfl) ?_
    refine g_icmp_ge (tgt := 54) F (dAt dk_X2_nextOnTheWay 5 rfl) (by decide) h (fun c1 h => ?_) (fun c1 h => ?_)
    · refine g_iload_n F (dAt dk_X2_nextOnTheWay 28 rfl) 2 rfl ?_
      cases h
      exact E (dAt dk_X2_nextOnTheWay 29 rfl) rfl
    · refine g_aload_n F (dAt dk_X2_nextOnTheWay 6 rfl) 1 rfl ?_
      refine g_iload_n F (dAt dk_X2_nextOnTheWay 7 rfl) 2 rfl ?_
      refine g_iload F (dAt dk_X2_nextOnTheWay 8 rfl) 4 rfl ?_
      refine g_invV_ic F mi_X1_between (gm mw_586 rfl) (dAt dk_X2_nextOnTheWay 9 rfl) (rcx_of F (rc_Land x1)) [.int x2, .int v4] rfl rfl (by decide) (Nat.le_of_ble_eq_true rfl) h (fun _ _ hf => c_X1_between hJ hf) (fun r2 t3 h => ?_)
      refine g_istore (lv' := [(5, .int r2), (0, .ref (ad (oLn J))), (1, .ref (ad (oLd x1))), (2, .int x2), (3, .int x3), (4, .int v4)]) F (dAt dk_X2_nextOnTheWay 10 rfl) (by decide) rfl ?_
      refine g_iload F (dAt dk_X2_nextOnTheWay 11 rfl) 0 rfl ?_
      refine g_if_eq (tgt := 48) F (dAt dk_X2_nextOnTheWay 12 rfl) (by decide) h (fun c4 h => ?_) (fun c4 h => ?_)
      · refine g_iinc (lv' := [(4, .int (v4 + 1)), (5, .int r2), (0, .ref (ad (oLn J))), (1, .ref (ad (oLd x1))), (2, .int x2), (3, .int x3)]) F (dAt dk_X2_nextOnTheWay 26 rfl) 5 rfl (w := 1) (by decide) (by decide) rfl ?_
        refine g_goto (tgt := 3) F (dAt dk_X2_nextOnTheWay 27 rfl) (by decide) ?_
        refine g_sub (lv' := [(0, .ref (ad (oLn J))), (1, .ref (ad (oLd x1))), (2, .int x2), (3, .int x3), (4, .int (v4 + 1))]) [2, 3, 4, 5, 0] rfl ?_
        exact ih3 ((v4 + 1), t3) h
      · refine g_iload F (dAt dk_X2_nextOnTheWay 13 rfl) 0 rfl ?_
        refine g_aload_n F (dAt dk_X2_nextOnTheWay 14 rfl) 1 rfl ?_
        refine g_iload F (dAt dk_X2_nextOnTheWay 15 rfl) 5 rfl ?_
        refine g_iload_n F (dAt dk_X2_nextOnTheWay 16 rfl) 4 rfl ?_
        refine g_invV_ic F mi_X2_length (gm mw_600 rfl) (dAt dk_X2_nextOnTheWay 17 rfl) (rcx_of F (rc_Len J)) [.int v4, .int x3] rfl rfl (by decide) (Nat.le_of_ble_eq_true rfl) h (fun _ _ hf => c_X2_length hJ hf) (fun r5 t6 h => ?_)
        refine g_iadd F (dAt dk_X2_nextOnTheWay 18 rfl) ?_
        refine g_aload_n F (dAt dk_X2_nextOnTheWay 19 rfl) 1 rfl ?_
        refine g_iload_n F (dAt dk_X2_nextOnTheWay 20 rfl) 3 rfl ?_
        refine g_iload_n F (dAt dk_X2_nextOnTheWay 21 rfl) 4 rfl ?_
        refine g_invV_ic F mi_X2_length (gm mw_600 rfl) (dAt dk_X2_nextOnTheWay 22 rfl) (rcx_of F (rc_Len J)) [.int x2, .int x3] rfl rfl (by decide) (Nat.le_of_ble_eq_true rfl) h (fun _ _ hf => c_X2_length hJ hf) (fun r7 t8 h => ?_)
        refine g_icmp_ne (tgt := 48) F (dAt dk_X2_nextOnTheWay 23 rfl) (by decide) h (fun c9 h => ?_) (fun c9 h => ?_)
        · refine g_iinc (lv' := [(4, .int (v4 + 1)), (5, .int r2), (0, .ref (ad (oLn J))), (1, .ref (ad (oLd x1))), (2, .int x2), (3, .int x3)]) F (dAt dk_X2_nextOnTheWay 26 rfl) 5 rfl (w := 1) (by decide) (by decide) rfl ?_
          refine g_goto (tgt := 3) F (dAt dk_X2_nextOnTheWay 27 rfl) (by decide) ?_
          refine g_sub (lv' := [(0, .ref (ad (oLn J))), (1, .ref (ad (oLd x1))), (2, .int x2), (3, .int x3), (4, .int (v4 + 1))]) [2, 3, 4, 5, 0] rfl ?_
          exact ih3 ((v4 + 1), t8) h
        · refine g_iload F (dAt dk_X2_nextOnTheWay 24 rfl) 5 rfl ?_
          cases h
          exact E (dAt dk_X2_nextOnTheWay 25 rfl) rfl
  refine g_lv (lv' := [(0, .ref (ad (oLn J))), (1, .ref (ad (oLd x1))), (2, .int x2), (3, .int x3)]) rfl ?_
  unfold f_X2_nextOnTheWay at h
  refine g_iconst (v := 0) F (dAt dk_X2_nextOnTheWay 0 rfl) (by decide) ?_
  refine g_istore (lv' := [(4, .int 0), (0, .ref (ad (oLn J))), (1, .ref (ad (oLd x1))), (2, .int x2), (3, .int x3)]) F (dAt dk_X2_nextOnTheWay 1 rfl) (by decide) rfl ?_
  refine g_sub (lv' := [(0, .ref (ad (oLn J))), (1, .ref (ad (oLd x1))), (2, .int x2), (3, .int x3), (4, .int 0)]) [1, 2, 3, 4, 0] rfl ?_
  exact H3  n (0, t) h
theorem mi_X2_reach : MI yX2_reach cX2_reach 5 (some .int) "MillOfDistances$Lengths" 2 := ⟨(gm mw_620 rfl), (gm mw_618 rfl), (gm mw_619 rfl), (gm mw_71 rfl), by decide +kernel, by decide⟩
theorem c_X2_reach {l : Launch} {D : va_G} {ad : Nat → Nat} {g : Gv} {t u : Mem} {n : Nat} {J : Fin 2} {x1 : Int32} {x2 : Int32} {t' : Mem} {r : Int32} (hJ : Jad ad) (h : f_X2_reach n J x1 x2 t = some (r, t')) : ConI l yX2_reach cX2_reach 5 (some .int) 2 [.ref (ad (oLn J)), .int x1, .int x2] D ad g t u t' u r := by
  refine con_i hJ (by decide) (Nat.le_of_ble_eq_true rfl) rfl (fun X F E => ?_)
  have H5 : ∀ (k : Nat) (s : Int32 × Int32 × Mem), iter (bd_X2_reach_5 n J x1 x2) k s = some (r, t') → G X D ad g s.2.2 u [(0, .ref (ad (oLn J))), (1, .int x1), (2, .int x2), (3, .int s.1), (4, .int s.2.1)] 5 [] := by
    refine iter_walk (P := fun (s : Int32 × Int32 × Mem) => G X D ad g s.2.2 u [(0, .ref (ad (oLn J))), (1, .int x1), (2, .int x2), (3, .int s.1), (4, .int s.2.1)] 5 []) (fun self5 ih5 s h => ?_)
    obtain ⟨v3, v4, t0⟩ := s
    change G X D ad g t0 u [(0, .ref (ad (oLn J))), (1, .int x1), (2, .int x2), (3, .int v3), (4, .int v4)] 5 []
    unfold bd_X2_reach_5 at h; try dsimp only at h
    refine g_iload F (dAt dk_X2_reach 4 rfl) 4 rfl ?_
    refine g_aload_n F (dAt dk_X2_reach 5 rfl) 0 rfl ?_
    refine gg_Len_count J F (gm mw_137 rfl) (dAt dk_X2_reach 6 rfl) ?_
    refine g_icmp_ge (tgt := 38) F (dAt dk_X2_reach 7 rfl) (by decide) h (fun c1 h => ?_) (fun c1 h => ?_)
    · refine g_iload_n F (dAt dk_X2_reach 22 rfl) 3 rfl ?_
      cases h
      exact E (dAt dk_X2_reach 23 rfl) rfl
    · refine g_aload_n F (dAt dk_X2_reach 8 rfl) 0 rfl ?_
      refine g_iload_n F (dAt dk_X2_reach 9 rfl) 1 rfl ?_
      refine g_iload F (dAt dk_X2_reach 10 rfl) 4 rfl ?_
      refine g_invV_ic F mi_X2_length (gm mw_600 rfl) (dAt dk_X2_reach 11 rfl) (rcx_of F (rc_Len J)) [.int x1, .int v4] rfl rfl (by decide) (Nat.le_of_ble_eq_true rfl) h (fun _ _ hf => c_X2_length hJ hf) (fun r2 t3 h => ?_)
      refine g_iload_n F (dAt dk_X2_reach 12 rfl) 2 rfl ?_
      refine g_icmp_gt (tgt := 32) F (dAt dk_X2_reach 13 rfl) (by decide) h (fun c4 h => ?_) (fun c4 h => ?_)
      · refine g_iinc (lv' := [(4, .int (v4 + 1)), (0, .ref (ad (oLn J))), (1, .int x1), (2, .int x2), (3, .int v3)]) F (dAt dk_X2_reach 20 rfl) 4 rfl (w := 1) (by decide) (by decide) rfl ?_
        refine g_goto (tgt := 5) F (dAt dk_X2_reach 21 rfl) (by decide) ?_
        refine g_sub (lv' := [(0, .ref (ad (oLn J))), (1, .int x1), (2, .int x2), (3, .int v3), (4, .int (v4 + 1))]) [1, 2, 3, 4, 0] rfl ?_
        exact ih5 (v3, (v4 + 1), t3) h
      · refine g_iload_n F (dAt dk_X2_reach 14 rfl) 3 rfl ?_
        refine g_iconst (v := 1) F (dAt dk_X2_reach 15 rfl) (by decide) ?_
        refine g_iload F (dAt dk_X2_reach 16 rfl) 4 rfl ?_
        refine g_ishl F (dAt dk_X2_reach 17 rfl) ?_
        refine g_ior F (dAt dk_X2_reach 18 rfl) ?_
        refine g_lti h (fun y5 h => ?_)
        refine g_istore_n (lv' := [(3, .int y5), (0, .ref (ad (oLn J))), (1, .int x1), (2, .int x2), (4, .int v4)]) F (dAt dk_X2_reach 19 rfl) (by decide) rfl ?_
        refine g_iinc (lv' := [(4, .int (v4 + 1)), (3, .int y5), (0, .ref (ad (oLn J))), (1, .int x1), (2, .int x2)]) F (dAt dk_X2_reach 20 rfl) 4 rfl (w := 1) (by decide) (by decide) rfl ?_
        refine g_goto (tgt := 5) F (dAt dk_X2_reach 21 rfl) (by decide) ?_
        refine g_sub (lv' := [(0, .ref (ad (oLn J))), (1, .int x1), (2, .int x2), (3, .int y5), (4, .int (v4 + 1))]) [2, 3, 4, 1, 0] rfl ?_
        exact ih5 (y5, (v4 + 1), t3) h
  refine g_lv (lv' := [(0, .ref (ad (oLn J))), (1, .int x1), (2, .int x2)]) rfl ?_
  unfold f_X2_reach at h
  refine g_iconst (v := 0) F (dAt dk_X2_reach 0 rfl) (by decide) ?_
  refine g_istore_n (lv' := [(3, .int 0), (0, .ref (ad (oLn J))), (1, .int x1), (2, .int x2)]) F (dAt dk_X2_reach 1 rfl) (by decide) rfl ?_
  refine g_iconst (v := 0) F (dAt dk_X2_reach 2 rfl) (by decide) ?_
  refine g_istore (lv' := [(4, .int 0), (3, .int 0), (0, .ref (ad (oLn J))), (1, .int x1), (2, .int x2)]) F (dAt dk_X2_reach 3 rfl) (by decide) rfl ?_
  refine g_sub (lv' := [(0, .ref (ad (oLn J))), (1, .int x1), (2, .int x2), (3, .int 0), (4, .int 0)]) [2, 3, 4, 1, 0] rfl ?_
  exact H5  n (0, 0, t) h
theorem mi_X2_total : MI yX2_total cX2_total 4 (some .int) "MillOfDistances$Lengths" 0 := ⟨(gm mw_659 rfl), (gm mw_657 rfl), (gm mw_658 rfl), (gm mw_71 rfl), by decide +kernel, by decide⟩
theorem c_X2_total {l : Launch} {D : va_G} {ad : Nat → Nat} {g : Gv} {t u : Mem} {n : Nat} {J : Fin 2} {t' : Mem} {r : Int32} (hJ : Jad ad) (h : f_X2_total n J t = some (r, t')) : ConI l yX2_total cX2_total 4 (some .int) 2 [.ref (ad (oLn J))] D ad g t u t' u r := by
  refine con_i hJ (by decide) (Nat.le_of_ble_eq_true rfl) rfl (fun X F E => ?_)
  have H16 : ∀ (self4 : Int32 × Int32 × Mem → Option (Int32 × Mem)), (∀ s, self4 s = some (r, t') → G X D ad g s.2.2 u [(0, .ref (ad (oLn J))), (1, .int s.1), (2, .int s.2.1)] 4 []) → ∀ (k : Nat) (s : Int32 × Int32 × Int32 × Mem), iter (bd_X2_total_16 n J self4) k s = some (r, t') → G X D ad g s.2.2.2 u [(0, .ref (ad (oLn J))), (1, .int s.1), (2, .int s.2.1), (3, .int s.2.2.1)] 16 [] := by
    intro self4 ih4
    refine iter_walk (P := fun (s : Int32 × Int32 × Int32 × Mem) => G X D ad g s.2.2.2 u [(0, .ref (ad (oLn J))), (1, .int s.1), (2, .int s.2.1), (3, .int s.2.2.1)] 16 []) (fun self16 ih16 s h => ?_)
    obtain ⟨v1, v2, v3, t0⟩ := s
    change G X D ad g t0 u [(0, .ref (ad (oLn J))), (1, .int v1), (2, .int v2), (3, .int v3)] 16 []
    unfold bd_X2_total_16 at h; try dsimp only at h
    refine g_iload_n F (dAt dk_X2_total 12 rfl) 3 rfl ?_
    refine g_aload_n F (dAt dk_X2_total 13 rfl) 0 rfl ?_
    refine gg_Len_count J F (gm mw_137 rfl) (dAt dk_X2_total 14 rfl) ?_
    refine g_icmp_ge (tgt := 39) F (dAt dk_X2_total 15 rfl) (by decide) h (fun c2 h => ?_) (fun c2 h => ?_)
    · refine g_iinc (lv' := [(2, .int (v2 + 1)), (0, .ref (ad (oLn J))), (1, .int v1), (3, .int v3)]) F (dAt dk_X2_total 25 rfl) 2 rfl (w := 1) (by decide) (by decide) rfl ?_
      refine g_goto (tgt := 4) F (dAt dk_X2_total 26 rfl) (by decide) ?_
      refine g_sub (lv' := [(0, .ref (ad (oLn J))), (1, .int v1), (2, .int (v2 + 1))]) [1, 2, 0] rfl ?_
      exact ih4 (v1, (v2 + 1), t0) h
    · refine g_iload_n F (dAt dk_X2_total 16 rfl) 1 rfl ?_
      refine g_aload_n F (dAt dk_X2_total 17 rfl) 0 rfl ?_
      refine g_iload_n F (dAt dk_X2_total 18 rfl) 2 rfl ?_
      refine g_iload_n F (dAt dk_X2_total 19 rfl) 3 rfl ?_
      refine g_invV_ic F mi_X2_length (gm mw_600 rfl) (dAt dk_X2_total 20 rfl) (rcx_of F (rc_Len J)) [.int v2, .int v3] rfl rfl (by decide) (Nat.le_of_ble_eq_true rfl) h (fun _ _ hf => c_X2_length hJ hf) (fun r3 t4 h => ?_)
      refine g_iadd F (dAt dk_X2_total 21 rfl) ?_
      refine g_istore_n (lv' := [(1, .int (v1 + r3)), (0, .ref (ad (oLn J))), (2, .int v2), (3, .int v3)]) F (dAt dk_X2_total 22 rfl) (by decide) rfl ?_
      refine g_iinc (lv' := [(3, .int (v3 + 1)), (1, .int (v1 + r3)), (0, .ref (ad (oLn J))), (2, .int v2)]) F (dAt dk_X2_total 23 rfl) 3 rfl (w := 1) (by decide) (by decide) rfl ?_
      refine g_goto (tgt := 16) F (dAt dk_X2_total 24 rfl) (by decide) ?_
      refine g_sub (lv' := [(0, .ref (ad (oLn J))), (1, .int (v1 + r3)), (2, .int v2), (3, .int (v3 + 1))]) [2, 1, 3, 0] rfl ?_
      exact ih16 ((v1 + r3), v2, (v3 + 1), t4) h
  have H4 : ∀ (k : Nat) (s : Int32 × Int32 × Mem), iter (bd_X2_total_4 n J) k s = some (r, t') → G X D ad g s.2.2 u [(0, .ref (ad (oLn J))), (1, .int s.1), (2, .int s.2.1)] 4 [] := by
    refine iter_walk (P := fun (s : Int32 × Int32 × Mem) => G X D ad g s.2.2 u [(0, .ref (ad (oLn J))), (1, .int s.1), (2, .int s.2.1)] 4 []) (fun self4 ih4 s h => ?_)
    obtain ⟨v1, v2, t0⟩ := s
    change G X D ad g t0 u [(0, .ref (ad (oLn J))), (1, .int v1), (2, .int v2)] 4 []
    unfold bd_X2_total_4 at h; try dsimp only at h
    refine g_iload_n F (dAt dk_X2_total 4 rfl) 2 rfl ?_
    refine g_aload_n F (dAt dk_X2_total 5 rfl) 0 rfl ?_
    refine gg_Len_count J F (gm mw_137 rfl) (dAt dk_X2_total 6 rfl) ?_
    refine g_icmp_ge (tgt := 45) F (dAt dk_X2_total 7 rfl) (by decide) h (fun c1 h => ?_) (fun c1 h => ?_)
    · refine g_iload_n F (dAt dk_X2_total 27 rfl) 1 rfl ?_
      cases h
      exact E (dAt dk_X2_total 28 rfl) rfl
    · refine g_iload_n F (dAt dk_X2_total 8 rfl) 2 rfl ?_
      refine g_iconst (v := 1) F (dAt dk_X2_total 9 rfl) (by decide) ?_
      refine g_iadd F (dAt dk_X2_total 10 rfl) ?_
      refine g_istore_n (lv' := [(3, .int (v2 + 1)), (0, .ref (ad (oLn J))), (1, .int v1), (2, .int v2)]) F (dAt dk_X2_total 11 rfl) (by decide) rfl ?_
      refine g_sub (lv' := [(0, .ref (ad (oLn J))), (1, .int v1), (2, .int v2), (3, .int (v2 + 1))]) [1, 2, 3, 0] rfl ?_
      exact H16 self4 ih4 n (v1, v2, (v2 + 1), t0) h
  refine g_lv (lv' := [(0, .ref (ad (oLn J)))]) rfl ?_
  unfold f_X2_total at h
  refine g_iconst (v := 0) F (dAt dk_X2_total 0 rfl) (by decide) ?_
  refine g_istore_n (lv' := [(1, .int 0), (0, .ref (ad (oLn J)))]) F (dAt dk_X2_total 1 rfl) (by decide) rfl ?_
  refine g_iconst (v := 0) F (dAt dk_X2_total 2 rfl) (by decide) ?_
  refine g_istore_n (lv' := [(2, .int 0), (1, .int 0), (0, .ref (ad (oLn J)))]) F (dAt dk_X2_total 3 rfl) (by decide) rfl ?_
  refine g_sub (lv' := [(0, .ref (ad (oLn J))), (1, .int 0), (2, .int 0)]) [2, 1, 0] rfl ?_
  exact H4  n (0, 0, t) h
theorem mi_X2_parts : MI yX2_parts cX2_parts 4 (some .int) "MillOfDistances$Lengths" 0 := ⟨(gm mw_636 rfl), (gm mw_634 rfl), (gm mw_635 rfl), (gm mw_71 rfl), by decide +kernel, by decide⟩
theorem c_X2_parts {l : Launch} {D : va_G} {ad : Nat → Nat} {g : Gv} {t u : Mem} {n : Nat} {J : Fin 2} {t' : Mem} {r : Int32} (hJ : Jad ad) (h : f_X2_parts n J t = some (r, t')) : ConI l yX2_parts cX2_parts 4 (some .int) 3 [.ref (ad (oLn J))] D ad g t u t' u r := by
  refine con_i hJ (by decide) (Nat.le_of_ble_eq_true rfl) rfl (fun X F E => ?_)
  have H4 : ∀ (k : Nat) (s : Int32 × Int32 × Mem), iter (bd_X2_parts_4 n J) k s = some (r, t') → G X D ad g s.2.2 u [(0, .ref (ad (oLn J))), (1, .int s.1), (2, .int s.2.1)] 4 [] := by
    refine iter_walk (P := fun (s : Int32 × Int32 × Mem) => G X D ad g s.2.2 u [(0, .ref (ad (oLn J))), (1, .int s.1), (2, .int s.2.1)] 4 []) (fun self4 ih4 s h => ?_)
    obtain ⟨v1, v2, t0⟩ := s
    change G X D ad g t0 u [(0, .ref (ad (oLn J))), (1, .int v1), (2, .int v2)] 4 []
    unfold bd_X2_parts_4 at h; try dsimp only at h
    refine g_iload_n F (dAt dk_X2_parts 4 rfl) 2 rfl ?_
    refine g_aload_n F (dAt dk_X2_parts 5 rfl) 0 rfl ?_
    refine gg_Len_count J F (gm mw_137 rfl) (dAt dk_X2_parts 6 rfl) ?_
    refine g_icmp_ge (tgt := 40) F (dAt dk_X2_parts 7 rfl) (by decide) h (fun c1 h => ?_) (fun c1 h => ?_)
    · refine g_iload_n F (dAt dk_X2_parts 24 rfl) 1 rfl ?_
      cases h
      exact E (dAt dk_X2_parts 25 rfl) rfl
    · refine g_iconst (v := 1) F (dAt dk_X2_parts 8 rfl) (by decide) ?_
      refine g_iload_n F (dAt dk_X2_parts 9 rfl) 2 rfl ?_
      refine g_ishl F (dAt dk_X2_parts 10 rfl) ?_
      refine g_iconst (v := 1) F (dAt dk_X2_parts 11 rfl) (by decide) ?_
      refine g_isub F (dAt dk_X2_parts 12 rfl) ?_
      refine g_lti h (fun y2 h => ?_)
      refine g_istore_n (lv' := [(3, .int y2), (0, .ref (ad (oLn J))), (1, .int v1), (2, .int v2)]) F (dAt dk_X2_parts 13 rfl) (by decide) rfl ?_
      refine g_aload_n F (dAt dk_X2_parts 14 rfl) 1 rfl ?_
      refine g_iload_n F (dAt dk_X2_parts 15 rfl) 3 rfl ?_
      refine g_sipush (v := 9999) F (dAt dk_X2_parts 16 rfl) (by decide) ?_
      refine g_invV_ic F mi_X2_reach (gm mw_637 rfl) (dAt dk_X2_parts 17 rfl) (rcx_of F (rc_Len J)) [.int v2, .int 9999] rfl rfl (by decide) (Nat.le_of_ble_eq_true rfl) h (fun _ _ hf => c_X2_reach hJ hf) (fun r3 t4 h => ?_)
      refine g_iload_n F (dAt dk_X2_parts 18 rfl) 0 rfl ?_
      refine g_iand F (dAt dk_X2_parts 19 rfl) ?_
      refine g_if_ne (tgt := 34) F (dAt dk_X2_parts 20 rfl) (by decide) h (fun c5 h => ?_) (fun c5 h => ?_)
      · refine g_iinc (lv' := [(2, .int (v2 + 1)), (3, .int y2), (0, .ref (ad (oLn J))), (1, .int v1)]) F (dAt dk_X2_parts 22 rfl) 3 rfl (w := 1) (by decide) (by decide) rfl ?_
        refine g_goto (tgt := 4) F (dAt dk_X2_parts 23 rfl) (by decide) ?_
        refine g_sub (lv' := [(0, .ref (ad (oLn J))), (1, .int v1), (2, .int (v2 + 1))]) [2, 3, 0] rfl ?_
        exact ih4 (v1, (v2 + 1), t4) h
      · refine g_iinc (lv' := [(1, .int (v1 + 1)), (3, .int y2), (0, .ref (ad (oLn J))), (2, .int v2)]) F (dAt dk_X2_parts 21 rfl) 2 rfl (w := 1) (by decide) (by decide) rfl ?_
        refine g_iinc (lv' := [(2, .int (v2 + 1)), (1, .int (v1 + 1)), (3, .int y2), (0, .ref (ad (oLn J)))]) F (dAt dk_X2_parts 22 rfl) 3 rfl (w := 1) (by decide) (by decide) rfl ?_
        refine g_goto (tgt := 4) F (dAt dk_X2_parts 23 rfl) (by decide) ?_
        refine g_sub (lv' := [(0, .ref (ad (oLn J))), (1, .int (v1 + 1)), (2, .int (v2 + 1))]) [3, 1, 0] rfl ?_
        exact ih4 ((v1 + 1), (v2 + 1), t4) h
  refine g_lv (lv' := [(0, .ref (ad (oLn J)))]) rfl ?_
  unfold f_X2_parts at h
  refine g_iconst (v := 0) F (dAt dk_X2_parts 0 rfl) (by decide) ?_
  refine g_istore_n (lv' := [(1, .int 0), (0, .ref (ad (oLn J)))]) F (dAt dk_X2_parts 1 rfl) (by decide) rfl ?_
  refine g_iconst (v := 0) F (dAt dk_X2_parts 2 rfl) (by decide) ?_
  refine g_istore_n (lv' := [(2, .int 0), (1, .int 0), (0, .ref (ad (oLn J)))]) F (dAt dk_X2_parts 3 rfl) (by decide) rfl ?_
  refine g_sub (lv' := [(0, .ref (ad (oLn J))), (1, .int 0), (2, .int 0)]) [2, 1, 0] rfl ?_
  exact H4  n (0, 0, t) h
theorem mi_X2_middle : MI yX2_middle cX2_middle 6 (some .int) "MillOfDistances$Lengths" 0 := ⟨(gm mw_641 rfl), (gm mw_639 rfl), (gm mw_640 rfl), (gm mw_71 rfl), by decide +kernel, by decide⟩
theorem c_X2_middle {l : Launch} {D : va_G} {ad : Nat → Nat} {g : Gv} {t u : Mem} {n : Nat} {J : Fin 2} {t' : Mem} {r : Int32} (hJ : Jad ad) (h : f_X2_middle n J t = some (r, t')) : ConI l yX2_middle cX2_middle 6 (some .int) 2 [.ref (ad (oLn J))] D ad g t u t' u r := by
  refine con_i hJ (by decide) (Nat.le_of_ble_eq_true rfl) rfl (fun X F E => ?_)
  have H20 : ∀ (self6 : Int32 × Int32 × Int32 × Mem → Option (Int32 × Mem)), (∀ s, self6 s = some (r, t') → G X D ad g s.2.2.2 u [(0, .ref (ad (oLn J))), (1, .int s.1), (2, .int s.2.1), (3, .int s.2.2.1)] 6 []) → ∀ (k : Nat) (s : Int32 × Int32 × Int32 × Int32 × Int32 × Mem), iter (bd_X2_middle_20 n J self6) k s = some (r, t') → G X D ad g s.2.2.2.2.2 u [(0, .ref (ad (oLn J))), (1, .int s.1), (2, .int s.2.1), (3, .int s.2.2.1), (4, .int s.2.2.2.1), (5, .int s.2.2.2.2.1)] 20 [] := by
    intro self6 ih6
    refine iter_walk (P := fun (s : Int32 × Int32 × Int32 × Int32 × Int32 × Mem) => G X D ad g s.2.2.2.2.2 u [(0, .ref (ad (oLn J))), (1, .int s.1), (2, .int s.2.1), (3, .int s.2.2.1), (4, .int s.2.2.2.1), (5, .int s.2.2.2.2.1)] 20 []) (fun self20 ih20 s h => ?_)
    obtain ⟨v1, v2, v3, v4, v5, t0⟩ := s
    change G X D ad g t0 u [(0, .ref (ad (oLn J))), (1, .int v1), (2, .int v2), (3, .int v3), (4, .int v4), (5, .int v5)] 20 []
    unfold bd_X2_middle_20 at h; try dsimp only at h
    refine g_iload F (dAt dk_X2_middle 14 rfl) 5 rfl ?_
    refine g_aload_n F (dAt dk_X2_middle 15 rfl) 0 rfl ?_
    refine gg_Len_count J F (gm mw_137 rfl) (dAt dk_X2_middle 16 rfl) ?_
    refine g_icmp_ge (tgt := 49) F (dAt dk_X2_middle 17 rfl) (by decide) h (fun c2 h => ?_) (fun c2 h => ?_)
    · refine g_iload_n F (dAt dk_X2_middle 27 rfl) 1 rfl ?_
      refine g_iconst (v := (-1)) F (dAt dk_X2_middle 28 rfl) (by decide) ?_
      refine g_icmp_eq (tgt := 60) F (dAt dk_X2_middle 29 rfl) (by decide) h (fun c3 h => ?_) (fun c3 h => ?_)
      · refine g_iload_n F (dAt dk_X2_middle 33 rfl) 3 rfl ?_
        refine g_istore_n (lv' := [(1, .int v3), (0, .ref (ad (oLn J))), (2, .int v2), (3, .int v3), (4, .int v4), (5, .int v5)]) F (dAt dk_X2_middle 34 rfl) (by decide) rfl ?_
        refine g_iload F (dAt dk_X2_middle 35 rfl) 4 rfl ?_
        refine g_istore_n (lv' := [(2, .int v4), (1, .int v3), (0, .ref (ad (oLn J))), (3, .int v3), (4, .int v4), (5, .int v5)]) F (dAt dk_X2_middle 36 rfl) (by decide) rfl ?_
        refine g_iinc (lv' := [(3, .int (v3 + 1)), (2, .int v4), (1, .int v3), (0, .ref (ad (oLn J))), (4, .int v4), (5, .int v5)]) F (dAt dk_X2_middle 37 rfl) 3 rfl (w := 1) (by decide) (by decide) rfl ?_
        refine g_goto (tgt := 6) F (dAt dk_X2_middle 38 rfl) (by decide) ?_
        refine g_sub (lv' := [(0, .ref (ad (oLn J))), (1, .int v3), (2, .int v4), (3, .int (v3 + 1))]) [3, 2, 1, 0] rfl ?_
        exact ih6 (v3, v4, (v3 + 1), t0) h
      · refine g_iload F (dAt dk_X2_middle 30 rfl) 4 rfl ?_
        refine g_iload_n F (dAt dk_X2_middle 31 rfl) 2 rfl ?_
        refine g_icmp_ge (tgt := 65) F (dAt dk_X2_middle 32 rfl) (by decide) h (fun c4 h => ?_) (fun c4 h => ?_)
        · refine g_iinc (lv' := [(3, .int (v3 + 1)), (0, .ref (ad (oLn J))), (1, .int v1), (2, .int v2), (4, .int v4), (5, .int v5)]) F (dAt dk_X2_middle 37 rfl) 3 rfl (w := 1) (by decide) (by decide) rfl ?_
          refine g_goto (tgt := 6) F (dAt dk_X2_middle 38 rfl) (by decide) ?_
          refine g_sub (lv' := [(0, .ref (ad (oLn J))), (1, .int v1), (2, .int v2), (3, .int (v3 + 1))]) [1, 2, 3, 0] rfl ?_
          exact ih6 (v1, v2, (v3 + 1), t0) h
        · refine g_iload_n F (dAt dk_X2_middle 33 rfl) 3 rfl ?_
          refine g_istore_n (lv' := [(1, .int v3), (0, .ref (ad (oLn J))), (2, .int v2), (3, .int v3), (4, .int v4), (5, .int v5)]) F (dAt dk_X2_middle 34 rfl) (by decide) rfl ?_
          refine g_iload F (dAt dk_X2_middle 35 rfl) 4 rfl ?_
          refine g_istore_n (lv' := [(2, .int v4), (1, .int v3), (0, .ref (ad (oLn J))), (3, .int v3), (4, .int v4), (5, .int v5)]) F (dAt dk_X2_middle 36 rfl) (by decide) rfl ?_
          refine g_iinc (lv' := [(3, .int (v3 + 1)), (2, .int v4), (1, .int v3), (0, .ref (ad (oLn J))), (4, .int v4), (5, .int v5)]) F (dAt dk_X2_middle 37 rfl) 3 rfl (w := 1) (by decide) (by decide) rfl ?_
          refine g_goto (tgt := 6) F (dAt dk_X2_middle 38 rfl) (by decide) ?_
          refine g_sub (lv' := [(0, .ref (ad (oLn J))), (1, .int v3), (2, .int v4), (3, .int (v3 + 1))]) [3, 2, 1, 0] rfl ?_
          exact ih6 (v3, v4, (v3 + 1), t0) h
    · refine g_iload F (dAt dk_X2_middle 18 rfl) 4 rfl ?_
      refine g_aload_n F (dAt dk_X2_middle 19 rfl) 0 rfl ?_
      refine g_iload_n F (dAt dk_X2_middle 20 rfl) 3 rfl ?_
      refine g_iload F (dAt dk_X2_middle 21 rfl) 5 rfl ?_
      refine g_invV_ic F mi_X2_length (gm mw_600 rfl) (dAt dk_X2_middle 22 rfl) (rcx_of F (rc_Len J)) [.int v3, .int v5] rfl rfl (by decide) (Nat.le_of_ble_eq_true rfl) h (fun _ _ hf => c_X2_length hJ hf) (fun r5 t6 h => ?_)
      refine g_mmax F (gm mw_642 rfl) (dAt dk_X2_middle 23 rfl) (by decide) (Nat.le_of_ble_eq_true rfl) h (fun r7 h => ?_)
      refine g_istore (lv' := [(4, .int r7), (0, .ref (ad (oLn J))), (1, .int v1), (2, .int v2), (3, .int v3), (5, .int v5)]) F (dAt dk_X2_middle 24 rfl) (by decide) rfl ?_
      refine g_iinc (lv' := [(5, .int (v5 + 1)), (4, .int r7), (0, .ref (ad (oLn J))), (1, .int v1), (2, .int v2), (3, .int v3)]) F (dAt dk_X2_middle 25 rfl) 5 rfl (w := 1) (by decide) (by decide) rfl ?_
      refine g_goto (tgt := 20) F (dAt dk_X2_middle 26 rfl) (by decide) ?_
      refine g_sub (lv' := [(0, .ref (ad (oLn J))), (1, .int v1), (2, .int v2), (3, .int v3), (4, .int r7), (5, .int (v5 + 1))]) [2, 3, 4, 5, 1, 0] rfl ?_
      exact ih20 (v1, v2, v3, r7, (v5 + 1), t6) h
  have H6 : ∀ (k : Nat) (s : Int32 × Int32 × Int32 × Mem), iter (bd_X2_middle_6 n J) k s = some (r, t') → G X D ad g s.2.2.2 u [(0, .ref (ad (oLn J))), (1, .int s.1), (2, .int s.2.1), (3, .int s.2.2.1)] 6 [] := by
    refine iter_walk (P := fun (s : Int32 × Int32 × Int32 × Mem) => G X D ad g s.2.2.2 u [(0, .ref (ad (oLn J))), (1, .int s.1), (2, .int s.2.1), (3, .int s.2.2.1)] 6 []) (fun self6 ih6 s h => ?_)
    obtain ⟨v1, v2, v3, t0⟩ := s
    change G X D ad g t0 u [(0, .ref (ad (oLn J))), (1, .int v1), (2, .int v2), (3, .int v3)] 6 []
    unfold bd_X2_middle_6 at h; try dsimp only at h
    refine g_iload_n F (dAt dk_X2_middle 6 rfl) 3 rfl ?_
    refine g_aload_n F (dAt dk_X2_middle 7 rfl) 0 rfl ?_
    refine gg_Len_count J F (gm mw_137 rfl) (dAt dk_X2_middle 8 rfl) ?_
    refine g_icmp_ge (tgt := 71) F (dAt dk_X2_middle 9 rfl) (by decide) h (fun c1 h => ?_) (fun c1 h => ?_)
    · refine g_iload_n F (dAt dk_X2_middle 39 rfl) 1 rfl ?_
      cases h
      exact E (dAt dk_X2_middle 40 rfl) rfl
    · refine g_iconst (v := 0) F (dAt dk_X2_middle 10 rfl) (by decide) ?_
      refine g_istore (lv' := [(4, .int 0), (0, .ref (ad (oLn J))), (1, .int v1), (2, .int v2), (3, .int v3)]) F (dAt dk_X2_middle 11 rfl) (by decide) rfl ?_
      refine g_iconst (v := 0) F (dAt dk_X2_middle 12 rfl) (by decide) ?_
      refine g_istore (lv' := [(5, .int 0), (4, .int 0), (0, .ref (ad (oLn J))), (1, .int v1), (2, .int v2), (3, .int v3)]) F (dAt dk_X2_middle 13 rfl) (by decide) rfl ?_
      refine g_sub (lv' := [(0, .ref (ad (oLn J))), (1, .int v1), (2, .int v2), (3, .int v3), (4, .int 0), (5, .int 0)]) [2, 3, 4, 5, 1, 0] rfl ?_
      exact H20 self6 ih6 n (v1, v2, v3, 0, 0, t0) h
  refine g_lv (lv' := [(0, .ref (ad (oLn J)))]) rfl ?_
  unfold f_X2_middle at h
  refine g_iconst (v := (-1)) F (dAt dk_X2_middle 0 rfl) (by decide) ?_
  refine g_istore_n (lv' := [(1, .int (-1)), (0, .ref (ad (oLn J)))]) F (dAt dk_X2_middle 1 rfl) (by decide) rfl ?_
  refine g_iconst (v := 0) F (dAt dk_X2_middle 2 rfl) (by decide) ?_
  refine g_istore_n (lv' := [(2, .int 0), (1, .int (-1)), (0, .ref (ad (oLn J)))]) F (dAt dk_X2_middle 3 rfl) (by decide) rfl ?_
  refine g_iconst (v := 0) F (dAt dk_X2_middle 4 rfl) (by decide) ?_
  refine g_istore_n (lv' := [(3, .int 0), (2, .int 0), (1, .int (-1)), (0, .ref (ad (oLn J)))]) F (dAt dk_X2_middle 5 rfl) (by decide) rfl ?_
  refine g_sub (lv' := [(0, .ref (ad (oLn J))), (1, .int (-1)), (2, .int 0), (3, .int 0)]) [3, 2, 1, 0] rfl ?_
  exact H6  n ((-1), 0, 0, t) h
theorem mi_X2_greatest : MI yX2_greatest cX2_greatest 4 (some .int) "MillOfDistances$Lengths" 0 := ⟨(gm mw_646 rfl), (gm mw_644 rfl), (gm mw_645 rfl), (gm mw_71 rfl), by decide +kernel, by decide⟩
theorem c_X2_greatest {l : Launch} {D : va_G} {ad : Nat → Nat} {g : Gv} {t u : Mem} {n : Nat} {J : Fin 2} {t' : Mem} {r : Int32} (hJ : Jad ad) (h : f_X2_greatest n J t = some (r, t')) : ConI l yX2_greatest cX2_greatest 4 (some .int) 4 [.ref (ad (oLn J))] D ad g t u t' u r := by
  refine con_i hJ (by decide) (Nat.le_of_ble_eq_true rfl) rfl (fun X F E => ?_)
  have H16 : ∀ (self4 : Int32 × Int32 × Mem → Option (Int32 × Mem)), (∀ s, self4 s = some (r, t') → G X D ad g s.2.2 u [(0, .ref (ad (oLn J))), (1, .int s.1), (2, .int s.2.1)] 4 []) → ∀ (k : Nat) (s : Int32 × Int32 × Int32 × Mem), iter (bd_X2_greatest_16 n J self4) k s = some (r, t') → G X D ad g s.2.2.2 u [(0, .ref (ad (oLn J))), (1, .int s.1), (2, .int s.2.1), (3, .int s.2.2.1)] 16 [] := by
    intro self4 ih4
    refine iter_walk (P := fun (s : Int32 × Int32 × Int32 × Mem) => G X D ad g s.2.2.2 u [(0, .ref (ad (oLn J))), (1, .int s.1), (2, .int s.2.1), (3, .int s.2.2.1)] 16 []) (fun self16 ih16 s h => ?_)
    obtain ⟨v1, v2, v3, t0⟩ := s
    change G X D ad g t0 u [(0, .ref (ad (oLn J))), (1, .int v1), (2, .int v2), (3, .int v3)] 16 []
    unfold bd_X2_greatest_16 at h; try dsimp only at h
    refine g_iload_n F (dAt dk_X2_greatest 12 rfl) 3 rfl ?_
    refine g_aload_n F (dAt dk_X2_greatest 13 rfl) 0 rfl ?_
    refine gg_Len_count J F (gm mw_137 rfl) (dAt dk_X2_greatest 14 rfl) ?_
    refine g_icmp_ge (tgt := 41) F (dAt dk_X2_greatest 15 rfl) (by decide) h (fun c2 h => ?_) (fun c2 h => ?_)
    · refine g_iinc (lv' := [(2, .int (v2 + 1)), (0, .ref (ad (oLn J))), (1, .int v1), (3, .int v3)]) F (dAt dk_X2_greatest 25 rfl) 2 rfl (w := 1) (by decide) (by decide) rfl ?_
      refine g_goto (tgt := 4) F (dAt dk_X2_greatest 26 rfl) (by decide) ?_
      refine g_sub (lv' := [(0, .ref (ad (oLn J))), (1, .int v1), (2, .int (v2 + 1))]) [1, 2, 0] rfl ?_
      exact ih4 (v1, (v2 + 1), t0) h
    · refine g_iload_n F (dAt dk_X2_greatest 16 rfl) 1 rfl ?_
      refine g_aload_n F (dAt dk_X2_greatest 17 rfl) 0 rfl ?_
      refine g_iload_n F (dAt dk_X2_greatest 18 rfl) 2 rfl ?_
      refine g_iload_n F (dAt dk_X2_greatest 19 rfl) 3 rfl ?_
      refine g_invV_ic F mi_X2_lengthOrNone (gm mw_647 rfl) (dAt dk_X2_greatest 20 rfl) (rcx_of F (rc_Len J)) [.int v2, .int v3] rfl rfl (by decide) (Nat.le_of_ble_eq_true rfl) h (fun _ _ hf => c_X2_lengthOrNone hJ hf) (fun r3 t4 h => ?_)
      refine g_mmax F (gm mw_642 rfl) (dAt dk_X2_greatest 21 rfl) (by decide) (Nat.le_of_ble_eq_true rfl) h (fun r5 h => ?_)
      refine g_istore_n (lv' := [(1, .int r5), (0, .ref (ad (oLn J))), (2, .int v2), (3, .int v3)]) F (dAt dk_X2_greatest 22 rfl) (by decide) rfl ?_
      refine g_iinc (lv' := [(3, .int (v3 + 1)), (1, .int r5), (0, .ref (ad (oLn J))), (2, .int v2)]) F (dAt dk_X2_greatest 23 rfl) 3 rfl (w := 1) (by decide) (by decide) rfl ?_
      refine g_goto (tgt := 16) F (dAt dk_X2_greatest 24 rfl) (by decide) ?_
      refine g_sub (lv' := [(0, .ref (ad (oLn J))), (1, .int r5), (2, .int v2), (3, .int (v3 + 1))]) [2, 1, 3, 0] rfl ?_
      exact ih16 (r5, v2, (v3 + 1), t4) h
  have H4 : ∀ (k : Nat) (s : Int32 × Int32 × Mem), iter (bd_X2_greatest_4 n J) k s = some (r, t') → G X D ad g s.2.2 u [(0, .ref (ad (oLn J))), (1, .int s.1), (2, .int s.2.1)] 4 [] := by
    refine iter_walk (P := fun (s : Int32 × Int32 × Mem) => G X D ad g s.2.2 u [(0, .ref (ad (oLn J))), (1, .int s.1), (2, .int s.2.1)] 4 []) (fun self4 ih4 s h => ?_)
    obtain ⟨v1, v2, t0⟩ := s
    change G X D ad g t0 u [(0, .ref (ad (oLn J))), (1, .int v1), (2, .int v2)] 4 []
    unfold bd_X2_greatest_4 at h; try dsimp only at h
    refine g_iload_n F (dAt dk_X2_greatest 4 rfl) 2 rfl ?_
    refine g_aload_n F (dAt dk_X2_greatest 5 rfl) 0 rfl ?_
    refine gg_Len_count J F (gm mw_137 rfl) (dAt dk_X2_greatest 6 rfl) ?_
    refine g_icmp_ge (tgt := 47) F (dAt dk_X2_greatest 7 rfl) (by decide) h (fun c1 h => ?_) (fun c1 h => ?_)
    · refine g_iload_n F (dAt dk_X2_greatest 27 rfl) 1 rfl ?_
      cases h
      exact E (dAt dk_X2_greatest 28 rfl) rfl
    · refine g_iload_n F (dAt dk_X2_greatest 8 rfl) 2 rfl ?_
      refine g_iconst (v := 1) F (dAt dk_X2_greatest 9 rfl) (by decide) ?_
      refine g_iadd F (dAt dk_X2_greatest 10 rfl) ?_
      refine g_istore_n (lv' := [(3, .int (v2 + 1)), (0, .ref (ad (oLn J))), (1, .int v1), (2, .int v2)]) F (dAt dk_X2_greatest 11 rfl) (by decide) rfl ?_
      refine g_sub (lv' := [(0, .ref (ad (oLn J))), (1, .int v1), (2, .int v2), (3, .int (v2 + 1))]) [1, 2, 3, 0] rfl ?_
      exact H16 self4 ih4 n (v1, v2, (v2 + 1), t0) h
  refine g_lv (lv' := [(0, .ref (ad (oLn J)))]) rfl ?_
  unfold f_X2_greatest at h
  refine g_iconst (v := 0) F (dAt dk_X2_greatest 0 rfl) (by decide) ?_
  refine g_istore_n (lv' := [(1, .int 0), (0, .ref (ad (oLn J)))]) F (dAt dk_X2_greatest 1 rfl) (by decide) rfl ?_
  refine g_iconst (v := 0) F (dAt dk_X2_greatest 2 rfl) (by decide) ?_
  refine g_istore_n (lv' := [(2, .int 0), (1, .int 0), (0, .ref (ad (oLn J)))]) F (dAt dk_X2_greatest 3 rfl) (by decide) rfl ?_
  refine g_sub (lv' := [(0, .ref (ad (oLn J))), (1, .int 0), (2, .int 0)]) [2, 1, 0] rfl ?_
  exact H4  n (0, 0, t) h
theorem ms_X3_wordOf : MS yX3_wordOf cX3_wordOf 1 (some (.object "java/lang/String")) 1 := ⟨(gm mw_428 rfl), (gm mw_427 rfl), (gm mw_72 rfl), by decide +kernel, by decide⟩
theorem c_X3_wordOf {l : Launch} {D : va_G} {ad : Nat → Nat} {g : Gv} {t u : Mem} {x0 : Int32} {r : Fin 9} (hJ : Jad ad) (h : f_X3_wordOf x0 = some r) : ConQ l yX3_wordOf cX3_wordOf 1 (some (.object "java/lang/String")) 0 [.int x0] D ad g t u t u (some (g.2.2.1 r.val)) := by
  refine con_q hJ (by decide) (Nat.le_of_ble_eq_true rfl) rfl (fun X F E => ?_)
  refine g_lv (lv' := [(0, .int x0)]) rfl ?_
  unfold f_X3_wordOf at h
  refine g_iload_n F (dAt dk_X3_wordOf 0 rfl) 0 rfl ?_
  refine g_case 0 h (fun c1 h => ?_) (fun c1 h => ?_)
  · refine g_tabIn (v := 0) (tgt := 40) (off := 39) F (dAt dk_X3_wordOf 1 rfl) c1 (by decide) (by decide) rfl (by decide) ?_
    refine g_ldcT0 F (dAt dk_X3_wordOf 2 rfl) ?_
    cases h
    exact E (dAt dk_X3_wordOf 3 rfl)
  · refine g_case 1 h (fun c2 h => ?_) (fun c2 h => ?_)
    · refine g_tabIn (v := 1) (tgt := 43) (off := 42) F (dAt dk_X3_wordOf 1 rfl) c2 (by decide) (by decide) rfl (by decide) ?_
      refine g_ldcT1 F (dAt dk_X3_wordOf 4 rfl) ?_
      cases h
      exact E (dAt dk_X3_wordOf 5 rfl)
    · refine g_case 2 h (fun c3 h => ?_) (fun c3 h => ?_)
      · refine g_tabIn (v := 2) (tgt := 46) (off := 45) F (dAt dk_X3_wordOf 1 rfl) c3 (by decide) (by decide) rfl (by decide) ?_
        refine g_ldcT2 F (dAt dk_X3_wordOf 6 rfl) ?_
        cases h
        exact E (dAt dk_X3_wordOf 7 rfl)
      · refine g_case 3 h (fun c4 h => ?_) (fun c4 h => ?_)
        · refine g_tabIn (v := 3) (tgt := 49) (off := 48) F (dAt dk_X3_wordOf 1 rfl) c4 (by decide) (by decide) rfl (by decide) ?_
          refine g_ldcT3 F (dAt dk_X3_wordOf 8 rfl) ?_
          cases h
          exact E (dAt dk_X3_wordOf 9 rfl)
        · refine g_case 4 h (fun c5 h => ?_) (fun c5 h => ?_)
          · refine g_tabIn (v := 4) (tgt := 52) (off := 51) F (dAt dk_X3_wordOf 1 rfl) c5 (by decide) (by decide) rfl (by decide) ?_
            refine g_ldcT4 F (dAt dk_X3_wordOf 10 rfl) ?_
            cases h
            exact E (dAt dk_X3_wordOf 11 rfl)
          · refine g_case 5 h (fun c6 h => ?_) (fun c6 h => ?_)
            · refine g_tabIn (v := 5) (tgt := 55) (off := 54) F (dAt dk_X3_wordOf 1 rfl) c6 (by decide) (by decide) rfl (by decide) ?_
              refine g_ldcT5 F (dAt dk_X3_wordOf 12 rfl) ?_
              cases h
              exact E (dAt dk_X3_wordOf 13 rfl)
            · have := lv_neT c1 (a := 0) (by decide)
              have := lv_neT c2 (a := 1) (by decide)
              have := lv_neT c3 (a := 2) (by decide)
              have := lv_neT c4 (a := 3) (by decide)
              have := lv_neT c5 (a := 4) (by decide)
              have := lv_neT c6 (a := 5) (by decide)
              refine g_tabOut (tgt := 58) F (dAt dk_X3_wordOf 1 rfl) (by omega) (by decide) ?_
              refine g_ldcT6 F (dAt dk_X3_wordOf 14 rfl) ?_
              cases h
              exact E (dAt dk_X3_wordOf 15 rfl)
theorem mi_J0_coder_7d493 : MI yJ0_coder_7d493 cJ0_coder_7d493 1 (some .byte) "java/lang/String" 0 := ⟨(gm mw_447 rfl), (gm mw_445 rfl), (gm mw_446 rfl), (gm mw_80 rfl), by decide +kernel, by decide⟩
theorem c_J0_coder_7d493 {l : Launch} {D : va_G} {ad : Nat → Nat} {g : Gv} {t u : Mem} {i0 : Fin 9} {r : Int32} (hJ : Jad ad) (h : f_J0_coder_7d493 i0 = some r) : ConI l yJ0_coder_7d493 cJ0_coder_7d493 1 (some .byte) 0 [.ref (g.2.2.1 (i0).val)] D ad g t u t u r := by
  refine con_i hJ (by decide) (Nat.le_of_ble_eq_true rfl) rfl (fun X F E => ?_)
  refine g_lv (lv' := [(0, .ref (g.2.2.1 (i0).val))]) rfl ?_
  unfold f_J0_coder_7d493 at h
  refine g_getsC F (gm mw_448 rfl) (dAt dk_J0_coder_7d493 0 rfl) ?_
  refine g_if_eq (tgt := 13) F (dAt dk_J0_coder_7d493 1 rfl) (by decide) h (fun c1 h => ?_) (fun c1 h => ?_)
  · refine g_iconst (v := 1) F (dAt dk_J0_coder_7d493 5 rfl) (by decide) ?_
    cases h
    exact E (dAt dk_J0_coder_7d493 6 rfl) rfl
  · refine g_aload_n F (dAt dk_J0_coder_7d493 2 rfl) 0 rfl ?_
    refine g_strc F (gm mw_1301 rfl) (dAt dk_J0_coder_7d493 3 rfl) ?_
    refine g_goto (tgt := 14) F (dAt dk_J0_coder_7d493 4 rfl) (by decide) ?_
    cases h
    exact E (dAt dk_J0_coder_7d493 6 rfl) rfl
theorem mi_J0_length_8abf5 : MI yJ0_length_8abf5 cJ0_length_8abf5 1 (some .int) "java/lang/String" 0 := ⟨(gm mw_443 rfl), (gm mw_441 rfl), (gm mw_442 rfl), (gm mw_80 rfl), by decide +kernel, by decide⟩
theorem c_J0_length_8abf5 {l : Launch} {D : va_G} {ad : Nat → Nat} {g : Gv} {t u : Mem} {i0 : Fin 9} {r : Int32} (hJ : Jad ad) (h : f_J0_length_8abf5 i0 = some r) : ConI l yJ0_length_8abf5 cJ0_length_8abf5 1 (some .int) 1 [.ref (g.2.2.1 (i0).val)] D ad g t u t u r := by
  refine con_i hJ (by decide) (Nat.le_of_ble_eq_true rfl) rfl (fun X F E => ?_)
  refine g_lv (lv' := [(0, .ref (g.2.2.1 (i0).val))]) rfl ?_
  unfold f_J0_length_8abf5 at h
  refine g_aload_n F (dAt dk_J0_length_8abf5 0 rfl) 0 rfl ?_
  refine g_strv F (gm mw_1300 rfl) (dAt dk_J0_length_8abf5 1 rfl) ?_
  refine g_alenB F (dAt dk_J0_length_8abf5 2 rfl) ?_
  refine g_aload_n F (dAt dk_J0_length_8abf5 3 rfl) 0 rfl ?_
  refine g_invV_ip F mi_J0_coder_7d493 (gm mw_444 rfl) (dAt dk_J0_length_8abf5 4 rfl) (rcx_str F i0) [] rfl rfl (by decide) (Nat.le_of_ble_eq_true rfl) h (fun _ hf => c_J0_coder_7d493 hJ hf) (fun r1 h => ?_)
  refine g_ishr F (dAt dk_J0_length_8abf5 5 rfl) ?_
  cases h
  exact E (dAt dk_J0_length_8abf5 6 rfl) rfl
theorem mi_J0_isLatin1_aae02 : MI yJ0_isLatin1_aae02 cJ0_isLatin1_aae02 1 (some .boolean) "java/lang/String" 0 := ⟨(gm mw_461 rfl), (gm mw_459 rfl), (gm mw_460 rfl), (gm mw_80 rfl), by decide +kernel, by decide⟩
theorem c_J0_isLatin1_aae02 {l : Launch} {D : va_G} {ad : Nat → Nat} {g : Gv} {t u : Mem} {i0 : Fin 9} {r : Int32} (hJ : Jad ad) (h : f_J0_isLatin1_aae02 i0 = some r) : ConI l yJ0_isLatin1_aae02 cJ0_isLatin1_aae02 1 (some .boolean) 0 [.ref (g.2.2.1 (i0).val)] D ad g t u t u r := by
  refine con_i hJ (by decide) (Nat.le_of_ble_eq_true rfl) rfl (fun X F E => ?_)
  refine g_lv (lv' := [(0, .ref (g.2.2.1 (i0).val))]) rfl ?_
  unfold f_J0_isLatin1_aae02 at h
  refine g_getsC F (gm mw_448 rfl) (dAt dk_J0_isLatin1_aae02 0 rfl) ?_
  refine g_if_eq (tgt := 17) F (dAt dk_J0_isLatin1_aae02 1 rfl) (by decide) h (fun c1 h => ?_) (fun c1 h => ?_)
  · refine g_iconst (v := 0) F (dAt dk_J0_isLatin1_aae02 7 rfl) (by decide) ?_
    cases h
    exact E (dAt dk_J0_isLatin1_aae02 8 rfl) rfl
  · refine g_aload_n F (dAt dk_J0_isLatin1_aae02 2 rfl) 0 rfl ?_
    refine g_strc F (gm mw_1301 rfl) (dAt dk_J0_isLatin1_aae02 3 rfl) ?_
    refine g_if_ne (tgt := 17) F (dAt dk_J0_isLatin1_aae02 4 rfl) (by decide) h (fun c2 h => ?_) (fun c2 h => ?_)
    · refine g_iconst (v := 0) F (dAt dk_J0_isLatin1_aae02 7 rfl) (by decide) ?_
      cases h
      exact E (dAt dk_J0_isLatin1_aae02 8 rfl) rfl
    · refine g_iconst (v := 1) F (dAt dk_J0_isLatin1_aae02 5 rfl) (by decide) ?_
      refine g_goto (tgt := 18) F (dAt dk_J0_isLatin1_aae02 6 rfl) (by decide) ?_
      cases h
      exact E (dAt dk_J0_isLatin1_aae02 8 rfl) rfl
theorem ms_J3_checkIndex_8e157 : MS yJ3_checkIndex_8e157 cJ3_checkIndex_8e157 3 (some .int) 3 := ⟨(gm mw_472 rfl), (gm mw_471 rfl), (gm mw_82 rfl), by decide +kernel, by decide⟩
theorem c_J3_checkIndex_8e157 {l : Launch} {D : va_G} {ad : Nat → Nat} {g : Gv} {t u : Mem} {x0 : Int32} {x1 : Int32} {x2 : Option Nat} {r : Int32} (hJ : Jad ad) (h : f_J3_checkIndex_8e157 x0 x1 = some r) : ConI l yJ3_checkIndex_8e157 cJ3_checkIndex_8e157 3 (some .int) 0 [.int x0, .int x1, va_rf x2] D ad g t u t u r := by
  refine con_i hJ (by decide) (by cases x2 <;> exact Nat.le_of_ble_eq_true rfl) rfl (fun X F E => ?_)
  have J9 : jn_J3_checkIndex_8e157_9 x0 x1 = some r → G X D ad g t u [(0, .int x0), (1, .int x1), (2, va_rf x2)] 9 [] := by
    intro h
    unfold jn_J3_checkIndex_8e157_9 at h
    cases h
  refine g_lv (lv' := [(0, .int x0), (1, .int x1), (2, va_rf x2)]) (by cases x2 <;> rfl) ?_
  unfold f_J3_checkIndex_8e157 at h
  refine g_iload_n F (dAt dk_J3_checkIndex_8e157 0 rfl) 0 rfl ?_
  refine g_if_lt (tgt := 9) F (dAt dk_J3_checkIndex_8e157 1 rfl) (by decide) h (fun c1 h => ?_) (fun c1 h => ?_)
  · refine g_sub (lv' := [(0, .int x0), (1, .int x1), (2, va_rf x2)]) [0, 1, 2] rfl ?_
    exact J9   h
  · refine g_iload_n F (dAt dk_J3_checkIndex_8e157 2 rfl) 0 rfl ?_
    refine g_iload_n F (dAt dk_J3_checkIndex_8e157 3 rfl) 1 rfl ?_
    refine g_icmp_lt (tgt := 16) F (dAt dk_J3_checkIndex_8e157 4 rfl) (by decide) h (fun c2 h => ?_) (fun c2 h => ?_)
    · refine g_iload_n F (dAt dk_J3_checkIndex_8e157 10 rfl) 0 rfl ?_
      cases h
      exact E (dAt dk_J3_checkIndex_8e157 11 rfl) rfl
    · refine g_sub (lv' := [(0, .int x0), (1, .int x1), (2, va_rf x2)]) [0, 1, 2] rfl ?_
      exact J9   h
theorem ms_J0_checkIndex_df160 : MS yJ0_checkIndex_df160 cJ0_checkIndex_df160 2 none 2 := ⟨(gm mw_467 rfl), (gm mw_466 rfl), (gm mw_80 rfl), by decide +kernel, by decide⟩
theorem c_J0_checkIndex_df160 {l : Launch} {D : va_G} {ad : Nat → Nat} {g : Gv} {t u : Mem} {x0 : Int32} {x1 : Int32} (hJ : Jad ad) (h : f_J0_checkIndex_df160 x0 x1 = some ()) : ConV l yJ0_checkIndex_df160 cJ0_checkIndex_df160 2 none 1 [.int x0, .int x1] D ad g t u t u := by
  refine con_v hJ (by decide) (Nat.le_of_ble_eq_true rfl) rfl (fun X F E => ?_)
  refine g_lv (lv' := [(0, .int x0), (1, .int x1)]) rfl ?_
  unfold f_J0_checkIndex_df160 at h
  refine g_iload_n F (dAt dk_J0_checkIndex_df160 0 rfl) 0 rfl ?_
  refine g_iload_n F (dAt dk_J0_checkIndex_df160 1 rfl) 1 rfl ?_
  refine g_getsF F (gm mw_468 rfl) (dAt dk_J0_checkIndex_df160 2 rfl) (fun r1 => ?_)
  refine g_invS_ip F ms_J3_checkIndex_8e157 (gm mw_470 rfl) (dAt dk_J0_checkIndex_df160 3 rfl) [.int x0, .int x1, va_rf r1] rfl rfl (by decide) (Nat.le_of_ble_eq_true rfl) h (fun _ hf => c_J3_checkIndex_8e157 hJ hf) (fun r2 h => ?_)
  refine g_pop F (dAt dk_J0_checkIndex_df160 4 rfl) rfl ?_
  cases h
  exact E (dAt dk_J0_checkIndex_df160 5 rfl)
theorem ms_J1_charAt_3b067 : MS yJ1_charAt_3b067 cJ1_charAt_3b067 2 (some .char) 2 := ⟨(gm mw_464 rfl), (gm mw_463 rfl), (gm mw_81 rfl), by decide +kernel, by decide⟩
theorem c_J1_charAt_3b067 {l : Launch} {D : va_G} {ad : Nat → Nat} {g : Gv} {t u : Mem} {x0 : Fin 9} {x1 : Int32} {r : Int32} (hJ : Jad ad) (h : f_J1_charAt_3b067 x0 x1 = some r) : ConI l yJ1_charAt_3b067 cJ1_charAt_3b067 2 (some .char) 2 [.ref (g.2.2.2 (x0).val), .int x1] D ad g t u t u r := by
  refine con_i hJ (by decide) (Nat.le_of_ble_eq_true rfl) rfl (fun X F E => ?_)
  refine g_lv (lv' := [(0, .ref (g.2.2.2 (x0).val)), (1, .int x1)]) rfl ?_
  unfold f_J1_charAt_3b067 at h
  refine g_iload_n F (dAt dk_J1_charAt_3b067 0 rfl) 1 rfl ?_
  refine g_aload_n F (dAt dk_J1_charAt_3b067 1 rfl) 0 rfl ?_
  refine g_alenB F (dAt dk_J1_charAt_3b067 2 rfl) ?_
  refine g_invS_vp F ms_J0_checkIndex_df160 (gm mw_465 rfl) (dAt dk_J1_charAt_3b067 3 rfl) [.int x1, .int (Int32.ofNat (txL.getD (x0).val 0))] rfl rfl (by decide) (Nat.le_of_ble_eq_true rfl) h (fun _ hf => c_J0_checkIndex_df160 hJ hf) (fun _ h => ?_)
  refine g_aload_n F (dAt dk_J1_charAt_3b067 4 rfl) 0 rfl ?_
  refine g_iload_n F (dAt dk_J1_charAt_3b067 5 rfl) 1 rfl ?_
  refine g_ck h (fun hi1 h => ?_)
  refine g_baldB F (dAt dk_J1_charAt_3b067 6 rfl) hi1 ?_
  refine g_sipush (v := 255) F (dAt dk_J1_charAt_3b067 7 rfl) (by decide) ?_
  refine g_iand F (dAt dk_J1_charAt_3b067 8 rfl) ?_
  refine g_i2c F (dAt dk_J1_charAt_3b067 9 rfl) ?_
  refine g_ck h (fun hz2 h => ?_)
  cases h
  exact E (dAt dk_J1_charAt_3b067 10 rfl) (nC hz2)
theorem mi_J0_charAt_5068e : MI yJ0_charAt_5068e cJ0_charAt_5068e 2 (some .char) "java/lang/String" 1 := ⟨(gm mw_457 rfl), (gm mw_455 rfl), (gm mw_456 rfl), (gm mw_80 rfl), by decide +kernel, by decide⟩
theorem c_J0_charAt_5068e {l : Launch} {D : va_G} {ad : Nat → Nat} {g : Gv} {t u : Mem} {i0 : Fin 9} {x1 : Int32} {r : Int32} (hJ : Jad ad) (h : f_J0_charAt_5068e i0 x1 = some r) : ConI l yJ0_charAt_5068e cJ0_charAt_5068e 2 (some .char) 3 [.ref (g.2.2.1 (i0).val), .int x1] D ad g t u t u r := by
  refine con_i hJ (by decide) (Nat.le_of_ble_eq_true rfl) rfl (fun X F E => ?_)
  refine g_lv (lv' := [(0, .ref (g.2.2.1 (i0).val)), (1, .int x1)]) rfl ?_
  unfold f_J0_charAt_5068e at h
  refine g_aload_n F (dAt dk_J0_charAt_5068e 0 rfl) 0 rfl ?_
  refine g_invV_ip F mi_J0_isLatin1_aae02 (gm mw_458 rfl) (dAt dk_J0_charAt_5068e 1 rfl) (rcx_str F i0) [] rfl rfl (by decide) (Nat.le_of_ble_eq_true rfl) h (fun _ hf => c_J0_isLatin1_aae02 hJ hf) (fun r1 h => ?_)
  refine g_if_eq (tgt := 16) F (dAt dk_J0_charAt_5068e 2 rfl) (by decide) h (fun c2 h => ?_) (fun c2 h => ?_)
  · cases h
  · refine g_aload_n F (dAt dk_J0_charAt_5068e 3 rfl) 0 rfl ?_
    refine g_strv F (gm mw_1300 rfl) (dAt dk_J0_charAt_5068e 4 rfl) ?_
    refine g_iload_n F (dAt dk_J0_charAt_5068e 5 rfl) 1 rfl ?_
    refine g_invS_ip F ms_J1_charAt_3b067 (gm mw_462 rfl) (dAt dk_J0_charAt_5068e 6 rfl) [.ref (g.2.2.2 (i0).val), .int x1] rfl rfl (by decide) (Nat.le_of_ble_eq_true rfl) h (fun _ hf => c_J1_charAt_3b067 hJ hf) (fun r3 h => ?_)
    refine g_ck h (fun hz4 h => ?_)
    cases h
    exact E (dAt dk_J0_charAt_5068e 7 rfl) (nC hz4)
theorem mi_X3_sameLetters : MI yX3_sameLetters cX3_sameLetters 4 (some .int) "MillOfDistances$MapReader" 2 := ⟨(gm mw_439 rfl), (gm mw_438 rfl), (gm mw_6 rfl), (gm mw_72 rfl), by decide +kernel, by decide⟩
theorem c_X3_sameLetters {l : Launch} {D : va_G} {ad : Nat → Nat} {g : Gv} {t u : Mem} {n : Nat} {x1 : Fin 8} {x2 : Fin 9} {t' : Mem} {r : Int32} (hJ : Jad ad) (h : f_X3_sameLetters n x1 x2 t = some (r, t')) : ConI l yX3_sameLetters cX3_sameLetters 4 (some .int) 4 [.ref (ad 35), .ref (ad (oSh x1)), .ref (g.2.2.1 (x2).val)] D ad g t u t' u r := by
  refine con_i hJ (by decide) (Nat.le_of_ble_eq_true rfl) rfl (fun X F E => ?_)
  have H2 : ∀ (k : Nat) (s : Int32 × Mem), iter (bd_X3_sameLetters_2 n x1 x2) k s = some (r, t') → G X D ad g s.2 u [(0, .ref (ad 35)), (1, .ref (ad (oSh x1))), (2, .ref (g.2.2.1 (x2).val)), (3, .int s.1)] 2 [] := by
    refine iter_walk (P := fun (s : Int32 × Mem) => G X D ad g s.2 u [(0, .ref (ad 35)), (1, .ref (ad (oSh x1))), (2, .ref (g.2.2.1 (x2).val)), (3, .int s.1)] 2 []) (fun self2 ih2 s h => ?_)
    obtain ⟨v3, t0⟩ := s
    change G X D ad g t0 u [(0, .ref (ad 35)), (1, .ref (ad (oSh x1))), (2, .ref (g.2.2.1 (x2).val)), (3, .int v3)] 2 []
    unfold bd_X3_sameLetters_2 at h; try dsimp only at h
    refine g_iload_n F (dAt dk_X3_sameLetters 2 rfl) 3 rfl ?_
    refine g_aload_n F (dAt dk_X3_sameLetters 3 rfl) 2 rfl ?_
    refine g_invV_ip F mi_J0_length_8abf5 (gm mw_440 rfl) (dAt dk_X3_sameLetters 4 rfl) (rcx_str F x2) [] rfl rfl (by decide) (Nat.le_of_ble_eq_true rfl) h (fun _ hf => c_J0_length_8abf5 hJ hf) (fun r1 h => ?_)
    refine g_icmp_ge (tgt := 47) F (dAt dk_X3_sameLetters 5 rfl) (by decide) h (fun c2 h => ?_) (fun c2 h => ?_)
    · refine g_iload_n F (dAt dk_X3_sameLetters 25 rfl) 3 rfl ?_
      cases h
      exact E (dAt dk_X3_sameLetters 26 rfl) rfl
    · refine g_aload_n F (dAt dk_X3_sameLetters 6 rfl) 0 rfl ?_
      refine gg_Reader_next F (gm mw_154 rfl) (dAt dk_X3_sameLetters 7 rfl) ?_
      refine g_iload_n F (dAt dk_X3_sameLetters 8 rfl) 3 rfl ?_
      refine g_iadd F (dAt dk_X3_sameLetters 9 rfl) ?_
      refine g_aload_n F (dAt dk_X3_sameLetters 10 rfl) 1 rfl ?_
      refine gg_Shelf_size x1 F (gm mw_195 rfl) (dAt dk_X3_sameLetters 11 rfl) ?_
      refine g_icmp_ge (tgt := 47) F (dAt dk_X3_sameLetters 12 rfl) (by decide) h (fun c3 h => ?_) (fun c3 h => ?_)
      · refine g_iload_n F (dAt dk_X3_sameLetters 25 rfl) 3 rfl ?_
        cases h
        exact E (dAt dk_X3_sameLetters 26 rfl) rfl
      · refine g_aload_n F (dAt dk_X3_sameLetters 13 rfl) 1 rfl ?_
        refine g_aload_n F (dAt dk_X3_sameLetters 14 rfl) 0 rfl ?_
        refine gg_Reader_next F (gm mw_154 rfl) (dAt dk_X3_sameLetters 15 rfl) ?_
        refine g_iload_n F (dAt dk_X3_sameLetters 16 rfl) 3 rfl ?_
        refine g_iadd F (dAt dk_X3_sameLetters 17 rfl) ?_
        refine g_invV_ic F mi_X4_asInt (gm mw_450 rfl) (dAt dk_X3_sameLetters 18 rfl) (rcx_of F (rc_Shelf x1)) [.int ((t0.1 35 2) + v3)] rfl rfl (by decide) (Nat.le_of_ble_eq_true rfl) h (fun _ _ hf => c_X4_asInt hJ hf) (fun r4 t5 h => ?_)
        refine g_aload_n F (dAt dk_X3_sameLetters 19 rfl) 2 rfl ?_
        refine g_iload_n F (dAt dk_X3_sameLetters 20 rfl) 3 rfl ?_
        refine g_invV_ip F mi_J0_charAt_5068e (gm mw_454 rfl) (dAt dk_X3_sameLetters 21 rfl) (rcx_str F x2) [.int v3] rfl rfl (by decide) (Nat.le_of_ble_eq_true rfl) h (fun _ hf => c_J0_charAt_5068e hJ hf) (fun r6 h => ?_)
        refine g_icmp_ne (tgt := 47) F (dAt dk_X3_sameLetters 22 rfl) (by decide) h (fun c7 h => ?_) (fun c7 h => ?_)
        · refine g_iload_n F (dAt dk_X3_sameLetters 25 rfl) 3 rfl ?_
          cases h
          exact E (dAt dk_X3_sameLetters 26 rfl) rfl
        · refine g_iinc (lv' := [(3, .int (v3 + 1)), (0, .ref (ad 35)), (1, .ref (ad (oSh x1))), (2, .ref (g.2.2.1 (x2).val))]) F (dAt dk_X3_sameLetters 23 rfl) 3 rfl (w := 1) (by decide) (by decide) rfl ?_
          refine g_goto (tgt := 2) F (dAt dk_X3_sameLetters 24 rfl) (by decide) ?_
          refine g_sub (lv' := [(0, .ref (ad 35)), (1, .ref (ad (oSh x1))), (2, .ref (g.2.2.1 (x2).val)), (3, .int (v3 + 1))]) [1, 2, 3, 0] rfl ?_
          exact ih2 ((v3 + 1), t5) h
  refine g_lv (lv' := [(0, .ref (ad 35)), (1, .ref (ad (oSh x1))), (2, .ref (g.2.2.1 (x2).val))]) rfl ?_
  unfold f_X3_sameLetters at h
  refine g_iconst (v := 0) F (dAt dk_X3_sameLetters 0 rfl) (by decide) ?_
  refine g_istore_n (lv' := [(3, .int 0), (0, .ref (ad 35)), (1, .ref (ad (oSh x1))), (2, .ref (g.2.2.1 (x2).val))]) F (dAt dk_X3_sameLetters 1 rfl) (by decide) rfl ?_
  refine g_sub (lv' := [(0, .ref (ad 35)), (1, .ref (ad (oSh x1))), (2, .ref (g.2.2.1 (x2).val)), (3, .int 0)]) [1, 2, 3, 0] rfl ?_
  exact H2  n (0, t) h
theorem mi_X3_readWord : MI yX3_readWord cX3_readWord 6 (some .int) "MillOfDistances$MapReader" 1 := ⟨(gm mw_423 rfl), (gm mw_422 rfl), (gm mw_5 rfl), (gm mw_72 rfl), by decide +kernel, by decide⟩
theorem c_X3_readWord {l : Launch} {D : va_G} {ad : Nat → Nat} {g : Gv} {t u : Mem} {n : Nat} {x1 : Fin 8} {t' : Mem} {r : Int32} (hJ : Jad ad) (h : f_X3_readWord n x1 t = some (r, t')) : ConI l yX3_readWord cX3_readWord 6 (some .int) 5 [.ref (ad 35), .ref (ad (oSh x1))] D ad g t u t' u r := by
  refine con_i hJ (by decide) (Nat.le_of_ble_eq_true rfl) rfl (fun X F E => ?_)
  have H4 : ∀ (k : Nat) (s : Int32 × Int32 × Mem), iter (bd_X3_readWord_4 n x1) k s = some (r, t') → G X D ad g s.2.2 u [(0, .ref (ad 35)), (1, .ref (ad (oSh x1))), (2, .int s.1), (3, .int s.2.1)] 4 [] := by
    refine iter_walk (P := fun (s : Int32 × Int32 × Mem) => G X D ad g s.2.2 u [(0, .ref (ad 35)), (1, .ref (ad (oSh x1))), (2, .int s.1), (3, .int s.2.1)] 4 []) (fun self4 ih4 s h => ?_)
    obtain ⟨v2, v3, t0⟩ := s
    change G X D ad g t0 u [(0, .ref (ad 35)), (1, .ref (ad (oSh x1))), (2, .int v2), (3, .int v3)] 4 []
    unfold bd_X3_readWord_4 at h; try dsimp only at h
    refine g_iload_n F (dAt dk_X3_readWord 4 rfl) 3 rfl ?_
    refine g_getsK1 F (gm mw_424 rfl) (dAt dk_X3_readWord 5 rfl) ?_
    refine g_alenK1 F (dAt dk_X3_readWord 6 rfl) ?_
    refine g_icmp_ge (tgt := 63) F (dAt dk_X3_readWord 7 rfl) (by decide) h (fun c1 h => ?_) (fun c1 h => ?_)
    · refine g_aload_n F (dAt dk_X3_readWord 34 rfl) 0 rfl ?_
      refine g_aload_n F (dAt dk_X3_readWord 35 rfl) 0 rfl ?_
      refine gg_Reader_next F (gm mw_154 rfl) (dAt dk_X3_readWord 36 rfl) ?_
      refine g_iload_n F (dAt dk_X3_readWord 37 rfl) 2 rfl ?_
      refine g_iadd F (dAt dk_X3_readWord 38 rfl) ?_
      refine gp_Reader_fault F (gm mw_151 rfl) (dAt dk_X3_readWord 39 rfl) ?_
      refine g_ltt h (fun t2 h => ?_)
      refine g_iconst (v := (-1)) F (dAt dk_X3_readWord 40 rfl) (by decide) ?_
      cases h
      exact E (dAt dk_X3_readWord 41 rfl) rfl
    · refine g_iload_n F (dAt dk_X3_readWord 8 rfl) 3 rfl ?_
      refine g_invS_qp (fun i => some (g.2.2.1 i.val)) F ms_X3_wordOf (gm mw_426 rfl) (dAt dk_X3_readWord 9 rfl) [.int v3] rfl rfl (by decide) (Nat.le_of_ble_eq_true rfl) h (fun _ hf => c_X3_wordOf hJ hf) (fun r3 h => ?_)
      refine g_st (st' := [.ref (g.2.2.1 (r3).val)]) rfl ?_
      refine g_astore (lv' := [(4, .ref (g.2.2.1 (r3).val)), (0, .ref (ad 35)), (1, .ref (ad (oSh x1))), (2, .int v2), (3, .int v3)]) F (dAt dk_X3_readWord 10 rfl) (by decide) rfl ?_
      refine g_aload_n F (dAt dk_X3_readWord 11 rfl) 1 rfl ?_
      refine g_aload_n F (dAt dk_X3_readWord 12 rfl) 2 rfl ?_
      refine g_aload F (dAt dk_X3_readWord 13 rfl) 0 rfl ?_
      refine g_invV_ic F mi_X3_sameLetters (gm mw_436 rfl) (dAt dk_X3_readWord 14 rfl) (rcx_of F rc_Reader) [.ref (ad (oSh x1)), .ref (g.2.2.1 (r3).val)] rfl rfl (by decide) (Nat.le_of_ble_eq_true rfl) h (fun _ _ hf => c_X3_sameLetters hJ hf) (fun r4 t5 h => ?_)
      refine g_istore (lv' := [(5, .int r4), (4, .ref (g.2.2.1 (r3).val)), (0, .ref (ad 35)), (1, .ref (ad (oSh x1))), (2, .int v2), (3, .int v3)]) F (dAt dk_X3_readWord 15 rfl) (by decide) rfl ?_
      refine g_iload F (dAt dk_X3_readWord 16 rfl) 0 rfl ?_
      refine g_aload F (dAt dk_X3_readWord 17 rfl) 1 rfl ?_
      refine g_invV_ip F mi_J0_length_8abf5 (gm mw_440 rfl) (dAt dk_X3_readWord 18 rfl) (rcx_str F r3) [] rfl rfl (by decide) (Nat.le_of_ble_eq_true rfl) h (fun _ hf => c_J0_length_8abf5 hJ hf) (fun r6 h => ?_)
      refine g_icmp_ne (tgt := 50) F (dAt dk_X3_readWord 19 rfl) (by decide) h (fun c7 h => ?_) (fun c7 h => ?_)
      · refine g_iload_n F (dAt dk_X3_readWord 28 rfl) 4 rfl ?_
        refine g_iload F (dAt dk_X3_readWord 29 rfl) 0 rfl ?_
        refine g_mmax F (gm mw_492 rfl) (dAt dk_X3_readWord 30 rfl) (by decide) (Nat.le_of_ble_eq_true rfl) h (fun r8 h => ?_)
        refine g_istore_n (lv' := [(2, .int r8), (5, .int r4), (4, .ref (g.2.2.1 (r3).val)), (0, .ref (ad 35)), (1, .ref (ad (oSh x1))), (3, .int v3)]) F (dAt dk_X3_readWord 31 rfl) (by decide) rfl ?_
        refine g_iinc (lv' := [(3, .int (v3 + 1)), (2, .int r8), (5, .int r4), (4, .ref (g.2.2.1 (r3).val)), (0, .ref (ad 35)), (1, .ref (ad (oSh x1)))]) F (dAt dk_X3_readWord 32 rfl) 5 rfl (w := 1) (by decide) (by decide) rfl ?_
        refine g_goto (tgt := 4) F (dAt dk_X3_readWord 33 rfl) (by decide) ?_
        refine g_sub (lv' := [(0, .ref (ad 35)), (1, .ref (ad (oSh x1))), (2, .int r8), (3, .int (v3 + 1))]) [4, 5, 1, 0] rfl ?_
        exact ih4 (r8, (v3 + 1), t5) h
      · refine g_aload_n F (dAt dk_X3_readWord 20 rfl) 2 rfl ?_
        refine g_dup F (dAt dk_X3_readWord 21 rfl) rfl ?_
        refine gg_Reader_next F (gm mw_154 rfl) (dAt dk_X3_readWord 22 rfl) ?_
        refine g_iload F (dAt dk_X3_readWord 23 rfl) 0 rfl ?_
        refine g_iadd F (dAt dk_X3_readWord 24 rfl) ?_
        refine gp_Reader_next F (gm mw_154 rfl) (dAt dk_X3_readWord 25 rfl) ?_
        refine g_ltt h (fun t9 h => ?_)
        refine g_iload_n F (dAt dk_X3_readWord 26 rfl) 5 rfl ?_
        cases h
        exact E (dAt dk_X3_readWord 27 rfl) rfl
  refine g_lv (lv' := [(0, .ref (ad 35)), (1, .ref (ad (oSh x1)))]) rfl ?_
  unfold f_X3_readWord at h
  refine g_iconst (v := 0) F (dAt dk_X3_readWord 0 rfl) (by decide) ?_
  refine g_istore_n (lv' := [(2, .int 0), (0, .ref (ad 35)), (1, .ref (ad (oSh x1)))]) F (dAt dk_X3_readWord 1 rfl) (by decide) rfl ?_
  refine g_iconst (v := 0) F (dAt dk_X3_readWord 2 rfl) (by decide) ?_
  refine g_istore_n (lv' := [(3, .int 0), (2, .int 0), (0, .ref (ad 35)), (1, .ref (ad (oSh x1)))]) F (dAt dk_X3_readWord 3 rfl) (by decide) rfl ?_
  refine g_sub (lv' := [(0, .ref (ad 35)), (1, .ref (ad (oSh x1))), (2, .int 0), (3, .int 0)]) [2, 3, 1, 0] rfl ?_
  exact H4  n (0, 0, t) h
theorem ms_X3_isDigit : MS yX3_isDigit cX3_isDigit 3 (some .boolean) 2 := ⟨(gm mw_502 rfl), (gm mw_501 rfl), (gm mw_72 rfl), by decide +kernel, by decide⟩
theorem c_X3_isDigit {l : Launch} {D : va_G} {ad : Nat → Nat} {g : Gv} {t u : Mem} {x0 : Fin 8} {x1 : Int32} {t' : Mem} {r : Int32} (hJ : Jad ad) (h : f_X3_isDigit x0 x1 t = some (r, t')) : ConI l yX3_isDigit cX3_isDigit 3 (some .boolean) 1 [.ref (ad (oSh x0)), .int x1] D ad g t u t' u r := by
  refine con_i hJ (by decide) (Nat.le_of_ble_eq_true rfl) rfl (fun X F E => ?_)
  refine g_lv (lv' := [(0, .ref (ad (oSh x0))), (1, .int x1)]) rfl ?_
  unfold f_X3_isDigit at h
  refine g_aload_n F (dAt dk_X3_isDigit 0 rfl) 0 rfl ?_
  refine g_iload_n F (dAt dk_X3_isDigit 1 rfl) 1 rfl ?_
  refine g_invV_ic F mi_X4_asInt (gm mw_450 rfl) (dAt dk_X3_isDigit 2 rfl) (rcx_of F (rc_Shelf x0)) [.int x1] rfl rfl (by decide) (Nat.le_of_ble_eq_true rfl) h (fun _ _ hf => c_X4_asInt hJ hf) (fun r1 t2 h => ?_)
  refine g_istore_n (lv' := [(2, .int r1), (0, .ref (ad (oSh x0))), (1, .int x1)]) F (dAt dk_X3_isDigit 3 rfl) (by decide) rfl ?_
  refine g_iload_n F (dAt dk_X3_isDigit 4 rfl) 0 rfl ?_
  refine g_bipush (v := 48) F (dAt dk_X3_isDigit 5 rfl) (by decide) ?_
  refine g_icmp_lt (tgt := 22) F (dAt dk_X3_isDigit 6 rfl) (by decide) h (fun c3 h => ?_) (fun c3 h => ?_)
  · refine g_iconst (v := 0) F (dAt dk_X3_isDigit 12 rfl) (by decide) ?_
    cases h
    exact E (dAt dk_X3_isDigit 13 rfl) rfl
  · refine g_iload_n F (dAt dk_X3_isDigit 7 rfl) 0 rfl ?_
    refine g_bipush (v := 57) F (dAt dk_X3_isDigit 8 rfl) (by decide) ?_
    refine g_icmp_gt (tgt := 22) F (dAt dk_X3_isDigit 9 rfl) (by decide) h (fun c4 h => ?_) (fun c4 h => ?_)
    · refine g_iconst (v := 0) F (dAt dk_X3_isDigit 12 rfl) (by decide) ?_
      cases h
      exact E (dAt dk_X3_isDigit 13 rfl) rfl
    · refine g_iconst (v := 1) F (dAt dk_X3_isDigit 10 rfl) (by decide) ?_
      refine g_goto (tgt := 23) F (dAt dk_X3_isDigit 11 rfl) (by decide) ?_
      cases h
      exact E (dAt dk_X3_isDigit 13 rfl) rfl
theorem mi_X3_readNumber : MI yX3_readNumber cX3_readNumber 5 (some .boolean) "MillOfDistances$MapReader" 2 := ⟨(gm mw_499 rfl), (gm mw_498 rfl), (gm mw_7 rfl), (gm mw_72 rfl), by decide +kernel, by decide⟩
theorem c_X3_readNumber {l : Launch} {D : va_G} {ad : Nat → Nat} {g : Gv} {t u : Mem} {n : Nat} {x1 : Fin 8} {x2 : Int32} {t' : Mem} {r : Int32} (hJ : Jad ad) (h : f_X3_readNumber n x1 x2 t = some (r, t')) : ConI l yX3_readNumber cX3_readNumber 5 (some .boolean) 2 [.ref (ad 35), .ref (ad (oSh x1)), .int x2] D ad g t u t' u r := by
  refine con_i hJ (by decide) (Nat.le_of_ble_eq_true rfl) rfl (fun X F E => ?_)
  have J108 : ∀ (v3 : Int32) (v4 : Int32) (t0 : Mem), jn_X3_readNumber_108 n x1 x2 v3 v4 t0 = some (r, t') → G X D ad g t0 u [(0, .ref (ad 35)), (2, .int x2), (3, .int v3), (4, .int v4)] 108 [] := by
    intro v3 v4 t0 h
    unfold jn_X3_readNumber_108 at h
    refine g_iload_n F (dAt dk_X3_readNumber 58 rfl) 2 rfl ?_
    refine g_if_ne (tgt := 122) F (dAt dk_X3_readNumber 59 rfl) (by decide) h (fun c16 h => ?_) (fun c16 h => ?_)
    · refine g_aload_n F (dAt dk_X3_readNumber 66 rfl) 0 rfl ?_
      refine gg_Reader_numbers F (gm mw_153 rfl) (dAt dk_X3_readNumber 67 rfl) ?_
      refine g_iload_n F (dAt dk_X3_readNumber 68 rfl) 1 rfl ?_
      refine g_iload F (dAt dk_X3_readNumber 69 rfl) 3 rfl ?_
      refine g_ck h (fun hi17 h => ?_)
      refine g_iastorec F ai_numbers (dAt dk_X3_readNumber 70 rfl) hi17 ?_
      refine g_ltt h (fun t18 h => ?_)
      refine g_iconst (v := 1) F (dAt dk_X3_readNumber 71 rfl) (by decide) ?_
      cases h
      exact E (dAt dk_X3_readNumber 72 rfl) rfl
    · refine g_aload_n F (dAt dk_X3_readNumber 60 rfl) 0 rfl ?_
      refine g_aload_n F (dAt dk_X3_readNumber 61 rfl) 0 rfl ?_
      refine gg_Reader_next F (gm mw_154 rfl) (dAt dk_X3_readNumber 62 rfl) ?_
      refine gp_Reader_fault F (gm mw_151 rfl) (dAt dk_X3_readNumber 63 rfl) ?_
      refine g_ltt h (fun t19 h => ?_)
      refine g_iconst (v := 0) F (dAt dk_X3_readNumber 64 rfl) (by decide) ?_
      cases h
      exact E (dAt dk_X3_readNumber 65 rfl) rfl
  have H57 : ∀ (k : Nat) (s : Int32 × Int32 × Mem), iter (bd_X3_readNumber_57 n x1 x2) k s = some (r, t') → G X D ad g s.2.2 u [(0, .ref (ad 35)), (1, .ref (ad (oSh x1))), (2, .int x2), (3, .int s.1), (4, .int s.2.1)] 57 [] := by
    refine iter_walk (P := fun (s : Int32 × Int32 × Mem) => G X D ad g s.2.2 u [(0, .ref (ad 35)), (1, .ref (ad (oSh x1))), (2, .int x2), (3, .int s.1), (4, .int s.2.1)] 57 []) (fun self57 ih57 s h => ?_)
    obtain ⟨v3, v4, t0⟩ := s
    change G X D ad g t0 u [(0, .ref (ad 35)), (1, .ref (ad (oSh x1))), (2, .int x2), (3, .int v3), (4, .int v4)] 57 []
    unfold bd_X3_readNumber_57 at h; try dsimp only at h
    refine g_iload_n F (dAt dk_X3_readNumber 31 rfl) 3 rfl ?_
    refine g_iconst (v := 5) F (dAt dk_X3_readNumber 32 rfl) (by decide) ?_
    refine g_icmp_ge (tgt := 108) F (dAt dk_X3_readNumber 33 rfl) (by decide) h (fun c9 h => ?_) (fun c9 h => ?_)
    · refine g_sub (lv' := [(0, .ref (ad 35)), (2, .int x2), (3, .int v3), (4, .int v4)]) [0, 2, 3, 4] rfl ?_
      exact J108  v3 v4 t0 h
    · refine g_aload_n F (dAt dk_X3_readNumber 34 rfl) 1 rfl ?_
      refine g_aload_n F (dAt dk_X3_readNumber 35 rfl) 0 rfl ?_
      refine gg_Reader_next F (gm mw_154 rfl) (dAt dk_X3_readNumber 36 rfl) ?_
      refine g_invS_ic F ms_X3_isDigit (gm mw_500 rfl) (dAt dk_X3_readNumber 37 rfl) [.ref (ad (oSh x1)), .int (t0.1 35 2)] rfl rfl (by decide) (Nat.le_of_ble_eq_true rfl) h (fun _ _ hf => c_X3_isDigit hJ hf) (fun r10 t11 h => ?_)
      refine g_if_eq (tgt := 108) F (dAt dk_X3_readNumber 38 rfl) (by decide) h (fun c12 h => ?_) (fun c12 h => ?_)
      · refine g_sub (lv' := [(0, .ref (ad 35)), (2, .int x2), (3, .int v3), (4, .int v4)]) [0, 2, 3, 4] rfl ?_
        exact J108  v3 v4 t11 h
      · refine g_iload F (dAt dk_X3_readNumber 39 rfl) 4 rfl ?_
        refine g_bipush (v := 10) F (dAt dk_X3_readNumber 40 rfl) (by decide) ?_
        refine g_imul F (dAt dk_X3_readNumber 41 rfl) ?_
        refine g_aload_n F (dAt dk_X3_readNumber 42 rfl) 1 rfl ?_
        refine g_aload_n F (dAt dk_X3_readNumber 43 rfl) 0 rfl ?_
        refine gg_Reader_next F (gm mw_154 rfl) (dAt dk_X3_readNumber 44 rfl) ?_
        refine g_invV_ic F mi_X4_asInt (gm mw_450 rfl) (dAt dk_X3_readNumber 45 rfl) (rcx_of F (rc_Shelf x1)) [.int (t11.1 35 2)] rfl rfl (by decide) (Nat.le_of_ble_eq_true rfl) h (fun _ _ hf => c_X4_asInt hJ hf) (fun r13 t14 h => ?_)
        refine g_iadd F (dAt dk_X3_readNumber 46 rfl) ?_
        refine g_bipush (v := 48) F (dAt dk_X3_readNumber 47 rfl) (by decide) ?_
        refine g_isub F (dAt dk_X3_readNumber 48 rfl) ?_
        refine g_istore (lv' := [(4, .int (((v4 * 10) + r13) - 48)), (0, .ref (ad 35)), (1, .ref (ad (oSh x1))), (2, .int x2), (3, .int v3)]) F (dAt dk_X3_readNumber 49 rfl) (by decide) rfl ?_
        refine g_iinc (lv' := [(3, .int (v3 + 1)), (4, .int (((v4 * 10) + r13) - 48)), (0, .ref (ad 35)), (1, .ref (ad (oSh x1))), (2, .int x2)]) F (dAt dk_X3_readNumber 50 rfl) 4 rfl (w := 1) (by decide) (by decide) rfl ?_
        refine g_aload_n F (dAt dk_X3_readNumber 51 rfl) 2 rfl ?_
        refine g_dup F (dAt dk_X3_readNumber 52 rfl) rfl ?_
        refine gg_Reader_next F (gm mw_154 rfl) (dAt dk_X3_readNumber 53 rfl) ?_
        refine g_iconst (v := 1) F (dAt dk_X3_readNumber 54 rfl) (by decide) ?_
        refine g_iadd F (dAt dk_X3_readNumber 55 rfl) ?_
        refine gp_Reader_next F (gm mw_154 rfl) (dAt dk_X3_readNumber 56 rfl) ?_
        refine g_ltt h (fun t15 h => ?_)
        refine g_goto (tgt := 57) F (dAt dk_X3_readNumber 57 rfl) (by decide) ?_
        refine g_sub (lv' := [(0, .ref (ad 35)), (1, .ref (ad (oSh x1))), (2, .int x2), (3, .int (v3 + 1)), (4, .int (((v4 * 10) + r13) - 48))]) [2, 3, 4, 0, 1] rfl ?_
        exact ih57 ((v3 + 1), (((v4 * 10) + r13) - 48), t15) h
  refine g_lv (lv' := [(0, .ref (ad 35)), (1, .ref (ad (oSh x1))), (2, .int x2)]) rfl ?_
  unfold f_X3_readNumber at h
  refine g_aload_n F (dAt dk_X3_readNumber 0 rfl) 0 rfl ?_
  refine gg_Reader_next F (gm mw_154 rfl) (dAt dk_X3_readNumber 1 rfl) ?_
  refine g_aload_n F (dAt dk_X3_readNumber 2 rfl) 1 rfl ?_
  refine gg_Shelf_size x1 F (gm mw_195 rfl) (dAt dk_X3_readNumber 3 rfl) ?_
  refine g_icmp_ge (tgt := 24) F (dAt dk_X3_readNumber 4 rfl) (by decide) h (fun c1 h => ?_) (fun c1 h => ?_)
  · refine g_aload_n F (dAt dk_X3_readNumber 11 rfl) 0 rfl ?_
    refine g_aload_n F (dAt dk_X3_readNumber 12 rfl) 0 rfl ?_
    refine gg_Reader_next F (gm mw_154 rfl) (dAt dk_X3_readNumber 13 rfl) ?_
    refine gp_Reader_fault F (gm mw_151 rfl) (dAt dk_X3_readNumber 14 rfl) ?_
    refine g_ltt h (fun t2 h => ?_)
    refine g_iconst (v := 0) F (dAt dk_X3_readNumber 15 rfl) (by decide) ?_
    cases h
    exact E (dAt dk_X3_readNumber 16 rfl) rfl
  · refine g_aload_n F (dAt dk_X3_readNumber 5 rfl) 1 rfl ?_
    refine g_aload_n F (dAt dk_X3_readNumber 6 rfl) 0 rfl ?_
    refine gg_Reader_next F (gm mw_154 rfl) (dAt dk_X3_readNumber 7 rfl) ?_
    refine g_invV_ic F mi_X4_asInt (gm mw_450 rfl) (dAt dk_X3_readNumber 8 rfl) (rcx_of F (rc_Shelf x1)) [.int (t.1 35 2)] rfl rfl (by decide) (Nat.le_of_ble_eq_true rfl) h (fun _ _ hf => c_X4_asInt hJ hf) (fun r3 t4 h => ?_)
    refine g_bipush (v := 32) F (dAt dk_X3_readNumber 9 rfl) (by decide) ?_
    refine g_icmp_eq (tgt := 34) F (dAt dk_X3_readNumber 10 rfl) (by decide) h (fun c5 h => ?_) (fun c5 h => ?_)
    · refine g_aload_n F (dAt dk_X3_readNumber 17 rfl) 0 rfl ?_
      refine g_dup F (dAt dk_X3_readNumber 18 rfl) rfl ?_
      refine gg_Reader_next F (gm mw_154 rfl) (dAt dk_X3_readNumber 19 rfl) ?_
      refine g_iconst (v := 1) F (dAt dk_X3_readNumber 20 rfl) (by decide) ?_
      refine g_iadd F (dAt dk_X3_readNumber 21 rfl) ?_
      refine gp_Reader_next F (gm mw_154 rfl) (dAt dk_X3_readNumber 22 rfl) ?_
      refine g_ltt h (fun t6 h => ?_)
      refine g_aload_n F (dAt dk_X3_readNumber 23 rfl) 0 rfl ?_
      refine g_aload_n F (dAt dk_X3_readNumber 24 rfl) 0 rfl ?_
      refine gg_Reader_next F (gm mw_154 rfl) (dAt dk_X3_readNumber 25 rfl) ?_
      refine gp_Reader_numberStart F (gm mw_155 rfl) (dAt dk_X3_readNumber 26 rfl) ?_
      refine g_ltt h (fun t7 h => ?_)
      refine g_iconst (v := 0) F (dAt dk_X3_readNumber 27 rfl) (by decide) ?_
      refine g_istore_n (lv' := [(3, .int 0), (0, .ref (ad 35)), (1, .ref (ad (oSh x1))), (2, .int x2)]) F (dAt dk_X3_readNumber 28 rfl) (by decide) rfl ?_
      refine g_iconst (v := 0) F (dAt dk_X3_readNumber 29 rfl) (by decide) ?_
      refine g_istore (lv' := [(4, .int 0), (3, .int 0), (0, .ref (ad 35)), (1, .ref (ad (oSh x1))), (2, .int x2)]) F (dAt dk_X3_readNumber 30 rfl) (by decide) rfl ?_
      refine g_sub (lv' := [(0, .ref (ad 35)), (1, .ref (ad (oSh x1))), (2, .int x2), (3, .int 0), (4, .int 0)]) [2, 3, 4, 1, 0] rfl ?_
      exact H57  n (0, 0, t7) h
    · refine g_aload_n F (dAt dk_X3_readNumber 11 rfl) 0 rfl ?_
      refine g_aload_n F (dAt dk_X3_readNumber 12 rfl) 0 rfl ?_
      refine gg_Reader_next F (gm mw_154 rfl) (dAt dk_X3_readNumber 13 rfl) ?_
      refine gp_Reader_fault F (gm mw_151 rfl) (dAt dk_X3_readNumber 14 rfl) ?_
      refine g_ltt h (fun t8 h => ?_)
      refine g_iconst (v := 0) F (dAt dk_X3_readNumber 15 rfl) (by decide) ?_
      cases h
      exact E (dAt dk_X3_readNumber 16 rfl) rfl
theorem mi_X3_stands : MI yX3_stands cX3_stands 6 (some .boolean) "MillOfDistances$MapReader" 3 := ⟨(gm mw_506 rfl), (gm mw_505 rfl), (gm mw_8 rfl), (gm mw_72 rfl), by decide +kernel, by decide⟩
theorem c_X3_stands {l : Launch} {D : va_G} {ad : Nat → Nat} {g : Gv} {t u : Mem} {x1 : Int32} {x2 : Int32} {x3 : Fin 3} {t' : Mem} {r : Int32} (hJ : Jad ad) (h : f_X3_stands x1 x2 x3 t = some (r, t')) : ConI l yX3_stands cX3_stands 6 (some .boolean) 3 [.ref (ad 35), .int x1, .int x2, .ref (ad (oLd x3))] D ad g t u t' u r := by
  refine con_i hJ (by decide) (Nat.le_of_ble_eq_true rfl) rfl (fun X F E => ?_)
  have J57 : ∀ (w0 : Int32) (w1 : Int32) (t0 : Mem), jn_X3_stands_57 x1 x2 x3 w0 w1 t0 = some (r, t') → G X D ad g t0 u [] 57 [.int w0, .int w1] := by
    intro w0 w1 t0 h
    unfold jn_X3_stands_57 at h
    refine g_icmp_gt (tgt := 64) F (dAt dk_X3_stands 13 rfl) (by decide) h (fun c55 h => ?_) (fun c55 h => ?_)
    · refine g_iconst (v := 0) F (dAt dk_X3_stands 16 rfl) (by decide) ?_
      cases h
      exact E (dAt dk_X3_stands 17 rfl) rfl
    · refine g_iconst (v := 1) F (dAt dk_X3_stands 14 rfl) (by decide) ?_
      refine g_goto (tgt := 65) F (dAt dk_X3_stands 15 rfl) (by decide) ?_
      cases h
      exact E (dAt dk_X3_stands 17 rfl) rfl
  have J217 : ∀ (w0 : Int32) (w1 : Int32) (w2 : Int32) (t0 : Mem), jn_X3_stands_217 x1 x2 x3 w0 w1 w2 t0 = some (r, t') → G X D ad g t0 u [] 217 [.int w0, .int w1, .int w2, .ref (ad (oLd x3))] := by
    intro w0 w1 w2 t0 h
    unfold jn_X3_stands_217 at h
    refine g_invV_ic F mi_X1_mayPinch (gm mw_510 rfl) (dAt dk_X3_stands 101 rfl) (rcx_of F (rc_Land x3)) [.int w2, .int w1, .int w0] rfl rfl (by decide) (Nat.le_of_ble_eq_true rfl) h (fun _ _ hf => c_X1_mayPinch hJ hf) (fun r56 t57 h => ?_)
    refine g_ck h (fun hz58 h => ?_)
    cases h
    exact E (dAt dk_X3_stands 102 rfl) (nB hz58)
  have J128 : ∀ (v4 : Int32) (w0 : Int32) (t0 : Mem), jn_X3_stands_128 x1 x2 x3 v4 w0 t0 = some (r, t') → G X D ad g t0 u [(0, .ref (ad 35)), (1, .int x1), (3, .ref (ad (oLd x3))), (4, .int v4)] 128 [.int w0] := by
    intro v4 w0 t0 h
    unfold jn_X3_stands_128 at h
    refine g_istore (lv' := [(5, .int w0), (0, .ref (ad 35)), (1, .int x1), (3, .ref (ad (oLd x3))), (4, .int v4)]) F (dAt dk_X3_stands 52 rfl) (by decide) rfl ?_
    refine g_aload_n F (dAt dk_X3_stands 53 rfl) 3 rfl ?_
    refine g_iload F (dAt dk_X3_stands 54 rfl) 4 rfl ?_
    refine g_invV_ic F mi_X1_has (gm mw_508 rfl) (dAt dk_X3_stands 55 rfl) (rcx_of F (rc_Land x3)) [.int v4] rfl rfl (by decide) (Nat.le_of_ble_eq_true rfl) h (fun _ _ hf => c_X1_has hJ hf) (fun r59 t60 h => ?_)
    refine g_if_eq (tgt := 164) F (dAt dk_X3_stands 56 rfl) (by decide) h (fun c61 h => ?_) (fun c61 h => ?_)
    · refine g_iconst (v := 0) F (dAt dk_X3_stands 70 rfl) (by decide) ?_
      cases h
      exact E (dAt dk_X3_stands 71 rfl) rfl
    · refine g_iload F (dAt dk_X3_stands 57 rfl) 4 rfl ?_
      refine g_aload_n F (dAt dk_X3_stands 58 rfl) 1 rfl ?_
      refine gg_Reader_numbers F (gm mw_153 rfl) (dAt dk_X3_stands 59 rfl) ?_
      refine g_iconst (v := 0) F (dAt dk_X3_stands 60 rfl) (by decide) ?_
      refine g_ck h (fun hi62 h => ?_)
      refine g_ialoadc F ai_numbers (dAt dk_X3_stands 61 rfl) hi62 ?_
      refine g_icmp_eq (tgt := 164) F (dAt dk_X3_stands 62 rfl) (by decide) h (fun c63 h => ?_) (fun c63 h => ?_)
      · refine g_iconst (v := 0) F (dAt dk_X3_stands 70 rfl) (by decide) ?_
        cases h
        exact E (dAt dk_X3_stands 71 rfl) rfl
      · refine g_iload_n F (dAt dk_X3_stands 63 rfl) 2 rfl ?_
        refine g_iconst (v := 2) F (dAt dk_X3_stands 64 rfl) (by decide) ?_
        refine g_icmp_ne (tgt := 160) F (dAt dk_X3_stands 65 rfl) (by decide) h (fun c64 h => ?_) (fun c64 h => ?_)
        · refine g_iconst (v := 1) F (dAt dk_X3_stands 68 rfl) (by decide) ?_
          refine g_goto (tgt := 165) F (dAt dk_X3_stands 69 rfl) (by decide) ?_
          cases h
          exact E (dAt dk_X3_stands 71 rfl) rfl
        · refine g_iload F (dAt dk_X3_stands 66 rfl) 0 rfl ?_
          refine g_if_eq (tgt := 164) F (dAt dk_X3_stands 67 rfl) (by decide) h (fun c65 h => ?_) (fun c65 h => ?_)
          · refine g_iconst (v := 0) F (dAt dk_X3_stands 70 rfl) (by decide) ?_
            cases h
            exact E (dAt dk_X3_stands 71 rfl) rfl
          · refine g_iconst (v := 1) F (dAt dk_X3_stands 68 rfl) (by decide) ?_
            refine g_goto (tgt := 165) F (dAt dk_X3_stands 69 rfl) (by decide) ?_
            cases h
            exact E (dAt dk_X3_stands 71 rfl) rfl
  refine g_lv (lv' := [(0, .ref (ad 35)), (1, .int x1), (2, .int x2), (3, .ref (ad (oLd x3)))]) rfl ?_
  unfold f_X3_stands at h
  refine g_aload_n F (dAt dk_X3_stands 0 rfl) 0 rfl ?_
  refine gg_Reader_numbers F (gm mw_153 rfl) (dAt dk_X3_stands 1 rfl) ?_
  refine g_iload_n F (dAt dk_X3_stands 2 rfl) 2 rfl ?_
  refine g_ck h (fun hi1 h => ?_)
  refine g_ialoadc F ai_numbers (dAt dk_X3_stands 3 rfl) hi1 ?_
  refine g_istore (lv' := [(4, .int (t.1 36 x2.toNatClampNeg)), (0, .ref (ad 35)), (1, .int x1), (2, .int x2), (3, .ref (ad (oLd x3)))]) F (dAt dk_X3_stands 4 rfl) (by decide) rfl ?_
  refine g_iload_n F (dAt dk_X3_stands 5 rfl) 2 rfl ?_
  refine g_case 0 h (fun c2 h => ?_) (fun c2 h => ?_)
  · refine g_tabIn (v := 0) (tgt := 44) (off := 35) F (dAt dk_X3_stands 6 rfl) c2 (by decide) (by decide) rfl (by decide) ?_
    refine g_iload F (dAt dk_X3_stands 7 rfl) 0 rfl ?_
    refine g_iload_n F (dAt dk_X3_stands 8 rfl) 3 rfl ?_
    refine g_if_ne (tgt := 55) F (dAt dk_X3_stands 9 rfl) (by decide) h (fun c3 h => ?_) (fun c3 h => ?_)
    · refine g_bipush (v := 9) F (dAt dk_X3_stands 12 rfl) (by decide) ?_
      refine g_sub (lv' := []) [] rfl ?_
      exact J57  9 (t.1 36 x2.toNatClampNeg) t h
    · refine g_bipush (v := 6) F (dAt dk_X3_stands 10 rfl) (by decide) ?_
      refine g_goto (tgt := 57) F (dAt dk_X3_stands 11 rfl) (by decide) ?_
      refine g_sub (lv' := []) [] rfl ?_
      exact J57  6 (t.1 36 x2.toNatClampNeg) t h
  · refine g_case 1 h (fun c4 h => ?_) (fun c4 h => ?_)
    · refine g_tabIn (v := 1) (tgt := 92) (off := 83) F (dAt dk_X3_stands 6 rfl) c4 (by decide) (by decide) rfl (by decide) ?_
      refine g_iload_n F (dAt dk_X3_stands 32 rfl) 3 rfl ?_
      refine g_if_ne (tgt := 103) F (dAt dk_X3_stands 33 rfl) (by decide) h (fun c5 h => ?_) (fun c5 h => ?_)
      · refine g_iload_n F (dAt dk_X3_stands 38 rfl) 3 rfl ?_
        refine g_iconst (v := 1) F (dAt dk_X3_stands 39 rfl) (by decide) ?_
        refine g_icmp_ne (tgt := 166) F (dAt dk_X3_stands 40 rfl) (by decide) h (fun c6 h => ?_) (fun c6 h => ?_)
        · refine g_iload_n F (dAt dk_X3_stands 72 rfl) 2 rfl ?_
          refine g_iconst (v := 1) F (dAt dk_X3_stands 73 rfl) (by decide) ?_
          refine g_icmp_ne (tgt := 191) F (dAt dk_X3_stands 74 rfl) (by decide) h (fun c7 h => ?_) (fun c7 h => ?_)
          · refine g_aload_n F (dAt dk_X3_stands 85 rfl) 4 rfl ?_
            refine g_aload_n F (dAt dk_X3_stands 86 rfl) 1 rfl ?_
            refine gg_Reader_numbers F (gm mw_153 rfl) (dAt dk_X3_stands 87 rfl) ?_
            refine g_iconst (v := 0) F (dAt dk_X3_stands 88 rfl) (by decide) ?_
            refine g_ck h (fun hi8 h => ?_)
            refine g_ialoadc F ai_numbers (dAt dk_X3_stands 89 rfl) hi8 ?_
            refine g_aload_n F (dAt dk_X3_stands 90 rfl) 1 rfl ?_
            refine gg_Reader_numbers F (gm mw_153 rfl) (dAt dk_X3_stands 91 rfl) ?_
            refine g_iconst (v := 1) F (dAt dk_X3_stands 92 rfl) (by decide) ?_
            refine g_ck h (fun hi9 h => ?_)
            refine g_ialoadc F ai_numbers (dAt dk_X3_stands 93 rfl) hi9 ?_
            refine g_iload_n F (dAt dk_X3_stands 94 rfl) 2 rfl ?_
            refine g_iconst (v := 5) F (dAt dk_X3_stands 95 rfl) (by decide) ?_
            refine g_icmp_ne (tgt := 215) F (dAt dk_X3_stands 96 rfl) (by decide) h (fun c10 h => ?_) (fun c10 h => ?_)
            · refine g_iload F (dAt dk_X3_stands 100 rfl) 0 rfl ?_
              refine g_sub (lv' := []) [] rfl ?_
              exact J217  (t.1 36 x2.toNatClampNeg) (t.1 36 (1 : Int32).toNatClampNeg) (t.1 36 (0 : Int32).toNatClampNeg) t h
            · refine g_iload F (dAt dk_X3_stands 97 rfl) 0 rfl ?_
              refine g_ineg F (dAt dk_X3_stands 98 rfl) ?_
              refine g_goto (tgt := 217) F (dAt dk_X3_stands 99 rfl) (by decide) ?_
              refine g_sub (lv' := []) [] rfl ?_
              exact J217  (-(t.1 36 x2.toNatClampNeg)) (t.1 36 (1 : Int32).toNatClampNeg) (t.1 36 (0 : Int32).toNatClampNeg) t h
          · refine g_iload F (dAt dk_X3_stands 75 rfl) 0 rfl ?_
            refine g_iconst (v := 1) F (dAt dk_X3_stands 76 rfl) (by decide) ?_
            refine g_icmp_lt (tgt := 189) F (dAt dk_X3_stands 77 rfl) (by decide) h (fun c11 h => ?_) (fun c11 h => ?_)
            · refine g_iconst (v := 0) F (dAt dk_X3_stands 83 rfl) (by decide) ?_
              cases h
              exact E (dAt dk_X3_stands 84 rfl) rfl
            · refine g_iload F (dAt dk_X3_stands 78 rfl) 0 rfl ?_
              refine g_sipush (v := 999) F (dAt dk_X3_stands 79 rfl) (by decide) ?_
              refine g_icmp_gt (tgt := 189) F (dAt dk_X3_stands 80 rfl) (by decide) h (fun c12 h => ?_) (fun c12 h => ?_)
              · refine g_iconst (v := 0) F (dAt dk_X3_stands 83 rfl) (by decide) ?_
                cases h
                exact E (dAt dk_X3_stands 84 rfl) rfl
              · refine g_iconst (v := 1) F (dAt dk_X3_stands 81 rfl) (by decide) ?_
                refine g_goto (tgt := 190) F (dAt dk_X3_stands 82 rfl) (by decide) ?_
                cases h
                exact E (dAt dk_X3_stands 84 rfl) rfl
        · refine g_aload_n F (dAt dk_X3_stands 41 rfl) 4 rfl ?_
          refine g_aload_n F (dAt dk_X3_stands 42 rfl) 1 rfl ?_
          refine gg_Reader_numbers F (gm mw_153 rfl) (dAt dk_X3_stands 43 rfl) ?_
          refine g_iconst (v := 0) F (dAt dk_X3_stands 44 rfl) (by decide) ?_
          refine g_ck h (fun hi13 h => ?_)
          refine g_ialoadc F ai_numbers (dAt dk_X3_stands 45 rfl) hi13 ?_
          refine g_iload F (dAt dk_X3_stands 46 rfl) 0 rfl ?_
          refine g_invV_ic F mi_X1_between (gm mw_509 rfl) (dAt dk_X3_stands 47 rfl) (rcx_of F (rc_Land x3)) [.int (t.1 36 (0 : Int32).toNatClampNeg), .int (t.1 36 x2.toNatClampNeg)] rfl rfl (by decide) (Nat.le_of_ble_eq_true rfl) h (fun _ _ hf => c_X1_between hJ hf) (fun r14 t15 h => ?_)
          refine g_if_eq (tgt := 127) F (dAt dk_X3_stands 48 rfl) (by decide) h (fun c16 h => ?_) (fun c16 h => ?_)
          · refine g_iconst (v := 0) F (dAt dk_X3_stands 51 rfl) (by decide) ?_
            refine g_sub (lv' := [(0, .ref (ad 35)), (1, .int x1), (3, .ref (ad (oLd x3))), (4, .int (t.1 36 x2.toNatClampNeg))]) [1, 2, 4, 0] rfl ?_
            exact J128  (t.1 36 x2.toNatClampNeg) 0 t15 h
          · refine g_iconst (v := 1) F (dAt dk_X3_stands 49 rfl) (by decide) ?_
            refine g_goto (tgt := 128) F (dAt dk_X3_stands 50 rfl) (by decide) ?_
            refine g_sub (lv' := [(0, .ref (ad 35)), (1, .int x1), (3, .ref (ad (oLd x3))), (4, .int (t.1 36 x2.toNatClampNeg))]) [1, 2, 4, 0] rfl ?_
            exact J128  (t.1 36 x2.toNatClampNeg) 1 t15 h
      · refine g_aload_n F (dAt dk_X3_stands 34 rfl) 4 rfl ?_
        refine g_iload F (dAt dk_X3_stands 35 rfl) 0 rfl ?_
        refine g_invV_ic F mi_X1_has (gm mw_508 rfl) (dAt dk_X3_stands 36 rfl) (rcx_of F (rc_Land x3)) [.int (t.1 36 x2.toNatClampNeg)] rfl rfl (by decide) (Nat.le_of_ble_eq_true rfl) h (fun _ _ hf => c_X1_has hJ hf) (fun r17 t18 h => ?_)
        refine g_ck h (fun hz19 h => ?_)
        cases h
        exact E (dAt dk_X3_stands 37 rfl) (nB hz19)
    · refine g_case 2 h (fun c20 h => ?_) (fun c20 h => ?_)
      · refine g_tabIn (v := 2) (tgt := 92) (off := 83) F (dAt dk_X3_stands 6 rfl) c20 (by decide) (by decide) rfl (by decide) ?_
        refine g_iload_n F (dAt dk_X3_stands 32 rfl) 3 rfl ?_
        refine g_if_ne (tgt := 103) F (dAt dk_X3_stands 33 rfl) (by decide) h (fun c21 h => ?_) (fun c21 h => ?_)
        · refine g_iload_n F (dAt dk_X3_stands 38 rfl) 3 rfl ?_
          refine g_iconst (v := 1) F (dAt dk_X3_stands 39 rfl) (by decide) ?_
          refine g_icmp_ne (tgt := 166) F (dAt dk_X3_stands 40 rfl) (by decide) h (fun c22 h => ?_) (fun c22 h => ?_)
          · refine g_iload_n F (dAt dk_X3_stands 72 rfl) 2 rfl ?_
            refine g_iconst (v := 1) F (dAt dk_X3_stands 73 rfl) (by decide) ?_
            refine g_icmp_ne (tgt := 191) F (dAt dk_X3_stands 74 rfl) (by decide) h (fun c23 h => ?_) (fun c23 h => ?_)
            · refine g_aload_n F (dAt dk_X3_stands 85 rfl) 4 rfl ?_
              refine g_aload_n F (dAt dk_X3_stands 86 rfl) 1 rfl ?_
              refine gg_Reader_numbers F (gm mw_153 rfl) (dAt dk_X3_stands 87 rfl) ?_
              refine g_iconst (v := 0) F (dAt dk_X3_stands 88 rfl) (by decide) ?_
              refine g_ck h (fun hi24 h => ?_)
              refine g_ialoadc F ai_numbers (dAt dk_X3_stands 89 rfl) hi24 ?_
              refine g_aload_n F (dAt dk_X3_stands 90 rfl) 1 rfl ?_
              refine gg_Reader_numbers F (gm mw_153 rfl) (dAt dk_X3_stands 91 rfl) ?_
              refine g_iconst (v := 1) F (dAt dk_X3_stands 92 rfl) (by decide) ?_
              refine g_ck h (fun hi25 h => ?_)
              refine g_ialoadc F ai_numbers (dAt dk_X3_stands 93 rfl) hi25 ?_
              refine g_iload_n F (dAt dk_X3_stands 94 rfl) 2 rfl ?_
              refine g_iconst (v := 5) F (dAt dk_X3_stands 95 rfl) (by decide) ?_
              refine g_icmp_ne (tgt := 215) F (dAt dk_X3_stands 96 rfl) (by decide) h (fun c26 h => ?_) (fun c26 h => ?_)
              · refine g_iload F (dAt dk_X3_stands 100 rfl) 0 rfl ?_
                refine g_sub (lv' := []) [] rfl ?_
                exact J217  (t.1 36 x2.toNatClampNeg) (t.1 36 (1 : Int32).toNatClampNeg) (t.1 36 (0 : Int32).toNatClampNeg) t h
              · refine g_iload F (dAt dk_X3_stands 97 rfl) 0 rfl ?_
                refine g_ineg F (dAt dk_X3_stands 98 rfl) ?_
                refine g_goto (tgt := 217) F (dAt dk_X3_stands 99 rfl) (by decide) ?_
                refine g_sub (lv' := []) [] rfl ?_
                exact J217  (-(t.1 36 x2.toNatClampNeg)) (t.1 36 (1 : Int32).toNatClampNeg) (t.1 36 (0 : Int32).toNatClampNeg) t h
            · refine g_iload F (dAt dk_X3_stands 75 rfl) 0 rfl ?_
              refine g_iconst (v := 1) F (dAt dk_X3_stands 76 rfl) (by decide) ?_
              refine g_icmp_lt (tgt := 189) F (dAt dk_X3_stands 77 rfl) (by decide) h (fun c27 h => ?_) (fun c27 h => ?_)
              · refine g_iconst (v := 0) F (dAt dk_X3_stands 83 rfl) (by decide) ?_
                cases h
                exact E (dAt dk_X3_stands 84 rfl) rfl
              · refine g_iload F (dAt dk_X3_stands 78 rfl) 0 rfl ?_
                refine g_sipush (v := 999) F (dAt dk_X3_stands 79 rfl) (by decide) ?_
                refine g_icmp_gt (tgt := 189) F (dAt dk_X3_stands 80 rfl) (by decide) h (fun c28 h => ?_) (fun c28 h => ?_)
                · refine g_iconst (v := 0) F (dAt dk_X3_stands 83 rfl) (by decide) ?_
                  cases h
                  exact E (dAt dk_X3_stands 84 rfl) rfl
                · refine g_iconst (v := 1) F (dAt dk_X3_stands 81 rfl) (by decide) ?_
                  refine g_goto (tgt := 190) F (dAt dk_X3_stands 82 rfl) (by decide) ?_
                  cases h
                  exact E (dAt dk_X3_stands 84 rfl) rfl
          · refine g_aload_n F (dAt dk_X3_stands 41 rfl) 4 rfl ?_
            refine g_aload_n F (dAt dk_X3_stands 42 rfl) 1 rfl ?_
            refine gg_Reader_numbers F (gm mw_153 rfl) (dAt dk_X3_stands 43 rfl) ?_
            refine g_iconst (v := 0) F (dAt dk_X3_stands 44 rfl) (by decide) ?_
            refine g_ck h (fun hi29 h => ?_)
            refine g_ialoadc F ai_numbers (dAt dk_X3_stands 45 rfl) hi29 ?_
            refine g_iload F (dAt dk_X3_stands 46 rfl) 0 rfl ?_
            refine g_invV_ic F mi_X1_between (gm mw_509 rfl) (dAt dk_X3_stands 47 rfl) (rcx_of F (rc_Land x3)) [.int (t.1 36 (0 : Int32).toNatClampNeg), .int (t.1 36 x2.toNatClampNeg)] rfl rfl (by decide) (Nat.le_of_ble_eq_true rfl) h (fun _ _ hf => c_X1_between hJ hf) (fun r30 t31 h => ?_)
            refine g_if_eq (tgt := 127) F (dAt dk_X3_stands 48 rfl) (by decide) h (fun c32 h => ?_) (fun c32 h => ?_)
            · refine g_iconst (v := 0) F (dAt dk_X3_stands 51 rfl) (by decide) ?_
              refine g_sub (lv' := [(0, .ref (ad 35)), (1, .int x1), (3, .ref (ad (oLd x3))), (4, .int (t.1 36 x2.toNatClampNeg))]) [1, 2, 4, 0] rfl ?_
              exact J128  (t.1 36 x2.toNatClampNeg) 0 t31 h
            · refine g_iconst (v := 1) F (dAt dk_X3_stands 49 rfl) (by decide) ?_
              refine g_goto (tgt := 128) F (dAt dk_X3_stands 50 rfl) (by decide) ?_
              refine g_sub (lv' := [(0, .ref (ad 35)), (1, .int x1), (3, .ref (ad (oLd x3))), (4, .int (t.1 36 x2.toNatClampNeg))]) [1, 2, 4, 0] rfl ?_
              exact J128  (t.1 36 x2.toNatClampNeg) 1 t31 h
        · refine g_aload_n F (dAt dk_X3_stands 34 rfl) 4 rfl ?_
          refine g_iload F (dAt dk_X3_stands 35 rfl) 0 rfl ?_
          refine g_invV_ic F mi_X1_has (gm mw_508 rfl) (dAt dk_X3_stands 36 rfl) (rcx_of F (rc_Land x3)) [.int (t.1 36 x2.toNatClampNeg)] rfl rfl (by decide) (Nat.le_of_ble_eq_true rfl) h (fun _ _ hf => c_X1_has hJ hf) (fun r33 t34 h => ?_)
          refine g_ck h (fun hz35 h => ?_)
          cases h
          exact E (dAt dk_X3_stands 37 rfl) (nB hz35)
      · refine g_case 3 h (fun c36 h => ?_) (fun c36 h => ?_)
        · refine g_tabIn (v := 3) (tgt := 66) (off := 57) F (dAt dk_X3_stands 6 rfl) c36 (by decide) (by decide) rfl (by decide) ?_
          refine g_iload F (dAt dk_X3_stands 18 rfl) 0 rfl ?_
          refine g_ldc (v := 99999) F (dAt dk_X3_stands 19 rfl) (gm mw_507 rfl) ?_
          refine g_icmp_gt (tgt := 77) F (dAt dk_X3_stands 20 rfl) (by decide) h (fun c37 h => ?_) (fun c37 h => ?_)
          · refine g_iconst (v := 0) F (dAt dk_X3_stands 23 rfl) (by decide) ?_
            cases h
            exact E (dAt dk_X3_stands 24 rfl) rfl
          · refine g_iconst (v := 1) F (dAt dk_X3_stands 21 rfl) (by decide) ?_
            refine g_goto (tgt := 78) F (dAt dk_X3_stands 22 rfl) (by decide) ?_
            cases h
            exact E (dAt dk_X3_stands 24 rfl) rfl
        · refine g_case 4 h (fun c38 h => ?_) (fun c38 h => ?_)
          · refine g_tabIn (v := 4) (tgt := 79) (off := 70) F (dAt dk_X3_stands 6 rfl) c38 (by decide) (by decide) rfl (by decide) ?_
            refine g_iload F (dAt dk_X3_stands 25 rfl) 0 rfl ?_
            refine g_bipush (v := 9) F (dAt dk_X3_stands 26 rfl) (by decide) ?_
            refine g_icmp_gt (tgt := 90) F (dAt dk_X3_stands 27 rfl) (by decide) h (fun c39 h => ?_) (fun c39 h => ?_)
            · refine g_iconst (v := 0) F (dAt dk_X3_stands 30 rfl) (by decide) ?_
              cases h
              exact E (dAt dk_X3_stands 31 rfl) rfl
            · refine g_iconst (v := 1) F (dAt dk_X3_stands 28 rfl) (by decide) ?_
              refine g_goto (tgt := 91) F (dAt dk_X3_stands 29 rfl) (by decide) ?_
              cases h
              exact E (dAt dk_X3_stands 31 rfl) rfl
          · have := lv_neT c2 (a := 0) (by decide)
            have := lv_neT c4 (a := 1) (by decide)
            have := lv_neT c20 (a := 2) (by decide)
            have := lv_neT c36 (a := 3) (by decide)
            have := lv_neT c38 (a := 4) (by decide)
            refine g_tabOut (tgt := 92) F (dAt dk_X3_stands 6 rfl) (by omega) (by decide) ?_
            refine g_iload_n F (dAt dk_X3_stands 32 rfl) 3 rfl ?_
            refine g_if_ne (tgt := 103) F (dAt dk_X3_stands 33 rfl) (by decide) h (fun c40 h => ?_) (fun c40 h => ?_)
            · refine g_iload_n F (dAt dk_X3_stands 38 rfl) 3 rfl ?_
              refine g_iconst (v := 1) F (dAt dk_X3_stands 39 rfl) (by decide) ?_
              refine g_icmp_ne (tgt := 166) F (dAt dk_X3_stands 40 rfl) (by decide) h (fun c41 h => ?_) (fun c41 h => ?_)
              · refine g_iload_n F (dAt dk_X3_stands 72 rfl) 2 rfl ?_
                refine g_iconst (v := 1) F (dAt dk_X3_stands 73 rfl) (by decide) ?_
                refine g_icmp_ne (tgt := 191) F (dAt dk_X3_stands 74 rfl) (by decide) h (fun c42 h => ?_) (fun c42 h => ?_)
                · refine g_aload_n F (dAt dk_X3_stands 85 rfl) 4 rfl ?_
                  refine g_aload_n F (dAt dk_X3_stands 86 rfl) 1 rfl ?_
                  refine gg_Reader_numbers F (gm mw_153 rfl) (dAt dk_X3_stands 87 rfl) ?_
                  refine g_iconst (v := 0) F (dAt dk_X3_stands 88 rfl) (by decide) ?_
                  refine g_ck h (fun hi43 h => ?_)
                  refine g_ialoadc F ai_numbers (dAt dk_X3_stands 89 rfl) hi43 ?_
                  refine g_aload_n F (dAt dk_X3_stands 90 rfl) 1 rfl ?_
                  refine gg_Reader_numbers F (gm mw_153 rfl) (dAt dk_X3_stands 91 rfl) ?_
                  refine g_iconst (v := 1) F (dAt dk_X3_stands 92 rfl) (by decide) ?_
                  refine g_ck h (fun hi44 h => ?_)
                  refine g_ialoadc F ai_numbers (dAt dk_X3_stands 93 rfl) hi44 ?_
                  refine g_iload_n F (dAt dk_X3_stands 94 rfl) 2 rfl ?_
                  refine g_iconst (v := 5) F (dAt dk_X3_stands 95 rfl) (by decide) ?_
                  refine g_icmp_ne (tgt := 215) F (dAt dk_X3_stands 96 rfl) (by decide) h (fun c45 h => ?_) (fun c45 h => ?_)
                  · refine g_iload F (dAt dk_X3_stands 100 rfl) 0 rfl ?_
                    refine g_sub (lv' := []) [] rfl ?_
                    exact J217  (t.1 36 x2.toNatClampNeg) (t.1 36 (1 : Int32).toNatClampNeg) (t.1 36 (0 : Int32).toNatClampNeg) t h
                  · refine g_iload F (dAt dk_X3_stands 97 rfl) 0 rfl ?_
                    refine g_ineg F (dAt dk_X3_stands 98 rfl) ?_
                    refine g_goto (tgt := 217) F (dAt dk_X3_stands 99 rfl) (by decide) ?_
                    refine g_sub (lv' := []) [] rfl ?_
                    exact J217  (-(t.1 36 x2.toNatClampNeg)) (t.1 36 (1 : Int32).toNatClampNeg) (t.1 36 (0 : Int32).toNatClampNeg) t h
                · refine g_iload F (dAt dk_X3_stands 75 rfl) 0 rfl ?_
                  refine g_iconst (v := 1) F (dAt dk_X3_stands 76 rfl) (by decide) ?_
                  refine g_icmp_lt (tgt := 189) F (dAt dk_X3_stands 77 rfl) (by decide) h (fun c46 h => ?_) (fun c46 h => ?_)
                  · refine g_iconst (v := 0) F (dAt dk_X3_stands 83 rfl) (by decide) ?_
                    cases h
                    exact E (dAt dk_X3_stands 84 rfl) rfl
                  · refine g_iload F (dAt dk_X3_stands 78 rfl) 0 rfl ?_
                    refine g_sipush (v := 999) F (dAt dk_X3_stands 79 rfl) (by decide) ?_
                    refine g_icmp_gt (tgt := 189) F (dAt dk_X3_stands 80 rfl) (by decide) h (fun c47 h => ?_) (fun c47 h => ?_)
                    · refine g_iconst (v := 0) F (dAt dk_X3_stands 83 rfl) (by decide) ?_
                      cases h
                      exact E (dAt dk_X3_stands 84 rfl) rfl
                    · refine g_iconst (v := 1) F (dAt dk_X3_stands 81 rfl) (by decide) ?_
                      refine g_goto (tgt := 190) F (dAt dk_X3_stands 82 rfl) (by decide) ?_
                      cases h
                      exact E (dAt dk_X3_stands 84 rfl) rfl
              · refine g_aload_n F (dAt dk_X3_stands 41 rfl) 4 rfl ?_
                refine g_aload_n F (dAt dk_X3_stands 42 rfl) 1 rfl ?_
                refine gg_Reader_numbers F (gm mw_153 rfl) (dAt dk_X3_stands 43 rfl) ?_
                refine g_iconst (v := 0) F (dAt dk_X3_stands 44 rfl) (by decide) ?_
                refine g_ck h (fun hi48 h => ?_)
                refine g_ialoadc F ai_numbers (dAt dk_X3_stands 45 rfl) hi48 ?_
                refine g_iload F (dAt dk_X3_stands 46 rfl) 0 rfl ?_
                refine g_invV_ic F mi_X1_between (gm mw_509 rfl) (dAt dk_X3_stands 47 rfl) (rcx_of F (rc_Land x3)) [.int (t.1 36 (0 : Int32).toNatClampNeg), .int (t.1 36 x2.toNatClampNeg)] rfl rfl (by decide) (Nat.le_of_ble_eq_true rfl) h (fun _ _ hf => c_X1_between hJ hf) (fun r49 t50 h => ?_)
                refine g_if_eq (tgt := 127) F (dAt dk_X3_stands 48 rfl) (by decide) h (fun c51 h => ?_) (fun c51 h => ?_)
                · refine g_iconst (v := 0) F (dAt dk_X3_stands 51 rfl) (by decide) ?_
                  refine g_sub (lv' := [(0, .ref (ad 35)), (1, .int x1), (3, .ref (ad (oLd x3))), (4, .int (t.1 36 x2.toNatClampNeg))]) [1, 2, 4, 0] rfl ?_
                  exact J128  (t.1 36 x2.toNatClampNeg) 0 t50 h
                · refine g_iconst (v := 1) F (dAt dk_X3_stands 49 rfl) (by decide) ?_
                  refine g_goto (tgt := 128) F (dAt dk_X3_stands 50 rfl) (by decide) ?_
                  refine g_sub (lv' := [(0, .ref (ad 35)), (1, .int x1), (3, .ref (ad (oLd x3))), (4, .int (t.1 36 x2.toNatClampNeg))]) [1, 2, 4, 0] rfl ?_
                  exact J128  (t.1 36 x2.toNatClampNeg) 1 t50 h
            · refine g_aload_n F (dAt dk_X3_stands 34 rfl) 4 rfl ?_
              refine g_iload F (dAt dk_X3_stands 35 rfl) 0 rfl ?_
              refine g_invV_ic F mi_X1_has (gm mw_508 rfl) (dAt dk_X3_stands 36 rfl) (rcx_of F (rc_Land x3)) [.int (t.1 36 x2.toNatClampNeg)] rfl rfl (by decide) (Nat.le_of_ble_eq_true rfl) h (fun _ _ hf => c_X1_has hJ hf) (fun r52 t53 h => ?_)
              refine g_ck h (fun hz54 h => ?_)
              cases h
              exact E (dAt dk_X3_stands 37 rfl) (nB hz54)
theorem mi_X3_tell : MI yX3_tell cX3_tell 3 none "MillOfDistances$MapReader" 2 := ⟨(gm mw_526 rfl), (gm mw_525 rfl), (gm mw_9 rfl), (gm mw_72 rfl), by decide +kernel, by decide⟩
theorem c_X3_tell {l : Launch} {D : va_G} {ad : Nat → Nat} {g : Gv} {t u : Mem} {n : Nat} {x1 : Int32} {x2 : Fin 3} {t' : Mem} (hJ : Jad ad) (h : f_X3_tell n x1 x2 t = some ((), t')) : ConV l yX3_tell cX3_tell 3 none 3 [.ref (ad 35), .int x1, .ref (ad (oLd x2))] D ad g t u t' u := by
  refine con_v hJ (by decide) (Nat.le_of_ble_eq_true rfl) rfl (fun X F E => ?_)
  refine g_lv (lv' := [(0, .ref (ad 35)), (1, .int x1), (2, .ref (ad (oLd x2)))]) rfl ?_
  unfold f_X3_tell at h
  refine g_iload_n F (dAt dk_X3_tell 0 rfl) 1 rfl ?_
  refine g_case 0 h (fun c1 h => ?_) (fun c1 h => ?_)
  · refine g_tabIn (v := 0) (tgt := 40) (off := 39) F (dAt dk_X3_tell 1 rfl) c1 (by decide) (by decide) rfl (by decide) ?_
    refine g_aload_n F (dAt dk_X3_tell 2 rfl) 2 rfl ?_
    refine g_aload_n F (dAt dk_X3_tell 3 rfl) 0 rfl ?_
    refine gg_Reader_numbers F (gm mw_153 rfl) (dAt dk_X3_tell 4 rfl) ?_
    refine g_iconst (v := 0) F (dAt dk_X3_tell 5 rfl) (by decide) ?_
    refine g_ck h (fun hi2 h => ?_)
    refine g_ialoadc F ai_numbers (dAt dk_X3_tell 6 rfl) hi2 ?_
    refine g_aload_n F (dAt dk_X3_tell 7 rfl) 0 rfl ?_
    refine gg_Reader_numbers F (gm mw_153 rfl) (dAt dk_X3_tell 8 rfl) ?_
    refine g_iconst (v := 1) F (dAt dk_X3_tell 9 rfl) (by decide) ?_
    refine g_ck h (fun hi3 h => ?_)
    refine g_ialoadc F ai_numbers (dAt dk_X3_tell 10 rfl) hi3 ?_
    refine g_invV_ic F mi_X1_found (gm mw_527 rfl) (dAt dk_X3_tell 11 rfl) (rcx_of F (rc_Land x2)) [.int (t.1 36 (0 : Int32).toNatClampNeg), .int (t.1 36 (1 : Int32).toNatClampNeg)] rfl rfl (by decide) (Nat.le_of_ble_eq_true rfl) h (fun _ _ hf => c_X1_found hJ hf) (fun r4 t5 h => ?_)
    refine g_pop F (dAt dk_X3_tell 12 rfl) rfl ?_
    refine g_goto (tgt := 178) F (dAt dk_X3_tell 13 rfl) (by decide) ?_
    cases h
    exact E (dAt dk_X3_tell 84 rfl)
  · refine g_case 1 h (fun c6 h => ?_) (fun c6 h => ?_)
    · refine g_tabIn (v := 1) (tgt := 60) (off := 59) F (dAt dk_X3_tell 1 rfl) c6 (by decide) (by decide) rfl (by decide) ?_
      refine g_aload_n F (dAt dk_X3_tell 14 rfl) 2 rfl ?_
      refine g_aload_n F (dAt dk_X3_tell 15 rfl) 0 rfl ?_
      refine gg_Reader_numbers F (gm mw_153 rfl) (dAt dk_X3_tell 16 rfl) ?_
      refine g_iconst (v := 0) F (dAt dk_X3_tell 17 rfl) (by decide) ?_
      refine g_ck h (fun hi7 h => ?_)
      refine g_ialoadc F ai_numbers (dAt dk_X3_tell 18 rfl) hi7 ?_
      refine g_aload_n F (dAt dk_X3_tell 19 rfl) 0 rfl ?_
      refine gg_Reader_numbers F (gm mw_153 rfl) (dAt dk_X3_tell 20 rfl) ?_
      refine g_iconst (v := 1) F (dAt dk_X3_tell 21 rfl) (by decide) ?_
      refine g_ck h (fun hi8 h => ?_)
      refine g_ialoadc F ai_numbers (dAt dk_X3_tell 22 rfl) hi8 ?_
      refine g_aload_n F (dAt dk_X3_tell 23 rfl) 0 rfl ?_
      refine gg_Reader_numbers F (gm mw_153 rfl) (dAt dk_X3_tell 24 rfl) ?_
      refine g_iconst (v := 2) F (dAt dk_X3_tell 25 rfl) (by decide) ?_
      refine g_ck h (fun hi9 h => ?_)
      refine g_ialoadc F ai_numbers (dAt dk_X3_tell 26 rfl) hi9 ?_
      refine g_invV_vc F mi_X1_lay (gm mw_528 rfl) (dAt dk_X3_tell 27 rfl) (rcx_of F (rc_Land x2)) [.int (t.1 36 (0 : Int32).toNatClampNeg), .int (t.1 36 (1 : Int32).toNatClampNeg), .int (t.1 36 (2 : Int32).toNatClampNeg)] rfl rfl (by decide) (Nat.le_of_ble_eq_true rfl) h (fun _ _ hf => c_X1_lay hJ hf) (fun _ t10 h => ?_)
      refine g_goto (tgt := 178) F (dAt dk_X3_tell 28 rfl) (by decide) ?_
      cases h
      exact E (dAt dk_X3_tell 84 rfl)
    · refine g_case 2 h (fun c11 h => ?_) (fun c11 h => ?_)
      · refine g_tabIn (v := 2) (tgt := 85) (off := 84) F (dAt dk_X3_tell 1 rfl) c11 (by decide) (by decide) rfl (by decide) ?_
        refine g_aload_n F (dAt dk_X3_tell 29 rfl) 2 rfl ?_
        refine g_aload_n F (dAt dk_X3_tell 30 rfl) 0 rfl ?_
        refine gg_Reader_numbers F (gm mw_153 rfl) (dAt dk_X3_tell 31 rfl) ?_
        refine g_iconst (v := 0) F (dAt dk_X3_tell 32 rfl) (by decide) ?_
        refine g_ck h (fun hi12 h => ?_)
        refine g_ialoadc F ai_numbers (dAt dk_X3_tell 33 rfl) hi12 ?_
        refine g_aload_n F (dAt dk_X3_tell 34 rfl) 0 rfl ?_
        refine gg_Reader_numbers F (gm mw_153 rfl) (dAt dk_X3_tell 35 rfl) ?_
        refine g_iconst (v := 1) F (dAt dk_X3_tell 36 rfl) (by decide) ?_
        refine g_ck h (fun hi13 h => ?_)
        refine g_ialoadc F ai_numbers (dAt dk_X3_tell 37 rfl) hi13 ?_
        refine g_invV_vc F mi_X1_grindRoad (gm mw_529 rfl) (dAt dk_X3_tell 38 rfl) (rcx_of F (rc_Land x2)) [.int (t.1 36 (0 : Int32).toNatClampNeg), .int (t.1 36 (1 : Int32).toNatClampNeg)] rfl rfl (by decide) (Nat.le_of_ble_eq_true rfl) h (fun _ _ hf => c_X1_grindRoad hJ hf) (fun _ t14 h => ?_)
        refine g_goto (tgt := 178) F (dAt dk_X3_tell 39 rfl) (by decide) ?_
        cases h
        exact E (dAt dk_X3_tell 84 rfl)
      · refine g_case 3 h (fun c15 h => ?_) (fun c15 h => ?_)
        · refine g_tabIn (v := 3) (tgt := 104) (off := 103) F (dAt dk_X3_tell 1 rfl) c15 (by decide) (by decide) rfl (by decide) ?_
          refine g_aload_n F (dAt dk_X3_tell 40 rfl) 2 rfl ?_
          refine g_aload_n F (dAt dk_X3_tell 41 rfl) 0 rfl ?_
          refine gg_Reader_numbers F (gm mw_153 rfl) (dAt dk_X3_tell 42 rfl) ?_
          refine g_iconst (v := 0) F (dAt dk_X3_tell 43 rfl) (by decide) ?_
          refine g_ck h (fun hi16 h => ?_)
          refine g_ialoadc F ai_numbers (dAt dk_X3_tell 44 rfl) hi16 ?_
          refine gp_Land_flour x2 F (gm mw_107 rfl) (dAt dk_X3_tell 45 rfl) ?_
          refine g_ltt h (fun t17 h => ?_)
          refine g_goto (tgt := 178) F (dAt dk_X3_tell 46 rfl) (by decide) ?_
          cases h
          exact E (dAt dk_X3_tell 84 rfl)
        · refine g_case 4 h (fun c18 h => ?_) (fun c18 h => ?_)
          · refine g_tabIn (v := 4) (tgt := 117) (off := 116) F (dAt dk_X3_tell 1 rfl) c18 (by decide) (by decide) rfl (by decide) ?_
            refine g_aload_n F (dAt dk_X3_tell 47 rfl) 2 rfl ?_
            refine g_aload_n F (dAt dk_X3_tell 48 rfl) 0 rfl ?_
            refine gg_Reader_numbers F (gm mw_153 rfl) (dAt dk_X3_tell 49 rfl) ?_
            refine g_iconst (v := 0) F (dAt dk_X3_tell 50 rfl) (by decide) ?_
            refine g_ck h (fun hi19 h => ?_)
            refine g_ialoadc F ai_numbers (dAt dk_X3_tell 51 rfl) hi19 ?_
            refine gp_Land_wind x2 F (gm mw_110 rfl) (dAt dk_X3_tell 52 rfl) ?_
            refine g_ltt h (fun t20 h => ?_)
            refine g_goto (tgt := 178) F (dAt dk_X3_tell 53 rfl) (by decide) ?_
            cases h
            exact E (dAt dk_X3_tell 84 rfl)
          · refine g_case 5 h (fun c21 h => ?_) (fun c21 h => ?_)
            · refine g_tabIn (v := 5) (tgt := 130) (off := 129) F (dAt dk_X3_tell 1 rfl) c21 (by decide) (by decide) rfl (by decide) ?_
              refine g_aload_n F (dAt dk_X3_tell 54 rfl) 2 rfl ?_
              refine g_aload_n F (dAt dk_X3_tell 55 rfl) 0 rfl ?_
              refine gg_Reader_numbers F (gm mw_153 rfl) (dAt dk_X3_tell 56 rfl) ?_
              refine g_iconst (v := 0) F (dAt dk_X3_tell 57 rfl) (by decide) ?_
              refine g_ck h (fun hi22 h => ?_)
              refine g_ialoadc F ai_numbers (dAt dk_X3_tell 58 rfl) hi22 ?_
              refine g_aload_n F (dAt dk_X3_tell 59 rfl) 0 rfl ?_
              refine gg_Reader_numbers F (gm mw_153 rfl) (dAt dk_X3_tell 60 rfl) ?_
              refine g_iconst (v := 1) F (dAt dk_X3_tell 61 rfl) (by decide) ?_
              refine g_ck h (fun hi23 h => ?_)
              refine g_ialoadc F ai_numbers (dAt dk_X3_tell 62 rfl) hi23 ?_
              refine g_aload_n F (dAt dk_X3_tell 63 rfl) 0 rfl ?_
              refine gg_Reader_numbers F (gm mw_153 rfl) (dAt dk_X3_tell 64 rfl) ?_
              refine g_iconst (v := 2) F (dAt dk_X3_tell 65 rfl) (by decide) ?_
              refine g_ck h (fun hi24 h => ?_)
              refine g_ialoadc F ai_numbers (dAt dk_X3_tell 66 rfl) hi24 ?_
              refine g_ineg F (dAt dk_X3_tell 67 rfl) ?_
              refine g_invV_vc F mi_X1_pinch (gm mw_543 rfl) (dAt dk_X3_tell 68 rfl) (rcx_of F (rc_Land x2)) [.int (t.1 36 (0 : Int32).toNatClampNeg), .int (t.1 36 (1 : Int32).toNatClampNeg), .int (-(t.1 36 (2 : Int32).toNatClampNeg))] rfl rfl (by decide) (Nat.le_of_ble_eq_true rfl) h (fun _ _ hf => c_X1_pinch hJ hf) (fun _ t25 h => ?_)
              refine g_goto (tgt := 178) F (dAt dk_X3_tell 69 rfl) (by decide) ?_
              cases h
              exact E (dAt dk_X3_tell 84 rfl)
            · have := lv_neT c1 (a := 0) (by decide)
              have := lv_neT c6 (a := 1) (by decide)
              have := lv_neT c11 (a := 2) (by decide)
              have := lv_neT c15 (a := 3) (by decide)
              have := lv_neT c18 (a := 4) (by decide)
              have := lv_neT c21 (a := 5) (by decide)
              refine g_tabOut (tgt := 156) F (dAt dk_X3_tell 1 rfl) (by omega) (by decide) ?_
              refine g_aload_n F (dAt dk_X3_tell 70 rfl) 2 rfl ?_
              refine g_aload_n F (dAt dk_X3_tell 71 rfl) 0 rfl ?_
              refine gg_Reader_numbers F (gm mw_153 rfl) (dAt dk_X3_tell 72 rfl) ?_
              refine g_iconst (v := 0) F (dAt dk_X3_tell 73 rfl) (by decide) ?_
              refine g_ck h (fun hi26 h => ?_)
              refine g_ialoadc F ai_numbers (dAt dk_X3_tell 74 rfl) hi26 ?_
              refine g_aload_n F (dAt dk_X3_tell 75 rfl) 0 rfl ?_
              refine gg_Reader_numbers F (gm mw_153 rfl) (dAt dk_X3_tell 76 rfl) ?_
              refine g_iconst (v := 1) F (dAt dk_X3_tell 77 rfl) (by decide) ?_
              refine g_ck h (fun hi27 h => ?_)
              refine g_ialoadc F ai_numbers (dAt dk_X3_tell 78 rfl) hi27 ?_
              refine g_aload_n F (dAt dk_X3_tell 79 rfl) 0 rfl ?_
              refine gg_Reader_numbers F (gm mw_153 rfl) (dAt dk_X3_tell 80 rfl) ?_
              refine g_iconst (v := 2) F (dAt dk_X3_tell 81 rfl) (by decide) ?_
              refine g_ck h (fun hi28 h => ?_)
              refine g_ialoadc F ai_numbers (dAt dk_X3_tell 82 rfl) hi28 ?_
              refine g_invV_vc F mi_X1_pinch (gm mw_543 rfl) (dAt dk_X3_tell 83 rfl) (rcx_of F (rc_Land x2)) [.int (t.1 36 (0 : Int32).toNatClampNeg), .int (t.1 36 (1 : Int32).toNatClampNeg), .int (t.1 36 (2 : Int32).toNatClampNeg)] rfl rfl (by decide) (Nat.le_of_ble_eq_true rfl) h (fun _ _ hf => c_X1_pinch hJ hf) (fun _ t29 h => ?_)
              cases h
              exact E (dAt dk_X3_tell 84 rfl)
theorem mi_X3_readItem : MI yX3_readItem cX3_readItem 6 (some .boolean) "MillOfDistances$MapReader" 2 := ⟨(gm mw_419 rfl), (gm mw_418 rfl), (gm mw_4 rfl), (gm mw_72 rfl), by decide +kernel, by decide⟩
theorem c_X3_readItem {l : Launch} {D : va_G} {ad : Nat → Nat} {g : Gv} {t u : Mem} {n : Nat} {x1 : Fin 8} {x2 : Fin 3} {t' : Mem} {r : Int32} (hJ : Jad ad) (h : f_X3_readItem n x1 x2 t = some (r, t')) : ConI l yX3_readItem cX3_readItem 6 (some .boolean) 6 [.ref (ad 35), .ref (ad (oSh x1)), .ref (ad (oLd x2))] D ad g t u t' u r := by
  refine con_i hJ (by decide) (Nat.le_of_ble_eq_true rfl) rfl (fun X F E => ?_)
  have J111 : ∀ (v4 : Int32) (t0 : Mem), jn_X3_readItem_111 n x1 x2 v4 t0 = some (r, t') → G X D ad g t0 u [(0, .ref (ad 35)), (2, .ref (ad (oLd x2))), (4, .int v4)] 111 [] := by
    intro v4 t0 h
    unfold jn_X3_readItem_111 at h
    refine g_aload_n F (dAt dk_X3_readItem 58 rfl) 0 rfl ?_
    refine g_iload F (dAt dk_X3_readItem 59 rfl) 2 rfl ?_
    refine g_aload_n F (dAt dk_X3_readItem 60 rfl) 1 rfl ?_
    refine g_invV_vc F mi_X3_tell (gm mw_523 rfl) (dAt dk_X3_readItem 61 rfl) (rcx_of F rc_Reader) [.int v4, .ref (ad (oLd x2))] rfl rfl (by decide) (Nat.le_of_ble_eq_true rfl) h (fun _ _ hf => c_X3_tell hJ hf) (fun _ t20 h => ?_)
    refine g_iconst (v := 1) F (dAt dk_X3_readItem 62 rfl) (by decide) ?_
    cases h
    exact E (dAt dk_X3_readItem 63 rfl) rfl
  have H50 : ∀ (k : Nat) (s : Int32 × Int32 × Mem), iter (bd_X3_readItem_50 n x1 x2) k s = some (r, t') → G X D ad g s.2.2 u [(0, .ref (ad 35)), (1, .ref (ad (oSh x1))), (2, .ref (ad (oLd x2))), (4, .int s.1), (5, .int s.2.1)] 50 [] := by
    refine iter_walk (P := fun (s : Int32 × Int32 × Mem) => G X D ad g s.2.2 u [(0, .ref (ad 35)), (1, .ref (ad (oSh x1))), (2, .ref (ad (oLd x2))), (4, .int s.1), (5, .int s.2.1)] 50 []) (fun self50 ih50 s h => ?_)
    obtain ⟨v4, v5, t0⟩ := s
    change G X D ad g t0 u [(0, .ref (ad 35)), (1, .ref (ad (oSh x1))), (2, .ref (ad (oLd x2))), (4, .int v4), (5, .int v5)] 50 []
    unfold bd_X3_readItem_50 at h; try dsimp only at h
    refine g_iload F (dAt dk_X3_readItem 27 rfl) 4 rfl ?_
    refine g_getsK1 F (gm mw_424 rfl) (dAt dk_X3_readItem 28 rfl) ?_
    refine g_iload F (dAt dk_X3_readItem 29 rfl) 3 rfl ?_
    refine g_ck h (fun hi10 h => ?_)
    refine g_ialdK1 F (dAt dk_X3_readItem 30 rfl) hi10 ?_
    refine g_icmp_ge (tgt := 111) F (dAt dk_X3_readItem 31 rfl) (by decide) h (fun c11 h => ?_) (fun c11 h => ?_)
    · refine g_sub (lv' := [(0, .ref (ad 35)), (2, .ref (ad (oLd x2))), (4, .int v4)]) [0, 2, 3] rfl ?_
      exact J111  v4 t0 h
    · refine g_iload F (dAt dk_X3_readItem 32 rfl) 4 rfl ?_
      refine g_aload_n F (dAt dk_X3_readItem 33 rfl) 0 rfl ?_
      refine gg_Reader_numbers F (gm mw_153 rfl) (dAt dk_X3_readItem 34 rfl) ?_
      refine g_alenI (v := 3) F ai_numbers (by decide) (dAt dk_X3_readItem 35 rfl) ?_
      refine g_icmp_ge (tgt := 111) F (dAt dk_X3_readItem 36 rfl) (by decide) h (fun c12 h => ?_) (fun c12 h => ?_)
      · refine g_sub (lv' := [(0, .ref (ad 35)), (2, .ref (ad (oLd x2))), (4, .int v4)]) [0, 2, 3] rfl ?_
        exact J111  v4 t0 h
      · refine g_aload_n F (dAt dk_X3_readItem 37 rfl) 0 rfl ?_
        refine g_aload_n F (dAt dk_X3_readItem 38 rfl) 1 rfl ?_
        refine g_iload F (dAt dk_X3_readItem 39 rfl) 4 rfl ?_
        refine g_invV_ic F mi_X3_readNumber (gm mw_496 rfl) (dAt dk_X3_readItem 40 rfl) (rcx_of F rc_Reader) [.ref (ad (oSh x1)), .int v5] rfl rfl (by decide) (Nat.le_of_ble_eq_true rfl) h (fun _ _ hf => c_X3_readNumber hJ hf) (fun r13 t14 h => ?_)
        refine g_if_ne (tgt := 83) F (dAt dk_X3_readItem 41 rfl) (by decide) h (fun c15 h => ?_) (fun c15 h => ?_)
        · refine g_aload_n F (dAt dk_X3_readItem 44 rfl) 0 rfl ?_
          refine g_iload F (dAt dk_X3_readItem 45 rfl) 3 rfl ?_
          refine g_iload F (dAt dk_X3_readItem 46 rfl) 4 rfl ?_
          refine g_aload_n F (dAt dk_X3_readItem 47 rfl) 2 rfl ?_
          refine g_invV_ic F mi_X3_stands (gm mw_503 rfl) (dAt dk_X3_readItem 48 rfl) (rcx_of F rc_Reader) [.int v4, .int v5, .ref (ad (oLd x2))] rfl rfl (by decide) (Nat.le_of_ble_eq_true rfl) h (fun _ _ hf => c_X3_stands hJ hf) (fun r16 t17 h => ?_)
          refine g_if_ne (tgt := 105) F (dAt dk_X3_readItem 49 rfl) (by decide) h (fun c18 h => ?_) (fun c18 h => ?_)
          · refine g_iinc (lv' := [(5, .int (v5 + 1)), (0, .ref (ad 35)), (1, .ref (ad (oSh x1))), (2, .ref (ad (oLd x2))), (4, .int v4)]) F (dAt dk_X3_readItem 56 rfl) 4 rfl (w := 1) (by decide) (by decide) rfl ?_
            refine g_goto (tgt := 50) F (dAt dk_X3_readItem 57 rfl) (by decide) ?_
            refine g_sub (lv' := [(0, .ref (ad 35)), (1, .ref (ad (oSh x1))), (2, .ref (ad (oLd x2))), (4, .int v4), (5, .int (v5 + 1))]) [1, 2, 3, 4, 0] rfl ?_
            exact ih50 (v4, (v5 + 1), t17) h
          · refine g_aload_n F (dAt dk_X3_readItem 50 rfl) 0 rfl ?_
            refine g_aload_n F (dAt dk_X3_readItem 51 rfl) 0 rfl ?_
            refine gg_Reader_numberStart F (gm mw_155 rfl) (dAt dk_X3_readItem 52 rfl) ?_
            refine gp_Reader_fault F (gm mw_151 rfl) (dAt dk_X3_readItem 53 rfl) ?_
            refine g_ltt h (fun t19 h => ?_)
            refine g_iconst (v := 0) F (dAt dk_X3_readItem 54 rfl) (by decide) ?_
            cases h
            exact E (dAt dk_X3_readItem 55 rfl) rfl
        · refine g_iconst (v := 0) F (dAt dk_X3_readItem 42 rfl) (by decide) ?_
          cases h
          exact E (dAt dk_X3_readItem 43 rfl) rfl
  have J47 : ∀ (v4 : Int32) (t0 : Mem), jn_X3_readItem_47 n x1 x2 v4 t0 = some (r, t') → G X D ad g t0 u [(0, .ref (ad 35)), (1, .ref (ad (oSh x1))), (2, .ref (ad (oLd x2))), (4, .int v4)] 47 [] := by
    intro v4 t0 h
    unfold jn_X3_readItem_47 at h
    refine g_iconst (v := 0) F (dAt dk_X3_readItem 25 rfl) (by decide) ?_
    refine g_istore (lv' := [(5, .int 0), (0, .ref (ad 35)), (1, .ref (ad (oSh x1))), (2, .ref (ad (oLd x2))), (4, .int v4)]) F (dAt dk_X3_readItem 26 rfl) (by decide) rfl ?_
    refine g_sub (lv' := [(0, .ref (ad 35)), (1, .ref (ad (oSh x1))), (2, .ref (ad (oLd x2))), (4, .int v4), (5, .int 0)]) [1, 2, 3, 4, 0] rfl ?_
    exact H50  n (v4, 0, t0) h
  refine g_lv (lv' := [(0, .ref (ad 35)), (1, .ref (ad (oSh x1))), (2, .ref (ad (oLd x2)))]) rfl ?_
  unfold f_X3_readItem at h
  refine g_aload_n F (dAt dk_X3_readItem 0 rfl) 0 rfl ?_
  refine gg_Reader_next F (gm mw_154 rfl) (dAt dk_X3_readItem 1 rfl) ?_
  refine g_istore_n (lv' := [(3, .int (t.1 35 2)), (0, .ref (ad 35)), (1, .ref (ad (oSh x1))), (2, .ref (ad (oLd x2)))]) F (dAt dk_X3_readItem 2 rfl) (by decide) rfl ?_
  refine g_aload_n F (dAt dk_X3_readItem 3 rfl) 1 rfl ?_
  refine g_aload_n F (dAt dk_X3_readItem 4 rfl) 2 rfl ?_
  refine g_invV_ic F mi_X3_readWord (gm mw_420 rfl) (dAt dk_X3_readItem 5 rfl) (rcx_of F rc_Reader) [.ref (ad (oSh x1))] rfl rfl (by decide) (Nat.le_of_ble_eq_true rfl) h (fun _ _ hf => c_X3_readWord hJ hf) (fun r1 t2 h => ?_)
  refine g_istore (lv' := [(4, .int r1), (3, .int (t.1 35 2)), (0, .ref (ad 35)), (1, .ref (ad (oSh x1))), (2, .ref (ad (oLd x2)))]) F (dAt dk_X3_readItem 6 rfl) (by decide) rfl ?_
  refine g_iload F (dAt dk_X3_readItem 7 rfl) 0 rfl ?_
  refine g_if_lt (tgt := 26) F (dAt dk_X3_readItem 8 rfl) (by decide) h (fun c3 h => ?_) (fun c3 h => ?_)
  · refine g_iconst (v := 0) F (dAt dk_X3_readItem 13 rfl) (by decide) ?_
    cases h
    exact E (dAt dk_X3_readItem 14 rfl) rfl
  · refine g_iload F (dAt dk_X3_readItem 9 rfl) 0 rfl ?_
    refine g_getsK1 F (gm mw_424 rfl) (dAt dk_X3_readItem 10 rfl) ?_
    refine g_alenK1 F (dAt dk_X3_readItem 11 rfl) ?_
    refine g_icmp_lt (tgt := 28) F (dAt dk_X3_readItem 12 rfl) (by decide) h (fun c4 h => ?_) (fun c4 h => ?_)
    · refine g_iload F (dAt dk_X3_readItem 15 rfl) 0 rfl ?_
      refine g_if_ne (tgt := 47) F (dAt dk_X3_readItem 16 rfl) (by decide) h (fun c5 h => ?_) (fun c5 h => ?_)
      · refine g_sub (lv' := [(0, .ref (ad 35)), (1, .ref (ad (oSh x1))), (2, .ref (ad (oLd x2))), (4, .int r1)]) [2, 3, 4, 0] rfl ?_
        exact J47  r1 t2 h
      · refine g_aload_n F (dAt dk_X3_readItem 17 rfl) 4 rfl ?_
        refine g_invV_ic F mi_X1_hasRoom (gm mw_495 rfl) (dAt dk_X3_readItem 18 rfl) (rcx_of F (rc_Land x2)) [] rfl rfl (by decide) (Nat.le_of_ble_eq_true rfl) h (fun _ _ hf => c_X1_hasRoom hJ hf) (fun r6 t7 h => ?_)
        refine g_if_ne (tgt := 47) F (dAt dk_X3_readItem 19 rfl) (by decide) h (fun c8 h => ?_) (fun c8 h => ?_)
        · refine g_sub (lv' := [(0, .ref (ad 35)), (1, .ref (ad (oSh x1))), (2, .ref (ad (oLd x2))), (4, .int r1)]) [2, 3, 4, 0] rfl ?_
          exact J47  r1 t7 h
        · refine g_aload_n F (dAt dk_X3_readItem 20 rfl) 2 rfl ?_
          refine g_iload_n F (dAt dk_X3_readItem 21 rfl) 1 rfl ?_
          refine gp_Reader_fault F (gm mw_151 rfl) (dAt dk_X3_readItem 22 rfl) ?_
          refine g_ltt h (fun t9 h => ?_)
          refine g_iconst (v := 0) F (dAt dk_X3_readItem 23 rfl) (by decide) ?_
          cases h
          exact E (dAt dk_X3_readItem 24 rfl) rfl
    · refine g_iconst (v := 0) F (dAt dk_X3_readItem 13 rfl) (by decide) ?_
      cases h
      exact E (dAt dk_X3_readItem 14 rfl) rfl
theorem mi_X3_read : MI yX3_read cX3_read 4 (some .int) "MillOfDistances$MapReader" 2 := ⟨(gm mw_415 rfl), (gm mw_413 rfl), (gm mw_414 rfl), (gm mw_72 rfl), by decide +kernel, by decide⟩
theorem c_X3_read {l : Launch} {D : va_G} {ad : Nat → Nat} {g : Gv} {t u : Mem} {n : Nat} {x1 : Fin 8} {x2 : Fin 3} {t' : Mem} {r : Int32} (hJ : Jad ad) (h : f_X3_read n x1 x2 t = some (r, t')) : ConI l yX3_read cX3_read 4 (some .int) 7 [.ref (ad 35), .ref (ad (oSh x1)), .ref (ad (oLd x2))] D ad g t u t' u r := by
  refine con_i hJ (by decide) (Nat.le_of_ble_eq_true rfl) rfl (fun X F E => ?_)
  have H12 : ∀ (k : Nat) (s : Int32 × Mem), iter (bd_X3_read_12 n x1 x2) k s = some (r, t') → G X D ad g s.2 u [(0, .ref (ad 35)), (1, .ref (ad (oSh x1))), (2, .ref (ad (oLd x2))), (3, .int s.1)] 12 [] := by
    refine iter_walk (P := fun (s : Int32 × Mem) => G X D ad g s.2 u [(0, .ref (ad 35)), (1, .ref (ad (oSh x1))), (2, .ref (ad (oLd x2))), (3, .int s.1)] 12 []) (fun self12 ih12 s h => ?_)
    obtain ⟨v3, t0⟩ := s
    change G X D ad g t0 u [(0, .ref (ad 35)), (1, .ref (ad (oSh x1))), (2, .ref (ad (oLd x2))), (3, .int v3)] 12 []
    unfold bd_X3_read_12 at h; try dsimp only at h
    refine g_iload_n F (dAt dk_X3_read 8 rfl) 3 rfl ?_
    refine g_sipush (v := 160) F (dAt dk_X3_read 9 rfl) (by decide) ?_
    refine g_icmp_gt (tgt := 80) F (dAt dk_X3_read 10 rfl) (by decide) h (fun c3 h => ?_) (fun c3 h => ?_)
    · refine g_iload_n F (dAt dk_X3_read 43 rfl) 3 rfl ?_
      cases h
      exact E (dAt dk_X3_read 44 rfl) rfl
    · refine g_aload_n F (dAt dk_X3_read 11 rfl) 0 rfl ?_
      refine g_aload_n F (dAt dk_X3_read 12 rfl) 1 rfl ?_
      refine g_aload_n F (dAt dk_X3_read 13 rfl) 2 rfl ?_
      refine g_invV_ic F mi_X3_readItem (gm mw_416 rfl) (dAt dk_X3_read 14 rfl) (rcx_of F rc_Reader) [.ref (ad (oSh x1)), .ref (ad (oLd x2))] rfl rfl (by decide) (Nat.le_of_ble_eq_true rfl) h (fun _ _ hf => c_X3_readItem hJ hf) (fun r4 t5 h => ?_)
      refine g_if_eq (tgt := 80) F (dAt dk_X3_read 15 rfl) (by decide) h (fun c6 h => ?_) (fun c6 h => ?_)
      · refine g_iload_n F (dAt dk_X3_read 43 rfl) 3 rfl ?_
        cases h
        exact E (dAt dk_X3_read 44 rfl) rfl
      · refine g_iinc (lv' := [(3, .int (v3 + 1)), (0, .ref (ad 35)), (1, .ref (ad (oSh x1))), (2, .ref (ad (oLd x2)))]) F (dAt dk_X3_read 16 rfl) 3 rfl (w := 1) (by decide) (by decide) rfl ?_
        refine g_aload_n F (dAt dk_X3_read 17 rfl) 1 rfl ?_
        refine gg_Reader_next F (gm mw_154 rfl) (dAt dk_X3_read 18 rfl) ?_
        refine g_aload_n F (dAt dk_X3_read 19 rfl) 2 rfl ?_
        refine gg_Shelf_size x1 F (gm mw_195 rfl) (dAt dk_X3_read 20 rfl) ?_
        refine g_icmp_lt (tgt := 44) F (dAt dk_X3_read 21 rfl) (by decide) h (fun c7 h => ?_) (fun c7 h => ?_)
        · refine g_aload_n F (dAt dk_X3_read 24 rfl) 2 rfl ?_
          refine g_aload_n F (dAt dk_X3_read 25 rfl) 1 rfl ?_
          refine gg_Reader_next F (gm mw_154 rfl) (dAt dk_X3_read 26 rfl) ?_
          refine g_invV_ic F mi_X4_asInt (gm mw_450 rfl) (dAt dk_X3_read 27 rfl) (rcx_of F (rc_Shelf x1)) [.int (t5.1 35 2)] rfl rfl (by decide) (Nat.le_of_ble_eq_true rfl) h (fun _ _ hf => c_X4_asInt hJ hf) (fun r8 t9 h => ?_)
          refine g_bipush (v := 59) F (dAt dk_X3_read 28 rfl) (by decide) ?_
          refine g_icmp_eq (tgt := 67) F (dAt dk_X3_read 29 rfl) (by decide) h (fun c10 h => ?_) (fun c10 h => ?_)
          · refine g_aload_n F (dAt dk_X3_read 36 rfl) 1 rfl ?_
            refine g_dup F (dAt dk_X3_read 37 rfl) rfl ?_
            refine gg_Reader_next F (gm mw_154 rfl) (dAt dk_X3_read 38 rfl) ?_
            refine g_iconst (v := 1) F (dAt dk_X3_read 39 rfl) (by decide) ?_
            refine g_iadd F (dAt dk_X3_read 40 rfl) ?_
            refine gp_Reader_next F (gm mw_154 rfl) (dAt dk_X3_read 41 rfl) ?_
            refine g_ltt h (fun t11 h => ?_)
            refine g_goto (tgt := 12) F (dAt dk_X3_read 42 rfl) (by decide) ?_
            refine g_sub (lv' := [(0, .ref (ad 35)), (1, .ref (ad (oSh x1))), (2, .ref (ad (oLd x2))), (3, .int (v3 + 1))]) [1, 2, 3, 0] rfl ?_
            exact ih12 ((v3 + 1), t11) h
          · refine g_aload_n F (dAt dk_X3_read 30 rfl) 1 rfl ?_
            refine g_aload_n F (dAt dk_X3_read 31 rfl) 1 rfl ?_
            refine gg_Reader_next F (gm mw_154 rfl) (dAt dk_X3_read 32 rfl) ?_
            refine gp_Reader_fault F (gm mw_151 rfl) (dAt dk_X3_read 33 rfl) ?_
            refine g_ltt h (fun t12 h => ?_)
            refine g_iload_n F (dAt dk_X3_read 34 rfl) 0 rfl ?_
            cases h
            exact E (dAt dk_X3_read 35 rfl) rfl
        · refine g_iload_n F (dAt dk_X3_read 22 rfl) 0 rfl ?_
          cases h
          exact E (dAt dk_X3_read 23 rfl) rfl
  refine g_lv (lv' := [(0, .ref (ad 35)), (1, .ref (ad (oSh x1))), (2, .ref (ad (oLd x2)))]) rfl ?_
  unfold f_X3_read at h
  refine g_aload_n F (dAt dk_X3_read 0 rfl) 0 rfl ?_
  refine g_iconst (v := (-1)) F (dAt dk_X3_read 1 rfl) (by decide) ?_
  refine gp_Reader_fault F (gm mw_151 rfl) (dAt dk_X3_read 2 rfl) ?_
  refine g_ltt h (fun t1 h => ?_)
  refine g_aload_n F (dAt dk_X3_read 3 rfl) 0 rfl ?_
  refine g_iconst (v := 0) F (dAt dk_X3_read 4 rfl) (by decide) ?_
  refine gp_Reader_next F (gm mw_154 rfl) (dAt dk_X3_read 5 rfl) ?_
  refine g_ltt h (fun t2 h => ?_)
  refine g_iconst (v := 0) F (dAt dk_X3_read 6 rfl) (by decide) ?_
  refine g_istore_n (lv' := [(3, .int 0), (0, .ref (ad 35)), (1, .ref (ad (oSh x1))), (2, .ref (ad (oLd x2)))]) F (dAt dk_X3_read 7 rfl) (by decide) rfl ?_
  refine g_sub (lv' := [(0, .ref (ad 35)), (1, .ref (ad (oSh x1))), (2, .ref (ad (oLd x2))), (3, .int 0)]) [1, 2, 3, 0] rfl ?_
  exact H12  n (0, t2) h
theorem mi_X4_holdsRow : MI yX4_holdsRow cX4_holdsRow 1 (some .boolean) "MillOfDistances$Shelf" 0 := ⟨(gm mw_276 rfl), (gm mw_274 rfl), (gm mw_275 rfl), (gm mw_74 rfl), by decide +kernel, by decide⟩
theorem c_X4_holdsRow {l : Launch} {D : va_G} {ad : Nat → Nat} {g : Gv} {t u : Mem} {K : Fin 8} {t' : Mem} {r : Int32} (hJ : Jad ad) (h : f_X4_holdsRow K t = some (r, t')) : ConI l yX4_holdsRow cX4_holdsRow 1 (some .boolean) 0 [.ref (ad (oSh K))] D ad g t u t' u r := by
  refine con_i hJ (by decide) (Nat.le_of_ble_eq_true rfl) rfl (fun X F E => ?_)
  refine g_lv (lv' := [(0, .ref (ad (oSh K)))]) rfl ?_
  unfold f_X4_holdsRow at h
  refine g_aload_n F (dAt dk_X4_holdsRow 0 rfl) 0 rfl ?_
  refine gg_Shelf_sort K F (gm mw_198 rfl) (dAt dk_X4_holdsRow 1 rfl) ?_
  refine g_iconst (v := (-1)) F (dAt dk_X4_holdsRow 2 rfl) (by decide) ?_
  refine g_icmp_eq (tgt := 12) F (dAt dk_X4_holdsRow 3 rfl) (by decide) h (fun c1 h => ?_) (fun c1 h => ?_)
  · refine g_iconst (v := 0) F (dAt dk_X4_holdsRow 6 rfl) (by decide) ?_
    cases h
    exact E (dAt dk_X4_holdsRow 7 rfl) rfl
  · refine g_iconst (v := 1) F (dAt dk_X4_holdsRow 4 rfl) (by decide) ?_
    refine g_goto (tgt := 13) F (dAt dk_X4_holdsRow 5 rfl) (by decide) ?_
    cases h
    exact E (dAt dk_X4_holdsRow 7 rfl) rfl
theorem mi_X4_holdsPlace : MI yX4_holdsPlace cX4_holdsPlace 1 (some .boolean) "MillOfDistances$Shelf" 0 := ⟨(gm mw_272 rfl), (gm mw_270 rfl), (gm mw_271 rfl), (gm mw_74 rfl), by decide +kernel, by decide⟩
theorem c_X4_holdsPlace {l : Launch} {D : va_G} {ad : Nat → Nat} {g : Gv} {t u : Mem} {K : Fin 8} {t' : Mem} {r : Int32} (hJ : Jad ad) (h : f_X4_holdsPlace K t = some (r, t')) : ConI l yX4_holdsPlace cX4_holdsPlace 1 (some .boolean) 0 [.ref (ad (oSh K))] D ad g t u t' u r := by
  refine con_i hJ (by decide) (Nat.le_of_ble_eq_true rfl) rfl (fun X F E => ?_)
  refine g_lv (lv' := [(0, .ref (ad (oSh K)))]) rfl ?_
  unfold f_X4_holdsPlace at h
  refine g_aload_n F (dAt dk_X4_holdsPlace 0 rfl) 0 rfl ?_
  refine gg_Shelf_place K F (gm mw_200 rfl) (dAt dk_X4_holdsPlace 1 rfl) ?_
  refine g_iconst (v := (-1)) F (dAt dk_X4_holdsPlace 2 rfl) (by decide) ?_
  refine g_icmp_eq (tgt := 12) F (dAt dk_X4_holdsPlace 3 rfl) (by decide) h (fun c1 h => ?_) (fun c1 h => ?_)
  · refine g_iconst (v := 0) F (dAt dk_X4_holdsPlace 6 rfl) (by decide) ?_
    cases h
    exact E (dAt dk_X4_holdsPlace 7 rfl) rfl
  · refine g_iconst (v := 1) F (dAt dk_X4_holdsPlace 4 rfl) (by decide) ?_
    refine g_goto (tgt := 13) F (dAt dk_X4_holdsPlace 5 rfl) (by decide) ?_
    cases h
    exact E (dAt dk_X4_holdsPlace 7 rfl) rfl
theorem ms_J7_fill_d0a16 : MS yJ7_fill_d0a16 cJ7_fill_d0a16 5 none 2 := ⟨(gm mw_261 rfl), (gm mw_260 rfl), (gm mw_76 rfl), by decide +kernel, by decide⟩
theorem c_J7_fill_d0a16 {l : Launch} {D : va_G} {ad : Nat → Nat} {g : Gv} {t u : Mem} {n : Nat} {x0 : Fin 8} {x1 : Int64} {t' : Mem} (hJ : Jad ad) (h : f_J7_fill_d0a16 n x0 x1 t = some ((), t')) : ConV l yJ7_fill_d0a16 cJ7_fill_d0a16 5 none 0 [.ref (ad (oEl x0)), .long x1] D ad g t u t' u := by
  refine con_v hJ (by decide) (Nat.le_of_ble_eq_true rfl) rfl (fun X F E => ?_)
  have H6 : ∀ (k : Nat) (s : Int32 × Int32 × Mem), iter (bd_J7_fill_d0a16_6 n x0 x1) k s = some ((), t') → G X D ad g s.2.2 u [(0, .ref (ad (oEl x0))), (1, .long x1), (3, .int s.1), (4, .int s.2.1)] 6 [] := by
    refine iter_walk (P := fun (s : Int32 × Int32 × Mem) => G X D ad g s.2.2 u [(0, .ref (ad (oEl x0))), (1, .long x1), (3, .int s.1), (4, .int s.2.1)] 6 []) (fun self6 ih6 s h => ?_)
    obtain ⟨v3, v4, t0⟩ := s
    change G X D ad g t0 u [(0, .ref (ad (oEl x0))), (1, .long x1), (3, .int v3), (4, .int v4)] 6 []
    unfold bd_J7_fill_d0a16_6 at h; try dsimp only at h
    refine g_iload_n F (dAt dk_J7_fill_d0a16 5 rfl) 2 rfl ?_
    refine g_iload F (dAt dk_J7_fill_d0a16 6 rfl) 3 rfl ?_
    refine g_icmp_ge (tgt := 22) F (dAt dk_J7_fill_d0a16 7 rfl) (by decide) h (fun c1 h => ?_) (fun c1 h => ?_)
    · cases h
      exact E (dAt dk_J7_fill_d0a16 14 rfl)
    · refine g_aload_n F (dAt dk_J7_fill_d0a16 8 rfl) 0 rfl ?_
      refine g_iload_n F (dAt dk_J7_fill_d0a16 9 rfl) 2 rfl ?_
      refine g_lload_n F (dAt dk_J7_fill_d0a16 10 rfl) 1 rfl ?_
      refine g_ck h (fun hi2 h => ?_)
      refine g_lastorec F (ai_elements x0) (dAt dk_J7_fill_d0a16 11 rfl) hi2 ?_
      refine g_ltt h (fun t3 h => ?_)
      refine g_iinc (lv' := [(3, .int (v3 + 1)), (0, .ref (ad (oEl x0))), (1, .long x1), (4, .int v4)]) F (dAt dk_J7_fill_d0a16 12 rfl) 2 rfl (w := 1) (by decide) (by decide) rfl ?_
      refine g_goto (tgt := 6) F (dAt dk_J7_fill_d0a16 13 rfl) (by decide) ?_
      refine g_sub (lv' := [(0, .ref (ad (oEl x0))), (1, .long x1), (3, .int (v3 + 1)), (4, .int v4)]) [1, 2, 0, 3] rfl ?_
      exact ih6 ((v3 + 1), v4, t3) h
  refine g_lv (lv' := [(0, .ref (ad (oEl x0))), (1, .long x1)]) rfl ?_
  unfold f_J7_fill_d0a16 at h
  refine g_iconst (v := 0) F (dAt dk_J7_fill_d0a16 0 rfl) (by decide) ?_
  refine g_istore_n (lv' := [(3, .int 0), (0, .ref (ad (oEl x0))), (1, .long x1)]) F (dAt dk_J7_fill_d0a16 1 rfl) (by decide) rfl ?_
  refine g_aload_n F (dAt dk_J7_fill_d0a16 2 rfl) 1 rfl ?_
  refine g_alenL (v := 160) F (ai_elements x0) (by decide) (dAt dk_J7_fill_d0a16 3 rfl) ?_
  refine g_istore (lv' := [(4, .int 160), (3, .int 0), (0, .ref (ad (oEl x0))), (1, .long x1)]) F (dAt dk_J7_fill_d0a16 4 rfl) (by decide) rfl ?_
  refine g_sub (lv' := [(0, .ref (ad (oEl x0))), (1, .long x1), (3, .int 0), (4, .int 160)]) [2, 3, 1, 0] rfl ?_
  exact H6  n (0, 160, t) h
theorem mi_X4_takeRow : MI yX4_takeRow cX4_takeRow 3 none "MillOfDistances$Shelf" 2 := ⟨(gm mw_258 rfl), (gm mw_256 rfl), (gm mw_257 rfl), (gm mw_74 rfl), by decide +kernel, by decide⟩
theorem c_X4_takeRow {l : Launch} {D : va_G} {ad : Nat → Nat} {g : Gv} {t u : Mem} {n : Nat} {K : Fin 8} {x1 : Int32} {x2 : Int32} {t' : Mem} (hJ : Jad ad) (h : f_X4_takeRow n K x1 x2 t = some ((), t')) : ConV l yX4_takeRow cX4_takeRow 3 none 1 [.ref (ad (oSh K)), .int x1, .int x2] D ad g t u t' u := by
  refine con_v hJ (by decide) (Nat.le_of_ble_eq_true rfl) rfl (fun X F E => ?_)
  refine g_lv (lv' := [(0, .ref (ad (oSh K))), (1, .int x1), (2, .int x2)]) rfl ?_
  unfold f_X4_takeRow at h
  refine g_aload_n F (dAt dk_X4_takeRow 0 rfl) 0 rfl ?_
  refine g_iconst (v := (-1)) F (dAt dk_X4_takeRow 1 rfl) (by decide) ?_
  refine gp_Shelf_place K F (gm mw_200 rfl) (dAt dk_X4_takeRow 2 rfl) ?_
  refine g_ltt h (fun t1 h => ?_)
  refine g_aload_n F (dAt dk_X4_takeRow 3 rfl) 0 rfl ?_
  refine g_iload_n F (dAt dk_X4_takeRow 4 rfl) 1 rfl ?_
  refine gp_Shelf_sort K F (gm mw_198 rfl) (dAt dk_X4_takeRow 5 rfl) ?_
  refine g_ltt h (fun t2 h => ?_)
  refine g_aload_n F (dAt dk_X4_takeRow 6 rfl) 0 rfl ?_
  refine g_iload_n F (dAt dk_X4_takeRow 7 rfl) 2 rfl ?_
  refine gp_Shelf_size K F (gm mw_196 rfl) (dAt dk_X4_takeRow 8 rfl) ?_
  refine g_ltt h (fun t3 h => ?_)
  refine g_aload_n F (dAt dk_X4_takeRow 9 rfl) 0 rfl ?_
  refine gg_Shelf_elements K F (gm mw_193 rfl) (dAt dk_X4_takeRow 10 rfl) ?_
  refine g_lconst (v := 0) F (dAt dk_X4_takeRow 11 rfl) (by decide) ?_
  refine g_invS_vc F ms_J7_fill_d0a16 (gm mw_259 rfl) (dAt dk_X4_takeRow 12 rfl) [.ref (ad (oEl K)), .long 0] rfl rfl (by decide) (Nat.le_of_ble_eq_true rfl) h (fun _ _ hf => c_J7_fill_d0a16 hJ hf) (fun _ t4 h => ?_)
  cases h
  exact E (dAt dk_X4_takeRow 13 rfl)
theorem mi_X4_takePlace : MI yX4_takePlace cX4_takePlace 2 none "MillOfDistances$Shelf" 1 := ⟨(gm mw_319 rfl), (gm mw_317 rfl), (gm mw_318 rfl), (gm mw_74 rfl), by decide +kernel, by decide⟩
theorem c_X4_takePlace {l : Launch} {D : va_G} {ad : Nat → Nat} {g : Gv} {t u : Mem} {K : Fin 8} {x1 : Int32} {t' : Mem} (hJ : Jad ad) (h : f_X4_takePlace K x1 t = some ((), t')) : ConV l yX4_takePlace cX4_takePlace 2 none 0 [.ref (ad (oSh K)), .int x1] D ad g t u t' u := by
  refine con_v hJ (by decide) (Nat.le_of_ble_eq_true rfl) rfl (fun X F E => ?_)
  refine g_lv (lv' := [(0, .ref (ad (oSh K))), (1, .int x1)]) rfl ?_
  unfold f_X4_takePlace at h
  refine g_aload_n F (dAt dk_X4_takePlace 0 rfl) 0 rfl ?_
  refine g_iload_n F (dAt dk_X4_takePlace 1 rfl) 1 rfl ?_
  refine gp_Shelf_place K F (gm mw_200 rfl) (dAt dk_X4_takePlace 2 rfl) ?_
  refine g_ltt h (fun t1 h => ?_)
  refine g_aload_n F (dAt dk_X4_takePlace 3 rfl) 0 rfl ?_
  refine g_iconst (v := (-1)) F (dAt dk_X4_takePlace 4 rfl) (by decide) ?_
  refine gp_Shelf_sort K F (gm mw_198 rfl) (dAt dk_X4_takePlace 5 rfl) ?_
  refine g_ltt h (fun t2 h => ?_)
  refine g_aload_n F (dAt dk_X4_takePlace 6 rfl) 0 rfl ?_
  refine g_iconst (v := 0) F (dAt dk_X4_takePlace 7 rfl) (by decide) ?_
  refine gp_Shelf_size K F (gm mw_196 rfl) (dAt dk_X4_takePlace 8 rfl) ?_
  refine g_ltt h (fun t3 h => ?_)
  cases h
  exact E (dAt dk_X4_takePlace 9 rfl)
theorem mi_X4_hasElements : MI yX4_hasElements cX4_hasElements 3 (some .boolean) "MillOfDistances$Shelf" 2 := ⟨(gm mw_280 rfl), (gm mw_278 rfl), (gm mw_279 rfl), (gm mw_74 rfl), by decide +kernel, by decide⟩
theorem c_X4_hasElements {l : Launch} {D : va_G} {ad : Nat → Nat} {g : Gv} {t u : Mem} {K : Fin 8} {x1 : Int32} {x2 : Int32} {t' : Mem} {r : Int32} (hJ : Jad ad) (h : f_X4_hasElements K x1 x2 t = some (r, t')) : ConI l yX4_hasElements cX4_hasElements 3 (some .boolean) 0 [.ref (ad (oSh K)), .int x1, .int x2] D ad g t u t' u r := by
  refine con_i hJ (by decide) (Nat.le_of_ble_eq_true rfl) rfl (fun X F E => ?_)
  refine g_lv (lv' := [(0, .ref (ad (oSh K))), (1, .int x1), (2, .int x2)]) rfl ?_
  unfold f_X4_hasElements at h
  refine g_iload_n F (dAt dk_X4_hasElements 0 rfl) 1 rfl ?_
  refine g_if_lt (tgt := 30) F (dAt dk_X4_hasElements 1 rfl) (by decide) h (fun c1 h => ?_) (fun c1 h => ?_)
  · refine g_iconst (v := 0) F (dAt dk_X4_hasElements 16 rfl) (by decide) ?_
    cases h
    exact E (dAt dk_X4_hasElements 17 rfl) rfl
  · refine g_iload_n F (dAt dk_X4_hasElements 2 rfl) 2 rfl ?_
    refine g_if_lt (tgt := 30) F (dAt dk_X4_hasElements 3 rfl) (by decide) h (fun c2 h => ?_) (fun c2 h => ?_)
    · refine g_iconst (v := 0) F (dAt dk_X4_hasElements 16 rfl) (by decide) ?_
      cases h
      exact E (dAt dk_X4_hasElements 17 rfl) rfl
    · refine g_iload_n F (dAt dk_X4_hasElements 4 rfl) 1 rfl ?_
      refine g_aload_n F (dAt dk_X4_hasElements 5 rfl) 0 rfl ?_
      refine gg_Shelf_size K F (gm mw_196 rfl) (dAt dk_X4_hasElements 6 rfl) ?_
      refine g_icmp_gt (tgt := 30) F (dAt dk_X4_hasElements 7 rfl) (by decide) h (fun c3 h => ?_) (fun c3 h => ?_)
      · refine g_iconst (v := 0) F (dAt dk_X4_hasElements 16 rfl) (by decide) ?_
        cases h
        exact E (dAt dk_X4_hasElements 17 rfl) rfl
      · refine g_iload_n F (dAt dk_X4_hasElements 8 rfl) 2 rfl ?_
        refine g_aload_n F (dAt dk_X4_hasElements 9 rfl) 0 rfl ?_
        refine gg_Shelf_size K F (gm mw_196 rfl) (dAt dk_X4_hasElements 10 rfl) ?_
        refine g_iload_n F (dAt dk_X4_hasElements 11 rfl) 1 rfl ?_
        refine g_isub F (dAt dk_X4_hasElements 12 rfl) ?_
        refine g_icmp_gt (tgt := 30) F (dAt dk_X4_hasElements 13 rfl) (by decide) h (fun c4 h => ?_) (fun c4 h => ?_)
        · refine g_iconst (v := 0) F (dAt dk_X4_hasElements 16 rfl) (by decide) ?_
          cases h
          exact E (dAt dk_X4_hasElements 17 rfl) rfl
        · refine g_iconst (v := 1) F (dAt dk_X4_hasElements 14 rfl) (by decide) ?_
          refine g_goto (tgt := 31) F (dAt dk_X4_hasElements 15 rfl) (by decide) ?_
          cases h
          exact E (dAt dk_X4_hasElements 17 rfl) rfl
theorem mi_X4_at : MI yX4_at cX4_at 2 (some .long) "MillOfDistances$Shelf" 1 := ⟨(gm mw_307 rfl), (gm mw_305 rfl), (gm mw_306 rfl), (gm mw_74 rfl), by decide +kernel, by decide⟩
theorem c_X4_at {l : Launch} {D : va_G} {ad : Nat → Nat} {g : Gv} {t u : Mem} {K : Fin 8} {x1 : Int32} {t' : Mem} {r : Int64} (hJ : Jad ad) (h : f_X4_at K x1 t = some (r, t')) : ConL l yX4_at cX4_at 2 (some .long) 0 [.ref (ad (oSh K)), .int x1] D ad g t u t' u r := by
  refine con_l hJ (by decide) (Nat.le_of_ble_eq_true rfl) rfl (fun X F E => ?_)
  refine g_lv (lv' := [(0, .ref (ad (oSh K))), (1, .int x1)]) rfl ?_
  unfold f_X4_at at h
  refine g_iload_n F (dAt dk_X4_at 0 rfl) 1 rfl ?_
  refine g_if_lt (tgt := 21) F (dAt dk_X4_at 1 rfl) (by decide) h (fun c1 h => ?_) (fun c1 h => ?_)
  · refine g_lconst (v := 0) F (dAt dk_X4_at 11 rfl) (by decide) ?_
    cases h
    exact E (dAt dk_X4_at 12 rfl)
  · refine g_iload_n F (dAt dk_X4_at 2 rfl) 1 rfl ?_
    refine g_aload_n F (dAt dk_X4_at 3 rfl) 0 rfl ?_
    refine gg_Shelf_size K F (gm mw_196 rfl) (dAt dk_X4_at 4 rfl) ?_
    refine g_icmp_ge (tgt := 21) F (dAt dk_X4_at 5 rfl) (by decide) h (fun c2 h => ?_) (fun c2 h => ?_)
    · refine g_lconst (v := 0) F (dAt dk_X4_at 11 rfl) (by decide) ?_
      cases h
      exact E (dAt dk_X4_at 12 rfl)
    · refine g_aload_n F (dAt dk_X4_at 6 rfl) 0 rfl ?_
      refine gg_Shelf_elements K F (gm mw_193 rfl) (dAt dk_X4_at 7 rfl) ?_
      refine g_iload_n F (dAt dk_X4_at 8 rfl) 1 rfl ?_
      refine g_ck h (fun hi3 h => ?_)
      refine g_laloadc F (ai_elements K) (dAt dk_X4_at 9 rfl) hi3 ?_
      refine g_goto (tgt := 22) F (dAt dk_X4_at 10 rfl) (by decide) ?_
      cases h
      exact E (dAt dk_X4_at 12 rfl)
theorem mi_X4_kept : MI yX4_kept cX4_kept 3 (some .long) "MillOfDistances$Shelf" 1 := ⟨(gm mw_289 rfl), (gm mw_288 rfl), (gm mw_2 rfl), (gm mw_74 rfl), by decide +kernel, by decide⟩
theorem c_X4_kept {l : Launch} {D : va_G} {ad : Nat → Nat} {g : Gv} {t u : Mem} {K : Fin 8} {x1 : Int64} {t' : Mem} {r : Int64} (hJ : Jad ad) (h : f_X4_kept K x1 t = some (r, t')) : ConL l yX4_kept cX4_kept 3 (some .long) 0 [.ref (ad (oSh K)), .long x1] D ad g t u t' u r := by
  refine con_l hJ (by decide) (Nat.le_of_ble_eq_true rfl) rfl (fun X F E => ?_)
  refine g_lv (lv' := [(0, .ref (ad (oSh K))), (1, .long x1)]) rfl ?_
  unfold f_X4_kept at h
  refine g_aload_n F (dAt dk_X4_kept 0 rfl) 0 rfl ?_
  refine gg_Shelf_sort K F (gm mw_198 rfl) (dAt dk_X4_kept 1 rfl) ?_
  refine g_case 0 h (fun c1 h => ?_) (fun c1 h => ?_)
  · refine g_tabIn (v := 0) (tgt := 32) (off := 28) F (dAt dk_X4_kept 2 rfl) c1 (by decide) (by decide) rfl (by decide) ?_
    refine g_lload_n F (dAt dk_X4_kept 3 rfl) 1 rfl ?_
    refine g_l2i F (dAt dk_X4_kept 4 rfl) ?_
    refine g_i2b F (dAt dk_X4_kept 5 rfl) ?_
    refine g_i2l F (dAt dk_X4_kept 6 rfl) ?_
    cases h
    exact E (dAt dk_X4_kept 7 rfl)
  · refine g_case 1 h (fun c2 h => ?_) (fun c2 h => ?_)
    · refine g_tabIn (v := 1) (tgt := 37) (off := 33) F (dAt dk_X4_kept 2 rfl) c2 (by decide) (by decide) rfl (by decide) ?_
      refine g_lload_n F (dAt dk_X4_kept 8 rfl) 1 rfl ?_
      refine g_l2i F (dAt dk_X4_kept 9 rfl) ?_
      refine g_i2s F (dAt dk_X4_kept 10 rfl) ?_
      refine g_i2l F (dAt dk_X4_kept 11 rfl) ?_
      cases h
      exact E (dAt dk_X4_kept 12 rfl)
    · refine g_case 2 h (fun c3 h => ?_) (fun c3 h => ?_)
      · refine g_tabIn (v := 2) (tgt := 42) (off := 38) F (dAt dk_X4_kept 2 rfl) c3 (by decide) (by decide) rfl (by decide) ?_
        refine g_lload_n F (dAt dk_X4_kept 13 rfl) 1 rfl ?_
        refine g_l2i F (dAt dk_X4_kept 14 rfl) ?_
        refine g_i2l F (dAt dk_X4_kept 15 rfl) ?_
        cases h
        exact E (dAt dk_X4_kept 16 rfl)
      · have := lv_neT c1 (a := 0) (by decide)
        have := lv_neT c2 (a := 1) (by decide)
        have := lv_neT c3 (a := 2) (by decide)
        refine g_tabOut (tgt := 46) F (dAt dk_X4_kept 2 rfl) (by omega) (by decide) ?_
        refine g_lload_n F (dAt dk_X4_kept 17 rfl) 1 rfl ?_
        cases h
        exact E (dAt dk_X4_kept 18 rfl)
theorem mi_X4_put : MI yX4_put cX4_put 4 none "MillOfDistances$Shelf" 2 := ⟨(gm mw_284 rfl), (gm mw_282 rfl), (gm mw_283 rfl), (gm mw_74 rfl), by decide +kernel, by decide⟩
theorem c_X4_put {l : Launch} {D : va_G} {ad : Nat → Nat} {g : Gv} {t u : Mem} {K : Fin 8} {x1 : Int32} {x2 : Int64} {t' : Mem} (hJ : Jad ad) (h : f_X4_put K x1 x2 t = some ((), t')) : ConV l yX4_put cX4_put 4 none 1 [.ref (ad (oSh K)), .int x1, .long x2] D ad g t u t' u := by
  refine con_v hJ (by decide) (Nat.le_of_ble_eq_true rfl) rfl (fun X F E => ?_)
  refine g_lv (lv' := [(0, .ref (ad (oSh K))), (1, .int x1), (2, .long x2)]) rfl ?_
  unfold f_X4_put at h
  refine g_aload_n F (dAt dk_X4_put 0 rfl) 0 rfl ?_
  refine g_iload_n F (dAt dk_X4_put 1 rfl) 1 rfl ?_
  refine g_iconst (v := 1) F (dAt dk_X4_put 2 rfl) (by decide) ?_
  refine g_invV_ic F mi_X4_hasElements (gm mw_285 rfl) (dAt dk_X4_put 3 rfl) (rcx_of F (rc_Shelf K)) [.int x1, .int 1] rfl rfl (by decide) (Nat.le_of_ble_eq_true rfl) h (fun _ _ hf => c_X4_hasElements hJ hf) (fun r1 t2 h => ?_)
  refine g_if_eq (tgt := 20) F (dAt dk_X4_put 4 rfl) (by decide) h (fun c3 h => ?_) (fun c3 h => ?_)
  · cases h
    exact E (dAt dk_X4_put 12 rfl)
  · refine g_aload_n F (dAt dk_X4_put 5 rfl) 0 rfl ?_
    refine gg_Shelf_elements K F (gm mw_193 rfl) (dAt dk_X4_put 6 rfl) ?_
    refine g_iload_n F (dAt dk_X4_put 7 rfl) 1 rfl ?_
    refine g_aload_n F (dAt dk_X4_put 8 rfl) 0 rfl ?_
    refine g_lload_n F (dAt dk_X4_put 9 rfl) 2 rfl ?_
    refine g_invV_lc F mi_X4_kept (gm mw_286 rfl) (dAt dk_X4_put 10 rfl) (rcx_of F (rc_Shelf K)) [.long x2] rfl rfl (by decide) (Nat.le_of_ble_eq_true rfl) h (fun _ _ hf => c_X4_kept hJ hf) (fun r4 t5 h => ?_)
    refine g_ck h (fun hi6 h => ?_)
    refine g_lastorec F (ai_elements K) (dAt dk_X4_put 11 rfl) hi6 ?_
    refine g_ltt h (fun t7 h => ?_)
    cases h
    exact E (dAt dk_X4_put 12 rfl)
theorem ms_J6_numberOfTrailingZeros_0f7a4 : MS yJ6_numberOfTrailingZeros_0f7a4 cJ6_numberOfTrailingZeros_0f7a4 2 (some .int) 1 := ⟨(gm mw_1155 rfl), (gm mw_1154 rfl), (gm mw_78 rfl), by decide +kernel, by decide⟩
theorem c_J6_numberOfTrailingZeros_0f7a4 {l : Launch} {D : va_G} {ad : Nat → Nat} {g : Gv} {t u : Mem} {x0 : Int32} {r : Int32} (hJ : Jad ad) (h : f_J6_numberOfTrailingZeros_0f7a4 x0 = some r) : ConI l yJ6_numberOfTrailingZeros_0f7a4 cJ6_numberOfTrailingZeros_0f7a4 2 (some .int) 0 [.int x0] D ad g t u t u r := by
  refine con_i hJ (by decide) (Nat.le_of_ble_eq_true rfl) rfl (fun X F E => ?_)
  have J62 : ∀ (v0 : Int32) (v1 : Int32), jn_J6_numberOfTrailingZeros_0f7a4_62 x0 v0 v1 = some r → G X D ad g t u [(0, .int v0), (1, .int v1)] 62 [] := by
    intro v0 v1 h
    unfold jn_J6_numberOfTrailingZeros_0f7a4_62 at h
    refine g_iload_n F (dAt dk_J6_numberOfTrailingZeros_0f7a4 40 rfl) 0 rfl ?_
    refine g_iconst (v := 4) F (dAt dk_J6_numberOfTrailingZeros_0f7a4 41 rfl) (by decide) ?_
    refine g_icmp_le (tgt := 74) F (dAt dk_J6_numberOfTrailingZeros_0f7a4 42 rfl) (by decide) h (fun c6 h => ?_) (fun c6 h => ?_)
    · refine g_iload_n F (dAt dk_J6_numberOfTrailingZeros_0f7a4 48 rfl) 1 rfl ?_
      refine g_iload_n F (dAt dk_J6_numberOfTrailingZeros_0f7a4 49 rfl) 0 rfl ?_
      refine g_iconst (v := 1) F (dAt dk_J6_numberOfTrailingZeros_0f7a4 50 rfl) (by decide) ?_
      refine g_iushr F (dAt dk_J6_numberOfTrailingZeros_0f7a4 51 rfl) ?_
      refine g_iadd F (dAt dk_J6_numberOfTrailingZeros_0f7a4 52 rfl) ?_
      cases h
      exact E (dAt dk_J6_numberOfTrailingZeros_0f7a4 53 rfl) rfl
    · refine g_iinc (lv' := [(1, .int (v1 + 2)), (0, .int v0)]) F (dAt dk_J6_numberOfTrailingZeros_0f7a4 43 rfl) 1 rfl (w := 2) (by decide) (by decide) rfl ?_
      refine g_iload_n F (dAt dk_J6_numberOfTrailingZeros_0f7a4 44 rfl) 1 rfl ?_
      refine g_iconst (v := 2) F (dAt dk_J6_numberOfTrailingZeros_0f7a4 45 rfl) (by decide) ?_
      refine g_iushr F (dAt dk_J6_numberOfTrailingZeros_0f7a4 46 rfl) ?_
      refine g_istore_n (lv' := [(0, .int (jushr v0 (2 : Int32))), (1, .int (v1 + 2))]) F (dAt dk_J6_numberOfTrailingZeros_0f7a4 47 rfl) (by decide) rfl ?_
      refine g_iload_n F (dAt dk_J6_numberOfTrailingZeros_0f7a4 48 rfl) 1 rfl ?_
      refine g_iload_n F (dAt dk_J6_numberOfTrailingZeros_0f7a4 49 rfl) 0 rfl ?_
      refine g_iconst (v := 1) F (dAt dk_J6_numberOfTrailingZeros_0f7a4 50 rfl) (by decide) ?_
      refine g_iushr F (dAt dk_J6_numberOfTrailingZeros_0f7a4 51 rfl) ?_
      refine g_iadd F (dAt dk_J6_numberOfTrailingZeros_0f7a4 52 rfl) ?_
      cases h
      exact E (dAt dk_J6_numberOfTrailingZeros_0f7a4 53 rfl) rfl
  have J49 : ∀ (v0 : Int32) (v1 : Int32), jn_J6_numberOfTrailingZeros_0f7a4_49 x0 v0 v1 = some r → G X D ad g t u [(0, .int v0), (1, .int v1)] 49 [] := by
    intro v0 v1 h
    unfold jn_J6_numberOfTrailingZeros_0f7a4_49 at h
    refine g_iload_n F (dAt dk_J6_numberOfTrailingZeros_0f7a4 32 rfl) 0 rfl ?_
    refine g_bipush (v := 16) F (dAt dk_J6_numberOfTrailingZeros_0f7a4 33 rfl) (by decide) ?_
    refine g_icmp_le (tgt := 62) F (dAt dk_J6_numberOfTrailingZeros_0f7a4 34 rfl) (by decide) h (fun c5 h => ?_) (fun c5 h => ?_)
    · refine g_sub (lv' := [(0, .int v0), (1, .int v1)]) [0, 1] rfl ?_
      exact J62  v0 v1 h
    · refine g_iinc (lv' := [(1, .int (v1 + 4)), (0, .int v0)]) F (dAt dk_J6_numberOfTrailingZeros_0f7a4 35 rfl) 1 rfl (w := 4) (by decide) (by decide) rfl ?_
      refine g_iload_n F (dAt dk_J6_numberOfTrailingZeros_0f7a4 36 rfl) 1 rfl ?_
      refine g_iconst (v := 4) F (dAt dk_J6_numberOfTrailingZeros_0f7a4 37 rfl) (by decide) ?_
      refine g_iushr F (dAt dk_J6_numberOfTrailingZeros_0f7a4 38 rfl) ?_
      refine g_istore_n (lv' := [(0, .int (jushr v0 (4 : Int32))), (1, .int (v1 + 4))]) F (dAt dk_J6_numberOfTrailingZeros_0f7a4 39 rfl) (by decide) rfl ?_
      refine g_sub (lv' := [(0, .int (jushr v0 (4 : Int32))), (1, .int (v1 + 4))]) [0, 1] rfl ?_
      exact J62  (jushr v0 (4 : Int32)) (v1 + 4) h
  have J34 : ∀ (v0 : Int32) (v1 : Int32), jn_J6_numberOfTrailingZeros_0f7a4_34 x0 v0 v1 = some r → G X D ad g t u [(0, .int v0), (1, .int v1)] 34 [] := by
    intro v0 v1 h
    unfold jn_J6_numberOfTrailingZeros_0f7a4_34 at h
    refine g_iload_n F (dAt dk_J6_numberOfTrailingZeros_0f7a4 24 rfl) 0 rfl ?_
    refine g_sipush (v := 256) F (dAt dk_J6_numberOfTrailingZeros_0f7a4 25 rfl) (by decide) ?_
    refine g_icmp_le (tgt := 49) F (dAt dk_J6_numberOfTrailingZeros_0f7a4 26 rfl) (by decide) h (fun c4 h => ?_) (fun c4 h => ?_)
    · refine g_sub (lv' := [(0, .int v0), (1, .int v1)]) [0, 1] rfl ?_
      exact J49  v0 v1 h
    · refine g_iinc (lv' := [(1, .int (v1 + 8)), (0, .int v0)]) F (dAt dk_J6_numberOfTrailingZeros_0f7a4 27 rfl) 1 rfl (w := 8) (by decide) (by decide) rfl ?_
      refine g_iload_n F (dAt dk_J6_numberOfTrailingZeros_0f7a4 28 rfl) 1 rfl ?_
      refine g_bipush (v := 8) F (dAt dk_J6_numberOfTrailingZeros_0f7a4 29 rfl) (by decide) ?_
      refine g_iushr F (dAt dk_J6_numberOfTrailingZeros_0f7a4 30 rfl) ?_
      refine g_istore_n (lv' := [(0, .int (jushr v0 (8 : Int32))), (1, .int (v1 + 8))]) F (dAt dk_J6_numberOfTrailingZeros_0f7a4 31 rfl) (by decide) rfl ?_
      refine g_sub (lv' := [(0, .int (jushr v0 (8 : Int32))), (1, .int (v1 + 8))]) [0, 1] rfl ?_
      exact J49  (jushr v0 (8 : Int32)) (v1 + 8) h
  refine g_lv (lv' := [(0, .int x0)]) rfl ?_
  unfold f_J6_numberOfTrailingZeros_0f7a4 at h
  refine g_iload_n F (dAt dk_J6_numberOfTrailingZeros_0f7a4 0 rfl) 0 rfl ?_
  refine g_iconst (v := (-1)) F (dAt dk_J6_numberOfTrailingZeros_0f7a4 1 rfl) (by decide) ?_
  refine g_ixor F (dAt dk_J6_numberOfTrailingZeros_0f7a4 2 rfl) ?_
  refine g_iload_n F (dAt dk_J6_numberOfTrailingZeros_0f7a4 3 rfl) 0 rfl ?_
  refine g_iconst (v := 1) F (dAt dk_J6_numberOfTrailingZeros_0f7a4 4 rfl) (by decide) ?_
  refine g_isub F (dAt dk_J6_numberOfTrailingZeros_0f7a4 5 rfl) ?_
  refine g_iand F (dAt dk_J6_numberOfTrailingZeros_0f7a4 6 rfl) ?_
  refine g_lti h (fun y1 h => ?_)
  refine g_istore_n (lv' := [(0, .int y1)]) F (dAt dk_J6_numberOfTrailingZeros_0f7a4 7 rfl) (by decide) rfl ?_
  refine g_iload_n F (dAt dk_J6_numberOfTrailingZeros_0f7a4 8 rfl) 0 rfl ?_
  refine g_if_gt (tgt := 17) F (dAt dk_J6_numberOfTrailingZeros_0f7a4 9 rfl) (by decide) h (fun c2 h => ?_) (fun c2 h => ?_)
  · refine g_iconst (v := 1) F (dAt dk_J6_numberOfTrailingZeros_0f7a4 14 rfl) (by decide) ?_
    refine g_istore_n (lv' := [(1, .int 1), (0, .int y1)]) F (dAt dk_J6_numberOfTrailingZeros_0f7a4 15 rfl) (by decide) rfl ?_
    refine g_iload_n F (dAt dk_J6_numberOfTrailingZeros_0f7a4 16 rfl) 1 rfl ?_
    refine g_ldcw (v := 65536) F (dAt dk_J6_numberOfTrailingZeros_0f7a4 17 rfl) (gm mw_1156 rfl) ?_
    refine g_icmp_le (tgt := 34) F (dAt dk_J6_numberOfTrailingZeros_0f7a4 18 rfl) (by decide) h (fun c3 h => ?_) (fun c3 h => ?_)
    · refine g_sub (lv' := [(0, .int y1), (1, .int 1)]) [1, 0] rfl ?_
      exact J34  y1 1 h
    · refine g_iinc (lv' := [(1, .int (1 + 16)), (0, .int y1)]) F (dAt dk_J6_numberOfTrailingZeros_0f7a4 19 rfl) 0 rfl (w := 16) (by decide) (by decide) rfl ?_
      refine g_iload_n F (dAt dk_J6_numberOfTrailingZeros_0f7a4 20 rfl) 1 rfl ?_
      refine g_bipush (v := 16) F (dAt dk_J6_numberOfTrailingZeros_0f7a4 21 rfl) (by decide) ?_
      refine g_iushr F (dAt dk_J6_numberOfTrailingZeros_0f7a4 22 rfl) ?_
      refine g_istore_n (lv' := [(0, .int (jushr y1 (16 : Int32))), (1, .int (1 + 16))]) F (dAt dk_J6_numberOfTrailingZeros_0f7a4 23 rfl) (by decide) rfl ?_
      refine g_sub (lv' := [(0, .int (jushr y1 (16 : Int32))), (1, .int (1 + 16))]) [0, 1] rfl ?_
      exact J34  (jushr y1 (16 : Int32)) (1 + 16) h
  · refine g_iload_n F (dAt dk_J6_numberOfTrailingZeros_0f7a4 10 rfl) 0 rfl ?_
    refine g_bipush (v := 32) F (dAt dk_J6_numberOfTrailingZeros_0f7a4 11 rfl) (by decide) ?_
    refine g_iand F (dAt dk_J6_numberOfTrailingZeros_0f7a4 12 rfl) ?_
    cases h
    exact E (dAt dk_J6_numberOfTrailingZeros_0f7a4 13 rfl) rfl
