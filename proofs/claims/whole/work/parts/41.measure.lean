/-! layer 2: the lengths of the class -/
def dn (p q i j : Nat) : Prop := i < p ∨ j < p ∨ (i = p ∧ j < q) ∨ (j = p ∧ i < q)
def dnK (f : Nat → Int32) (c : Nat) (A : Nat → Nat → Nat) (p q : Nat) : Prop := ∀ i j, i < c → j < c → dn p q i j → f (8 * i + j) = nI (A i j)
def dnR (f : Nat → Int32) (c : Nat) (A' A : Nat → Nat → Nat) (p q : Nat) : Prop := dnK f c A' p q ∧ ∀ i j, i < c → j < c → ¬ dn p q i j → f (8 * i + j) = nI (A i j)
def st2 (t : Mem) (o p q : Nat) (x : Int32) : Mem := uI (uI t o (8 * p + q) x) o (8 * q + p) x
theorem st2_f (t : Mem) (o p q : Nat) (x : Int32) : (st2 t o p q x).1 o = upd (upd (t.1 o) (8 * p + q) x) (8 * q + p) x := by
  unfold st2
  rw [uI_same, uI_same]
theorem st2_fr (t : Mem) {o : Nat} (p q : Nat) (x : Int32) {l : List Nat} (h : o ∈ l) : Fr t (st2 t o p q x) l := (Fr.uI t _ _ h).trans (Fr.uI _ _ _ h)
theorem two_cell {f : Nat → Int32} {p q i j : Nat} {x : Int32} (hp : p < 8) (hq : q < 8) (hi : i < 8) (hj : j < 8) : upd (upd f (8 * p + q) x) (8 * q + p) x (8 * i + j) = if (i = p ∧ j = q) ∨ (i = q ∧ j = p) then x else f (8 * i + j) := by
  by_cases h1 : i = q ∧ j = p
  · rw [h1.1, h1.2, upd_same, if_pos (Or.inr ⟨rfl, rfl⟩)]
  · rw [upd_ne _ (show ¬ 8 * i + j = 8 * q + p by omega)]
    by_cases h2 : i = p ∧ j = q
    · rw [h2.1, h2.2, upd_same, if_pos (Or.inl ⟨rfl, rfl⟩)]
    · rw [upd_ne _ (show ¬ 8 * i + j = 8 * p + q by omega), if_neg (by omega)]
theorem dnK.up {f : Nat → Int32} {c : Nat} {A : Nat → Nat → Nat} {p q : Nat} {x : Int32} (h : dnK f c A p q) (hc : c ≤ 8) (hp : p < c) (hq : q < c) (hs : A p q = A q p) (hx : x = nI (A p q)) : dnK (upd (upd f (8 * p + q) x) (8 * q + p) x) c A p (q + 1) := by
  intro i j hi hj g
  rw [two_cell (by omega) (by omega) (by omega) (by omega)]
  by_cases e : (i = p ∧ j = q) ∨ (i = q ∧ j = p)
  · rw [if_pos e, hx]
    rcases e with ⟨e1, e2⟩ | ⟨e1, e2⟩
    · rw [e1, e2]
    · rw [e1, e2, hs]
  · rw [if_neg e]
    refine h i j hi hj ?_
    unfold dn at g ⊢
    omega
theorem dnK.nil {f : Nat → Int32} {c : Nat} {A : Nat → Nat → Nat} : dnK f c A 0 0 := fun i j _ _ g => by unfold dn at g; omega
theorem dnK.pp {f : Nat → Int32} {c : Nat} {A : Nat → Nat → Nat} {p : Nat} (h : dnK f c A p 0) : dnK f c A p p := fun i j hi hj g => h i j hi hj (by unfold dn at g ⊢; omega)
theorem dnK.row {f : Nat → Int32} {c : Nat} {A : Nat → Nat → Nat} {p : Nat} (h : dnK f c A p c) : dnK f c A (p + 1) 0 := fun i j hi hj g => h i j hi hj (by unfold dn at g ⊢; omega)
theorem dnK.all {f : Nat → Int32} {c : Nat} {A : Nat → Nat → Nat} (h : dnK f c A c 0) {i j : Nat} (hi : i < c) (hj : j < c) : f (8 * i + j) = nI (A i j) := h i j hi hj (.inl hi)
theorem dnR.up {f : Nat → Int32} {c : Nat} {A' A : Nat → Nat → Nat} {p q : Nat} {x : Int32} (h : dnR f c A' A p q) (hc : c ≤ 8) (hp : p < c) (hq : q < c) (hs : A' p q = A' q p) (hx : x = nI (A' p q)) : dnR (upd (upd f (8 * p + q) x) (8 * q + p) x) c A' A p (q + 1) := by
  refine ⟨h.1.up hc hp hq hs hx, fun i j hi hj g => ?_⟩
  rw [two_cell (by omega) (by omega) (by omega) (by omega), if_neg (by unfold dn at g; omega)]
  exact h.2 i j hi hj (by unfold dn at g ⊢; omega)
theorem dnR.skip {f : Nat → Int32} {c : Nat} {A' A : Nat → Nat → Nat} {p q q' : Nat} (h : dnR f c A' A p q) (e : ∀ j, q ≤ j → j < q' → A' p j = A p j ∧ A' j p = A j p) (hq : q ≤ q') : dnR f c A' A p q' := by
  refine ⟨fun i j hi hj g => ?_, fun i j hi hj g => h.2 i j hi hj (by unfold dn at g ⊢; omega)⟩
  by_cases d : dn p q i j
  · exact h.1 i j hi hj d
  · rw [h.2 i j hi hj d]
    unfold dn at g d
    have : (i = p ∧ q ≤ j ∧ j < q') ∨ (j = p ∧ q ≤ i ∧ i < q') := by omega
    rcases this with ⟨e1, e2, e3⟩ | ⟨e1, e2, e3⟩
    · rw [e1, (e j e2 e3).1]
    · rw [e1, (e i e2 e3).2]
theorem dnR.pp {f : Nat → Int32} {c : Nat} {A' A : Nat → Nat → Nat} {p : Nat} (h : dnR f c A' A p 0) : dnR f c A' A p p := ⟨h.1.pp, fun i j hi hj g => h.2 i j hi hj (by unfold dn at g ⊢; omega)⟩
theorem dnR.row {f : Nat → Int32} {c : Nat} {A' A : Nat → Nat → Nat} {p : Nat} (h : dnR f c A' A p c) : dnR f c A' A (p + 1) 0 := ⟨h.1.row, fun i j hi hj g => h.2 i j hi hj (by unfold dn at g ⊢; omega)⟩
theorem dnR.get {f : Nat → Int32} {c : Nat} {A' A : Nat → Nat → Nat} {p q i j : Nat} (h : dnR f c A' A p q) (hi : i < c) (hj : j < c) (e : A' i j = A i j) : f (8 * i + j) = nI (A i j) := by
  by_cases g : dn p q i j
  · rw [h.1 i j hi hj g, e]
  · exact h.2 i j hi hj g
theorem ln_ce (J : Fin 2) : ¬ oLn J ∈ [oCe J] := by revert J; decide
theorem lc_ld (L : Fin 3) (J : Fin 2) : ¬ oLd L ∈ [oLn J, oCe J] := by revert L J; decide
theorem lc_kn (L : Fin 3) (J : Fin 2) : ¬ oKn L ∈ [oLn J, oCe J] := by revert L J; decide
theorem lc_mk (L : Fin 3) (J : Fin 2) : ¬ oMk L ∈ [oLn J, oCe J] := by revert L J; decide
theorem lc_rd (L : Fin 3) (J : Fin 2) : ¬ oRd L ∈ [oLn J, oCe J] := by revert L J; decide
theorem lc_k (J : Fin 2) : ∀ o, o ∈ keptT → ¬ o ∈ [oLn J, oCe J] := by revert J; decide
theorem isLd.lc {t t' : Mem} {L : Fin 3} {S : Ld} {J : Fin 2} (h : isLd t L S) (hF : Fr t t' [oLn J, oCe J]) : isLd t' L S := h.fr hF (lc_ld L J) (lc_kn L J) (lc_mk L J) (lc_rd L J)
theorem ce_in (J : Fin 2) : oCe J ∈ [oLn J, oCe J] := List.mem_cons_of_mem _ (List.mem_singleton.mpr rfl)
theorem ln_in (J : Fin 2) : oLn J ∈ [oLn J, oCe J] := List.mem_cons_self
theorem ins_y {t : Mem} {J : Fin 2} {c p q : Nat} (h : t.1 (oLn J) 1 = nI c) (hc : c ≤ 8) (hp : p < c) (hq : q < c) : f_X2_isInside J (nI p) (nI q) t = some (1, t) := by
  unfold f_X2_isInside
  rw [h, if_neg (nI_pos (by omega)), if_neg (nle8 hp hc), if_neg (nI_pos (by omega)), if_neg (nle8 hq hc)]
theorem note_y {t : Mem} {J : Fin 2} {c p q : Nat} {x : Int32} (h : t.1 (oLn J) 1 = nI c) (hc : c ≤ 8) (hp : p < c) (hq : q < c) : f_X2_note J (nI p) (nI q) x t = some ((), st2 t (oCe J) p q x) := by
  unfold f_X2_note
  rw [ins_y h hc hp hq, bnd_s, if_neg one_ne, ck_t (inb8 (by omega) (by omega)), ltm_s, ck_t (inb8 (by omega) (by omega)), ltm_s, clamp8 (by omega) (by omega), clamp8 (by omega) (by omega)]
  rfl
def isLn (t : Mem) (J : Fin 2) (c : Nat) (D : Nat → Nat → Nat) : Prop := t.1 (oLn J) 1 = nI c ∧ ∀ p q, p < c → q < c → t.1 (oCe J) (8 * p + q) = nI (D p q)
def tk (t : Mem) (J : Fin 2) (c : Nat) (A : Nat → Nat → Nat) (p q : Nat) (v : Mem) : Prop := Fr t v [oLn J, oCe J] ∧ v.1 (oLn J) 1 = nI c ∧ dnK (v.1 (oCe J)) c A p q
theorem tk.up {t : Mem} {J : Fin 2} {c : Nat} {A : Nat → Nat → Nat} {p q : Nat} {v : Mem} (h : tk t J c A p q v) (hc : c ≤ 8) (hp : p < c) (hq : q < c) (hs : A p q = A q p) {x : Int32} (hx : x = nI (A p q)) : tk t J c A p (q + 1) (st2 v (oCe J) p q x) := by
  have f := st2_fr v p q x (List.mem_singleton.mpr rfl : oCe J ∈ [oCe J])
  refine ⟨h.1.trans (f.mono (fun o ho => by rw [List.mem_singleton.mp ho]; exact ce_in J)), by rw [f.1 _ (ln_ce J)]; exact h.2.1, ?_⟩
  rw [st2_f]
  exact h.2.2.up hc hp hq hs hx
theorem take_in {t u0 : Mem} {L : Fin 3} {J : Fin 2} {n p : Nat} {S : Ld} (hn : 8 < n) (hl : isLd t L S) (hW : okW S) (hp : p < Sc S) (self10 : Int32 × Mem → Option (Unit × Mem)) (h : tk t J (Sc S) (wS S) p (p + 1) u0) : ∃ v, iter (bd_X2_takeRoads_29 n J L self10) n (nI p, nI (p + 1), u0) = self10 (nI (p + 1), v) ∧ tk t J (Sc S) (wS S) (p + 1) 0 v := by
  have hc := hW.1
  refine iter_inv (body := bd_X2_takeRoads_29 n J L self10) (Sc S) (fun q s => ∃ v, s = (nI p, nI q, v) ∧ p < q ∧ tk t J (Sc S) (wS S) p q v) (fun x => ∃ v, x = self10 (nI (p + 1), v) ∧ tk t J (Sc S) (wS S) (p + 1) 0 v) ?_ ?_ n (p + 1) _ (by omega) (by omega) ⟨u0, rfl, Nat.lt_succ_self p, h⟩
  · intro self q s hq hs
    obtain ⟨v, rfl, hpq, hT⟩ := hs
    have b1 := hW.2.2 p q
    have hb := btw_y (hl.lc hT.1) hc hp hq
    have hno := fun x => note_y (x := x) hT.2.1 hc hp hq
    have e : ¬ p = q := by omega
    refine .inl ⟨(nI p, nI (q + 1), st2 v (oCe J) p q (nI (wS S p q))), ?_, _, rfl, by omega, hT.up hc hp hq (wS_sym hW p q) rfl⟩
    unfold bd_X2_takeRoads_29 jn_X2_takeRoads_61
    dsimp only
    rw [hT.2.1, if_neg (nle8 hq hc), hb, bnd_s]
    by_cases e0 : Sw S p q = 0
    · rw [if_neg (by rw [e0]; exact z_nn), hno, bnd_s, nI_s, show wS S p q = 10000 by unfold wS; rw [if_neg e, if_pos e0]]
      rfl
    · rw [if_pos (show ¬ nI (Sw S p q) = 0 from fun g => e0 ((nI_z (by omega)).mp g)), hno, bnd_s, nI_s, wS_road e e0]
  · intro self s hs
    obtain ⟨v, rfl, hpq, hT⟩ := hs
    refine ⟨v, ?_, hT.1, hT.2.1, hT.2.2.row⟩
    unfold bd_X2_takeRoads_29
    dsimp only
    rw [hT.2.1, if_pos le8, nI_s]
theorem take_roads {t : Mem} {L : Fin 3} {J : Fin 2} {n : Nat} {S : Ld} (hn : 8 < n) (hl : isLd t L S) (hW : okW S) : ∃ v, f_X2_takeRoads n J L t = some ((), v) ∧ Fr t v [oLn J, oCe J] ∧ isLn v J (Sc S) (wS S) := by
  have hc := hW.1
  unfold f_X2_takeRoads
  rw [ltm_s, hl.1]
  have f0 : Fr t (uI t (oLn J) 1 (nI (Sc S))) [oLn J, oCe J] := Fr.uI t _ _ (ln_in J)
  refine iter_inv (body := bd_X2_takeRoads_10 n J L) (Sc S) (fun p s => ∃ v, s = (nI p, v) ∧ tk t J (Sc S) (wS S) p 0 v) (fun x => ∃ v, x = some ((), v) ∧ Fr t v [oLn J, oCe J] ∧ isLn v J (Sc S) (wS S)) ?_ ?_ n 0 _ (Nat.zero_le _) (by omega) ⟨_, rfl, f0, by rw [uI_same, upd_same], dnK.nil⟩
  · intro self p s hp hs
    obtain ⟨v, rfl, hT⟩ := hs
    have h1 : tk t J (Sc S) (wS S) p p v := ⟨hT.1, hT.2.1, hT.2.2.pp⟩
    have h2 := h1.up (x := 0) hc hp hp rfl (by rw [wS_0]; rfl)
    obtain ⟨w, w1, w2⟩ := take_in hn hl hW hp self h2
    refine .inl ⟨_, ?_, w, rfl, w2⟩
    unfold bd_X2_takeRoads_10
    dsimp only
    rw [hT.2.1, if_neg (nle8 hp hc), note_y hT.2.1 hc hp hp, bnd_s, nI_s]
    exact w1
  · intro self s hs
    obtain ⟨v, rfl, hT⟩ := hs
    refine ⟨v, ?_, hT.1, hT.2.1, fun i j hi hj => hT.2.2.all hi hj⟩
    unfold bd_X2_takeRoads_10
    dsimp only
    rw [hT.2.1, if_pos le8]
/-! closing -/
def okM (W : Nat → Nat → Nat) : Prop := (∀ p, W p p = 0) ∧ (∀ p q, W p q = W q p) ∧ ∀ p q, W p q ≤ 10000
theorem okW.m {S : Ld} (h : okW S) : okM (wS S) := ⟨wS_0 S, wS_sym h, wS_le h⟩
theorem okM.le {W : Nat → Nat → Nat} (h : okM W) (r p q : Nat) : fwN W r p q ≤ 10000 := Nat.le_trans (fw_W W p q r) (h.2.2 p q)
def ck' (t : Mem) (J : Fin 2) (c : Nat) (A' A : Nat → Nat → Nat) (p q : Nat) (v : Mem) : Prop := Fr t v [oCe J] ∧ dnR (v.1 (oCe J)) c A' A p q
theorem close_in {t u0 : Mem} {J : Fin 2} {n c r p : Nat} {W : Nat → Nat → Nat} (hn : 8 < n) (hc : c ≤ 8) (hW : okM W) (hr : r < c) (hp : p < c) (self12 : Int32 × Int32 × Mem → Option (Unit × Mem)) (self19 : Int32 × Int32 × Int32 × Mem → Option (Unit × Mem)) (h : ck' t J c (fwN W (r + 1)) (fwN W r) p (p + 1) u0) : ∃ v, iter (bd_X2_close_42 n J self12 self19) n (nI c, nI r, nI p, nI (fwN W r p r), nI (p + 1), u0) = self19 (nI c, nI r, nI (p + 1), v) ∧ ck' t J c (fwN W (r + 1)) (fwN W r) (p + 1) 0 v := by
  refine iter_inv (body := bd_X2_close_42 n J self12 self19) c (fun q s => ∃ v, s = (nI c, nI r, nI p, nI (fwN W r p r), nI q, v) ∧ p < q ∧ ck' t J c (fwN W (r + 1)) (fwN W r) p q v) (fun x => ∃ v, x = self19 (nI c, nI r, nI (p + 1), v) ∧ ck' t J c (fwN W (r + 1)) (fwN W r) (p + 1) 0 v) ?_ ?_ n (p + 1) _ (by omega) (by omega) ⟨u0, rfl, Nat.lt_succ_self p, h⟩
  · intro self q s hq hs
    obtain ⟨v, rfl, hpq, hF, hR⟩ := hs
    have b1 := hW.le r p q
    have b2 := hW.le r p r
    have b3 := hW.le r r q
    have v1 : v.1 (oCe J) (8 * p + q) = nI (fwN W r p q) := hR.2 p q hp hq (by unfold dn; omega)
    have v3 : v.1 (oCe J) (8 * r + q) = nI (fwN W r r q) := hR.get hr hq (fw_row _ _ _)
    have s1 := fw_sym hW.2.1 (r + 1)
    by_cases e : 10000 ≤ fwN W r p r
    · refine .inr ⟨v, ?_, hF, (hR.skip (q' := c) (fun j _ _ => ?_) (by omega)).row⟩
      · unfold bd_X2_close_42
        dsimp only
        rw [if_neg (nle8 hq hc), if_pos (show (10000 : Int32) ≤ nI (fwN W r p r) by rw [show (10000 : Int32) = nI 10000 from rfl, nI_le' (by omega) (by omega)]; exact e), nI_s]
      · have b := hW.le r p j
        have e1 : fwN W (r + 1) p j = fwN W r p j := by rw [fw_s]; omega
        exact ⟨e1, by rw [s1 j p, e1, fw_sym hW.2.1 r j p]⟩
    have e' : ¬ (10000 : Int32) ≤ nI (fwN W r p r) := by rw [show (10000 : Int32) = nI 10000 from rfl, nI_le' (by omega) (by omega)]; exact e
    by_cases e2 : fwN W r p q ≤ fwN W r p r + fwN W r r q
    · have e1 : fwN W (r + 1) p q = fwN W r p q := by rw [fw_s]; omega
      refine .inl ⟨(nI c, nI r, nI p, nI (fwN W r p r), nI (q + 1), v), ?_, v, rfl, by omega, hF, hR.skip (fun j h1 h2 => ?_) (by omega)⟩
      · unfold bd_X2_close_42
        dsimp only
        rw [if_neg (nle8 hq hc), if_neg e', ck_t (inb8 (by omega) (by omega)), clamp8 (by omega) (by omega), v3, nI_add, lti_s, ck_t (inb8 (by omega) (by omega)), clamp8 (by omega) (by omega), v1, if_pos (show nI (fwN W r p q) ≤ nI (fwN W r p r + fwN W r r q) by rw [nI_le' (by omega) (by omega)]; exact e2), nI_s]
      · have ej : j = q := by omega
        rw [ej]
        exact ⟨e1, by rw [s1 q p, e1, fw_sym hW.2.1 r q p]⟩
    · have e1 : fwN W (r + 1) p q = fwN W r p r + fwN W r r q := by rw [fw_s]; omega
      have f := st2_fr v p q (nI (fwN W r p r + fwN W r r q)) (List.mem_singleton.mpr rfl : oCe J ∈ [oCe J])
      refine .inl ⟨(nI c, nI r, nI p, nI (fwN W r p r), nI (q + 1), st2 v (oCe J) p q (nI (fwN W r p r + fwN W r r q))), ?_, _, rfl, by omega, hF.trans f, ?_⟩
      · unfold bd_X2_close_42
        dsimp only
        rw [if_neg (nle8 hq hc), if_neg e', ck_t (inb8 (by omega) (by omega)), clamp8 (by omega) (by omega), v3, nI_add, lti_s, ck_t (inb8 (by omega) (by omega)), clamp8 (by omega) (by omega), v1, if_neg (show ¬ nI (fwN W r p q) ≤ nI (fwN W r p r + fwN W r r q) by rw [nI_le' (by omega) (by omega)]; exact e2), ck_t (inb8 (by omega) (by omega)), ltm_s, ck_t (inb8 (by omega) (by omega)), ltm_s, clamp8 (by omega) (by omega), nI_s]
        rfl
      · rw [st2_f]
        exact hR.up hc hp hq (s1 p q) (by rw [e1])
  · intro self s hs
    obtain ⟨v, rfl, hpq, hF, hR⟩ := hs
    refine ⟨v, ?_, hF, hR.row⟩
    unfold bd_X2_close_42
    dsimp only
    rw [if_pos le8, nI_s]
theorem close_mid {t u0 : Mem} {J : Fin 2} {n c r : Nat} {W : Nat → Nat → Nat} (hn : 8 < n) (hc : c ≤ 8) (hW : okM W) (hr : r < c) (self12 : Int32 × Int32 × Mem → Option (Unit × Mem)) (h : Fr t u0 [oCe J] ∧ ∀ i j, i < c → j < c → u0.1 (oCe J) (8 * i + j) = nI (fwN W r i j)) : ∃ v, iter (bd_X2_close_19 n J self12) n (nI c, nI r, 0, u0) = self12 (nI c, nI (r + 1), v) ∧ Fr t v [oCe J] ∧ ∀ i j, i < c → j < c → v.1 (oCe J) (8 * i + j) = nI (fwN W (r + 1) i j) := by
  refine iter_inv (body := bd_X2_close_19 n J self12) c (fun p s => ∃ v, s = (nI c, nI r, nI p, v) ∧ ck' t J c (fwN W (r + 1)) (fwN W r) p 0 v) (fun x => ∃ v, x = self12 (nI c, nI (r + 1), v) ∧ Fr t v [oCe J] ∧ ∀ i j, i < c → j < c → v.1 (oCe J) (8 * i + j) = nI (fwN W (r + 1) i j)) ?_ ?_ n 0 _ (Nat.zero_le _) (by omega) ⟨u0, rfl, h.1, dnK.nil, fun i j hi hj _ => h.2 i j hi hj⟩
  · intro self p s hp hs
    obtain ⟨v, rfl, hF, hR⟩ := hs
    have v2 : v.1 (oCe J) (8 * p + r) = nI (fwN W r p r) := hR.get hp hr (fw_col _ _ _)
    have h2 : ck' t J c (fwN W (r + 1)) (fwN W r) p (p + 1) v := by
      refine ⟨hF, hR.pp.skip (fun j h1 h2 => ?_) (by omega)⟩
      have ej : j = p := by omega
      rw [ej, fw_0 hW.1, fw_0 hW.1]
      exact ⟨rfl, rfl⟩
    obtain ⟨w, w1, w2⟩ := close_in hn hc hW hr hp self12 self h2
    refine .inl ⟨_, ?_, w, rfl, w2⟩
    unfold bd_X2_close_19
    dsimp only
    rw [if_neg (nle8 hp hc), ck_t (inb8 (by omega) (by omega)), clamp8 (by omega) (by omega), v2, lti_s, nI_s]
    exact w1
  · intro self s hs
    obtain ⟨v, rfl, hF, hR⟩ := hs
    refine ⟨v, ?_, hF, fun i j hi hj => hR.1.all hi hj⟩
    unfold bd_X2_close_19
    dsimp only
    rw [if_pos le8, nI_s]
theorem close_y {t : Mem} {J : Fin 2} {n c : Nat} {W : Nat → Nat → Nat} (hn : 8 < n) (hc : c ≤ 8) (hW : okM W) (h : isLn t J c W) : ∃ v, f_X2_close n J t = some ((), v) ∧ Fr t v [oCe J] ∧ isLn v J c (fwN W c) := by
  unfold f_X2_close
  rw [h.1, show (8 : Int32) = nI 8 from rfl, min_nI (by omega) (by omega), bnp_s, Nat.min_eq_left hc]
  refine iter_inv (body := bd_X2_close_12 n J) c (fun r s => ∃ v, s = (nI c, nI r, v) ∧ Fr t v [oCe J] ∧ ∀ i j, i < c → j < c → v.1 (oCe J) (8 * i + j) = nI (fwN W r i j)) (fun x => ∃ v, x = some ((), v) ∧ Fr t v [oCe J] ∧ isLn v J c (fwN W c)) ?_ ?_ n 0 _ (Nat.zero_le _) (by omega) ⟨t, rfl, Fr.rf _ _, h.2⟩
  · intro self r s hr hs
    obtain ⟨v, rfl, hF, hR⟩ := hs
    obtain ⟨w, w1, w2⟩ := close_mid hn hc hW hr self ⟨hF, hR⟩
    refine .inl ⟨_, ?_, w, rfl, w2⟩
    unfold bd_X2_close_12
    dsimp only
    rw [if_neg (nle8 hr hc)]
    exact w1
  · intro self s hs
    obtain ⟨v, rfl, hF, hR⟩ := hs
    refine ⟨v, ?_, hF, by rw [hF.1 _ (ln_ce J)]; exact h.1, hR⟩
    unfold bd_X2_close_12
    dsimp only
    rw [if_pos le8]
theorem fr_ce {t v : Mem} {J : Fin 2} (h : Fr t v [oCe J]) : Fr t v [oLn J, oCe J] := h.mono (fun o ho => by rw [List.mem_singleton.mp ho]; exact ce_in J)
theorem measure_y {t : Mem} {L : Fin 3} {J : Fin 2} {n : Nat} {S : Ld} (hn : 8 < n) (hl : isLd t L S) (hW : okW S) : ∃ v, f_X2_measure n J L t = some ((), v) ∧ Fr t v [oLn J, oCe J] ∧ isLn v J (Sc S) (dS S) := by
  obtain ⟨v, v1, v2, v3⟩ := take_roads (J := J) hn hl hW
  obtain ⟨w, w1, w2, w3⟩ := close_y hn hW.1 hW.m v3
  refine ⟨w, ?_, v2.trans (fr_ce w2), w3⟩
  unfold f_X2_measure
  rw [v1, bnd_s, w1, bnd_s]
theorem okW.setW {S : Ld} (h : okW S) {p q n : Nat} (hn : n ≤ 9999) : okW (setW S p q n) := by
  refine ⟨h.1, fun i j => ?_, fun i j => ?_⟩
  · show (if (i = p ∧ j = q) ∨ (i = q ∧ j = p) then n else Sw S i j) = (if (j = p ∧ i = q) ∨ (j = q ∧ i = p) then n else Sw S j i)
    by_cases hc : (i = p ∧ j = q) ∨ (i = q ∧ j = p)
    · rw [if_pos hc, if_pos (by omega)]
    · rw [if_neg hc, if_neg (by omega)]
      exact h.2.1 i j
  · show (if (i = p ∧ j = q) ∨ (i = q ∧ j = p) then n else Sw S i j) ≤ 9999
    split
    · exact hn
    · exact h.2.2 i j
theorem wS_without (S : Ld) {p q : Nat} (hpq : ¬ p = q) (i j : Nat) : wS (setW S p q 0) i j = if (i = p ∧ j = q) ∨ (i = q ∧ j = p) then 10000 else wS S i j := by
  unfold wS
  show (if i = j then 0 else if (if (i = p ∧ j = q) ∨ (i = q ∧ j = p) then 0 else Sw S i j) = 0 then 10000 else if (i = p ∧ j = q) ∨ (i = q ∧ j = p) then 0 else Sw S i j) = _
  by_cases hc : (i = p ∧ j = q) ∨ (i = q ∧ j = p)
  · rw [if_pos hc, if_pos hc, if_neg (by omega), if_pos rfl]
  · rw [if_neg hc, if_neg hc]
theorem without_y {t : Mem} {L : Fin 3} {J : Fin 2} {n p q : Nat} {S : Ld} (hn : 8 < n) (hl : isLd t L S) (hW : okW S) (hp : p < Sc S) (hq : q < Sc S) (hpq : ¬ p = q) : ∃ v, f_X2_measureWithout n J L (nI p) (nI q) t = some ((), v) ∧ Fr t v [oLn J, oCe J] ∧ isLn v J (Sc S) (dS (setW S p q 0)) := by
  have hc := hW.1
  obtain ⟨v, v1, v2, v3⟩ := take_roads (J := J) hn hl hW
  have f := st2_fr v p q (10000 : Int32) (List.mem_singleton.mpr rfl : oCe J ∈ [oCe J])
  have hL : isLn (st2 v (oCe J) p q 10000) J (Sc S) (wS (setW S p q 0)) := by
    refine ⟨by rw [f.1 _ (ln_ce J)]; exact v3.1, fun i j hi hj => ?_⟩
    rw [st2_f, two_cell (by omega) (by omega) (by omega) (by omega), wS_without S hpq, v3.2 i j hi hj]
    split <;> rfl
  obtain ⟨w, w1, w2, w3⟩ := close_y hn hc (hW.setW (p := p) (q := q) (n := 0) (by omega)).m hL
  refine ⟨w, ?_, (v2.trans (fr_ce f)).trans (fr_ce w2), w3⟩
  unfold f_X2_measureWithout
  rw [v1, bnd_s, note_y v3.1 hc hp hq, bnd_s, w1, bnd_s]
