/-! layer 2: mend -/
def prS (c a : Nat) : Nat := a * c - a * (a + 1) / 2
theorem prS_all : ∀ c : Fin 9, ∀ a : Fin 8, a.val < c.val → prS c.val a.val + (c.val - a.val - 1) = prS c.val (a.val + 1) := by decide +kernel
theorem prS_end : ∀ c : Fin 9, prS c.val c.val = prsN c.val := by decide +kernel
theorem prS_0 (c : Nat) : prS c 0 = 0 := by
  unfold prS
  omega
def twN (c : Nat) (N : Nat → Nat) (p q : Nat) : Nat := N (prL c p q)
theorem row_sm {c a : Nat} (N : Nat → Nat) : ∀ k, smN N (prS c a + k) = smN N (prS c a) + upN (twN c N) (a + 1 + k) a
  | 0 => by rw [Nat.add_zero, Nat.add_zero, up_0, Nat.add_zero]
  | k + 1 => by
    have h := row_sm (c := c) (a := a) N k
    show smN N (prS c a + k) + N (prS c a + k) = smN N (prS c a) + upN (twN c N) ((a + 1 + k) + 1) a
    rw [h, up_s _ (by omega)]
    have e : prL c a (a + 1 + k) = prS c a + k := by
      unfold prL prS
      omega
    unfold twN at *
    rw [e]
    omega
theorem all_sm {c : Nat} (hc : c ≤ 8) (N : Nat → Nat) : ∀ a, a ≤ c → smN N (prS c a) = smN (fun p => upN (twN c N) c p) a
  | 0, _ => by rw [prS_0]; rfl
  | a + 1, h => by
    have h1 := all_sm hc N a (by omega)
    have h2 := prS_all ⟨c, by omega⟩ ⟨a, by omega⟩ (show a < c by omega)
    have h3 := row_sm (c := c) (a := a) N (c - a - 1)
    rw [show prS c a + (c - a - 1) = prS c (a + 1) from h2, h1, show a + 1 + (c - a - 1) = c by omega] at h3
    rw [h3]
    rfl
theorem prs_sm {c : Nat} (hc : c ≤ 8) (N : Nat → Nat) : smN N (prsN c) = totN (twN c N) c := by
  rw [← show prS c c = prsN c from prS_end ⟨c, by omega⟩, all_sm hc N c (Nat.le_refl _)]
  rfl
theorem up_add (f g : Nat → Nat → Nat) (c p : Nat) : upN (fun p q => f p q + g p q) c p = upN f c p + upN g c p := by
  unfold upN
  rw [← sm_add]
  exact sm_congr c (fun i _ => by split <;> rfl)
theorem up_congr {f g : Nat → Nat → Nat} {c p : Nat} (h : ∀ q, p < q → q < c → f p q = g p q) : upN f c p = upN g c p :=
  sm_congr c (fun i hi => by
    by_cases e : p < i
    · rw [if_pos e, if_pos e, h i e hi]
    · rw [if_neg e, if_neg e])
theorem tot_add' {f g : Nat → Nat → Nat} {c : Nat} (h : ∀ p q, p < q → q < c → f p q ≤ g p q) : totN g c = totN f c + totN (fun p q => g p q - f p q) c := by
  unfold totN
  rw [← sm_add]
  refine sm_congr c (fun p hp => ?_)
  rw [← up_add]
  refine up_congr (fun q h1 h2 => ?_)
  have := h p q h1 h2
  show g p q = f p q + (g p q - f p q)
  omega
/-! the class: a table as lengths -/
theorem table_in {t u0 : Mem} {K m n p c : Nat} {T : Nat → Int32} {A : Nat → Nat → Nat} {x2 : Int32} (hn : 8 < n) (hK : K < 8) (hc : c ≤ 8) (hT : rwT t K m T) (hm2 : m ≤ 160) (hm3 : prsN c ≤ m) (hs : ∀ i j, A i j = A j i) (hA : ∀ i j, i < j → j < c → T (prN c i j) = nI (A i j)) (hp : p < c) (self7 : Int32 × Mem → Option (Unit × Mem)) (h : tk t 1 c A p (p + 1) u0) : ∃ v, iter (bd_X2_measureTable_27 n 1 ⟨K, hK⟩ x2 self7) n (nI p, nI (p + 1), u0) = self7 (nI (p + 1), v) ∧ tk t 1 c A (p + 1) 0 v := by
  refine iter_inv (body := bd_X2_measureTable_27 n 1 ⟨K, hK⟩ x2 self7) c (fun q s => ∃ v, s = (nI p, nI q, v) ∧ p < q ∧ tk t 1 c A p q v) (fun x => ∃ v, x = self7 (nI (p + 1), v) ∧ tk t 1 c A (p + 1) 0 v) ?_ ?_ n (p + 1) _ (by omega) (by omega) ⟨u0, rfl, Nat.lt_succ_self p, h⟩
  · intro self q s hq hs'
    obtain ⟨v, rfl, hpq, hk⟩ := hs'
    have g := pr_of hc hp hq (show ¬ p = q by omega)
    have g3 : prN c p q < prsN c := g.2.2.1
    have hTv : rwT v K m T := hT.fr (hk.1.1 _ (sh_n hK (by decide))) hk.1.2
    refine .inl ⟨(nI p, nI (q + 1), st2 v (oCe 1) p q (nI (A p q))), ?_, _, rfl, by omega, hk.up hc hp hq (hs p q) rfl⟩
    unfold bd_X2_measureTable_27
    dsimp only
    rw [hk.2.1, if_neg (nle8 hq hc), g.1, bnp_s, asI_y hK hTv hm2 (by omega), bnd_s, hA p q hpq hq, note_y hk.2.1 hc hp hq, bnd_s, nI_s]
  · intro self s hs'
    obtain ⟨v, rfl, hpq, hk⟩ := hs'
    refine ⟨v, ?_, hk.1, hk.2.1, hk.2.2.row⟩
    unfold bd_X2_measureTable_27
    dsimp only
    rw [hk.2.1, if_pos le8, nI_s]
theorem table_y {t : Mem} {K m n c : Nat} {T : Nat → Int32} {A : Nat → Nat → Nat} (hn : 8 < n) (hK : K < 8) (hc : c ≤ 8) (hT : rwT t K m T) (hm2 : m ≤ 160) (hm3 : prsN c ≤ m) (hs : okM A) (hA : ∀ i j, i < j → j < c → T (prN c i j) = nI (A i j)) : ∃ v, f_X2_measureTable n 1 ⟨K, hK⟩ (nI c) t = some ((), v) ∧ Fr t v [oLn 1, oCe 1] ∧ isLn v 1 c (fwN A c) := by
  unfold f_X2_measureTable
  rw [ltm_s]
  have f0 : Fr t (uI t (oLn 1) 1 (nI c)) [oLn 1, oCe 1] := Fr.uI t _ _ (ln_in 1)
  refine iter_inv (body := bd_X2_measureTable_7 n 1 ⟨K, hK⟩ (nI c)) c (fun p s => ∃ v, s = (nI p, v) ∧ tk t 1 c A p 0 v) (fun x => ∃ v, x = some ((), v) ∧ Fr t v [oLn 1, oCe 1] ∧ isLn v 1 c (fwN A c)) ?_ ?_ n 0 _ (Nat.zero_le _) (by omega) ⟨_, rfl, f0, by rw [uI_same, upd_same], dnK.nil⟩
  · intro self p s hp hs'
    obtain ⟨v, rfl, hk⟩ := hs'
    have h1 : tk t 1 c A p p v := ⟨hk.1, hk.2.1, hk.2.2.pp⟩
    have h2 := h1.up (x := 0) hc hp hp rfl (by rw [hs.1]; rfl)
    obtain ⟨w, w1, w2⟩ := table_in (x2 := nI c) hn hK hc hT hm2 hm3 hs.2.1 hA hp self h2
    refine .inl ⟨_, ?_, w, rfl, w2⟩
    unfold bd_X2_measureTable_7
    dsimp only
    rw [hk.2.1, if_neg (nle8 hp hc), note_y hk.2.1 hc hp hp, bnd_s, nI_s]
    exact w1
  · intro self s hs'
    obtain ⟨v, rfl, hk⟩ := hs'
    obtain ⟨w, w1, w2, w3⟩ := close_y (n := n) hn hc hs ⟨hk.2.1, fun i j hi hj => hk.2.2.all hi hj⟩
    refine ⟨w, ?_, hk.1.trans (fr_ce w2), w3⟩
    unfold bd_X2_measureTable_7
    dsimp only
    rw [hk.2.1, if_pos le8, w1, bnd_s]
/-! the reference: the table laid as roads -/
def taW (S : Ld) (N : Nat → Nat) (p q i j : Nat) : Nat := if ¬ i = j ∧ i < Sc S ∧ j < Sc S ∧ (i < p ∨ j < p ∨ (i = p ∧ j < q) ∨ (j = p ∧ i < q)) then N (prN (Sc S) i j) else Sw S i j
def taG (S : Ld) (N : Nat → Nat) (u1 : Mem) (p q : Nat) (w : Mem) : Prop := ∃ S', isMd w S' ∧ Sc S' = Sc S ∧ (∀ i j, Sw S' i j = taW S N p q i j) ∧ Fr u1 w [45]
theorem prN_sym (c p q : Nat) : prN c p q = prN c q p := by
  unfold prN
  rw [Nat.min_comm, Nat.max_comm]
theorem tay_in {u u1 : Mem} {S : Ld} {K n p : Nat} {T : Nat → Int32} {N : Nat → Nat} (hn : 8 < n) (hK : K < 8) (hc : Sc S ≤ 8) (hU : rwU u1 K T) (hN : ∀ i, i < prsN (Sc S) → T i = nI (N i)) (hp : p < Sc S) (self68 : Int32 × Int32 × Mem → Option (Int32 × Mem)) (h : taG S N u1 p (p + 1) u) : ∃ w, iter (bd_X6_mend_83 n (nI K) self68) n (0, nI p, nI (p + 1), u) = self68 (0, nI (p + 1), w) ∧ taG S N u1 (p + 1) 0 w := by
  refine iter_inv (body := bd_X6_mend_83 n (nI K) self68) (Sc S) (fun q s => ∃ w, s = (0, nI p, nI q, w) ∧ p < q ∧ taG S N u1 p q w) (fun x => ∃ w, x = self68 (0, nI (p + 1), w) ∧ taG S N u1 (p + 1) 0 w) ?_ ?_ n (p + 1) _ (by omega) (by omega) ⟨u, rfl, Nat.lt_succ_self p, h⟩
  · intro self q s hq hs
    obtain ⟨w, rfl, hpq, S', hm, hS, hw, hF⟩ := hs
    have g := pr_of hc hp hq (show ¬ p = q by omega)
    have hcn : w.1 39 3 = nI (Sc S) := by rw [hm.1, hS]
    obtain ⟨w', b1, b2, b3⟩ := mlay_y (p := p) (q := q) (n := N (prN (Sc S) p q)) hm (by omega) (by omega)
    refine .inl ⟨(0, nI p, nI (q + 1), w'), ?_, w', rfl, by omega, _, b2, hS, fun i j => ?_, hF.trans b3⟩
    · unfold bd_X6_mend_83
      dsimp only
      rw [hcn, if_neg (nle8 hq hc), g.2.1 w hcn, bnd_s, tld_y hK (hU.fr hF.2) (by have := g.2.2.2; omega), bnd_s, hN _ g.2.2.1, b1, bnd_s, nI_s]
    · show (if (i = p ∧ j = q) ∨ (i = q ∧ j = p) then N (prN (Sc S) p q) else Sw S' i j) = _
      rw [hw]
      unfold taW
      by_cases e : (i = p ∧ j = q) ∨ (i = q ∧ j = p)
      · rw [if_pos e, if_pos (by omega)]
        rcases e with ⟨rfl, rfl⟩ | ⟨rfl, rfl⟩
        · rfl
        · rw [prN_sym]
      · rw [if_neg e]
        by_cases d : ¬ i = j ∧ i < Sc S ∧ j < Sc S ∧ (i < p ∨ j < p ∨ (i = p ∧ j < q) ∨ (j = p ∧ i < q))
        · rw [if_pos d, if_pos (by omega)]
        · rw [if_neg d, if_neg (by omega)]
  · intro self s hs
    obtain ⟨w, rfl, hpq, S', hm, hS, hw, hF⟩ := hs
    have hcn : w.1 39 3 = nI (Sc S) := by rw [hm.1, hS]
    refine ⟨w, ?_, S', hm, hS, fun i j => ?_, hF⟩
    · unfold bd_X6_mend_83
      dsimp only
      rw [hcn, if_pos le8, nI_s]
    · rw [hw]
      unfold taW
      by_cases d : ¬ i = j ∧ i < Sc S ∧ j < Sc S ∧ (i < p ∨ j < p ∨ (i = p ∧ j < Sc S) ∨ (j = p ∧ i < Sc S))
      · rw [if_pos d, if_pos (by omega)]
      · rw [if_neg d, if_neg (by omega)]
/-- the sum of what is less -/
theorem less_y {w : Mem} {S' : Ld} {n : Nat} {x1 : Int32} (hn : 8 < n) (hm : isMd w S') (hc : Sc S' ≤ 8) (hf : isFar w (Sc S') (dS S')) (hw : ∀ p q, p < q → q < Sc S' → ¬ Sw S' p q = 0) : iter (bd_X6_mend_133 n x1) n (0, 0, w) = bnd (f_X6_again n 1 w) fun _ t19 => some (nI (totN (fun p q => Sw S' p q - dS S' p q) (Sc S')), t19) := by
  refine iter_up0 (body := bd_X6_mend_133 n x1) (Sc S') (fun p => (nI (smN (fun p => upN (fun p q => Sw S' p q - dS S' p q) (Sc S') p) p), nI p, w)) _ rfl (by omega) (fun self p hp => ?_) (fun self => ?_)
  · unfold bd_X6_mend_133
    dsimp only
    rw [hm.1, if_neg (nle8 hp hc), nI_s]
    refine iter_inv (body := bd_X6_mend_148 n x1 self) (Sc S') (fun q s => p < q ∧ s = (nI (smN (fun p => upN (fun p q => Sw S' p q - dS S' p q) (Sc S') p) p + upN (fun p q => Sw S' p q - dS S' p q) q p), nI p, nI q, w)) (fun x => x = self (nI (smN (fun p => upN (fun p q => Sw S' p q - dS S' p q) (Sc S') p) (p + 1)), nI (p + 1), w)) ?_ ?_ n (p + 1) _ (by omega) (by omega) ⟨by omega, by rw [up_0]; rfl⟩
    · intro self2 q s hq hs
      obtain ⟨hpq, rfl⟩ := hs
      refine .inl ⟨_, ?_, by omega, rfl⟩
      have hd : dS S' p q ≤ Sw S' p q := by
        have := dS_w S' p q
        rw [wS_road (by omega) (hw p q hpq hq)] at this
        exact this
      unfold bd_X6_mend_148
      dsimp only
      rw [hm.1, if_neg (nle8 hq hc), ck_t (inb8' (by omega) (by omega)), ck_t (inb8' (by omega) (by omega)), mfar' hf hc hp hq, clamp8' (by omega) (by omega), hm.2.2.2.2.2.2 p q (by omega) (by omega), nI_sub hd, lti_s, nI_add, nI_s, up_s _ hpq, Nat.add_assoc]
    · intro self2 s hs
      obtain ⟨hpq, rfl⟩ := hs
      unfold bd_X6_mend_148
      dsimp only
      rw [hm.1, if_pos le8, nI_s]
      rfl
  · unfold bd_X6_mend_133
    dsimp only
    rw [hm.1, if_pos le8]
    rfl
theorem stp26 {n : Nat} (hn : 64 < n) : Stp26 Rel n := fun t u x1 h0 => by
  obtain ⟨S, hl, hm, ok, ho⟩ := id h0
  have hc := ok.1
  unfold f_X5_mend f_X6_mend
  rcases tabp x1 hl hm ok ho with ⟨s, k, k1, k2, a, b, c⟩ | ⟨K, hK, m, T, rfl, hm2, hm3, a, b, c, hT, hU⟩
  · rw [a, bnd_s, b, bnd_s, c, bnd_s, if_neg (ng_ne k1 k2), if_neg (ng_lt k1 k2)]
    exact fin_no k h0 k1 k2
  rw [a, bnd_s, b, bnd_s, c, bnd_s, if_pos rfl, if_pos (by decide)]
  have hps := prs_y hc
  obtain ⟨N, hNd⟩ : ∃ N : Nat → Nat, N = fun i => min 9999 (T i).toInt.toNat := ⟨_, rfl⟩
  have hN9 : ∀ i, N i ≤ 9999 := fun i => by rw [hNd]; exact Nat.min_le_left _ _
  refine iter_pair (b1 := bd_X5_mend_28 n (nI K)) (b2 := bd_X6_mend_18 n (nI K)) (prsN (Sc S)) (fun i s1 s2 => (∀ k, k < i → T k = nI (N k) ∧ 1 ≤ N k) ∧ s1 = (some ⟨K, hK⟩, nI (smN N i), nI i, t) ∧ s2 = (nI i, u)) (fun r1 r2 => ∃ r t' u', r1 = some (r, t') ∧ r2 = some (r, u') ∧ Rel t' u') ?_ ?_ n n 0 _ _ (Nat.zero_le _) (by omega) (by omega) ⟨fun k hk => absurd hk (Nat.not_lt_zero k), rfl, rfl⟩
  · intro s1 s2 i y1 y2 hi hR
    obtain ⟨hk, rfl, rfl⟩ := hR
    have hx : ¬ nI (prsN (Sc S)) ≤ nI i := by rw [nI_le' (by omega) (by omega)]; omega
    have K1 : bd_X5_mend_28 n (nI K) s1 (some ⟨K, hK⟩, nI (smN N i), nI i, t) = if T i < 1 then (bnd (f_X5_refuse (-6) t) fun r19 t20 => some (r19, t20)) else if T i ≤ 9999 then s1 (some ⟨K, hK⟩, nI (smN N i) + T i, nI (i + 1), t) else (bnd (f_X5_refuse (-6) t) fun r19 t20 => some (r19, t20)) := by
      unfold bd_X5_mend_28 jn_X5_mend_65 f_X5_pairsOf
      dsimp only
      rw [hl.1, hps.1, bnp_s, if_neg hx, nn_s, asI_y hK hT hm2 (by omega), bnd_s, nI_s]
    have K2 : bd_X6_mend_18 n (nI K) s2 (nI i, u) = bnp (f_X6_within (T i) 1 9999) fun r12 => if ¬ r12 = 0 then s2 (nI (i + 1), u) else bnd (f_X6_no (-6) u) fun r14 t15 => some (r14, t15) := by
      unfold bd_X6_mend_18 f_X6_pairs
      dsimp only
      rw [bnd_s, hm.1, hps.1, if_neg hx, tld_y hK hU (by omega), bnd_s, nI_s]
    rw [K1, K2]
    by_cases e1 : T i < 1
    · rw [if_pos e1, win_n (.inl e1), bnp_s, if_neg z_nn]
      exact .inr (fin_no 6 h0 (by decide) (by decide))
    by_cases e2 : T i ≤ 9999
    · rw [if_neg e1, if_pos e2, win_y e1 (Int32.not_lt.mpr e2), bnp_s, if_pos one_ne]
      have e5 : ¬ (T i).toInt < 1 := fun e => e1 (i_lt.mpr e)
      have e6 : (T i).toInt ≤ 9999 := i_le.mp e2
      have e7 : T i = nI (N i) := by
        rw [i_eq, nI_toInt (by have := hN9 i; omega), hNd]
        show _ = ((min 9999 (T i).toInt.toNat : Nat) : Int)
        omega
      have e8 : 1 ≤ N i := by
        rw [hNd]
        show 1 ≤ min 9999 (T i).toInt.toNat
        omega
      refine .inl ⟨_, _, rfl, rfl, fun k hk2 => ?_, by rw [e7, nI_add]; rfl, rfl⟩
      by_cases e9 : k = i
      · rw [e9]; exact ⟨e7, e8⟩
      · exact hk k (by omega)
    · rw [if_neg e1, if_neg e2, win_n (.inr (Int32.not_le.mp e2)), bnp_s, if_neg z_nn]
      exact .inr (fin_no 6 h0 (by decide) (by decide))
  · intro s1 s2 y1 y2 hR
    obtain ⟨hk, rfl, rfl⟩ := hR
    obtain ⟨u1, b1, b2, b3⟩ := keep_y (B := 1) (n := n) hn hm
    have hm1 := hm.fr b3 (by decide) (by decide) (by decide) (by decide)
    have hU1 : rwU u1 K T := hU.fr b3.2
    have lay : ∃ w S' v z, iter (bd_X6_mend_68 n (nI K)) n (0, 0, u1) = some (nI (totN (fun p q => Sw S' p q - dS S' p q) (Sc S)), z) ∧ Sc S' = Sc S ∧ (∀ i j, i < j → j < Sc S → Sw S' i j = N (prN (Sc S) i j)) ∧ okW S' ∧ Fr u1 w [45] ∧ Fr w v [51] ∧ frU v z ∧ isMd z S := by
      refine iter_inv (body := bd_X6_mend_68 n (nI K)) (Sc S) (fun p s => ∃ w, s = (0, nI p, w) ∧ taG S N u1 p 0 w) (fun x => ∃ w S' v z, x = some (nI (totN (fun p q => Sw S' p q - dS S' p q) (Sc S)), z) ∧ Sc S' = Sc S ∧ (∀ i j, i < j → j < Sc S → Sw S' i j = N (prN (Sc S) i j)) ∧ okW S' ∧ Fr u1 w [45] ∧ Fr w v [51] ∧ frU v z ∧ isMd z S) ?_ ?_ n 0 _ (Nat.zero_le _) (by omega) ⟨u1, rfl, S, hm1, rfl, fun i j => by unfold taW; rw [if_neg (by omega)], Fr.rf _ _⟩
      · intro self p s hp hs
        obtain ⟨w, rfl, S', hmw, hS, hw, hF⟩ := hs
        have hcn : w.1 39 3 = nI (Sc S) := by rw [hmw.1, hS]
        have h2 : taG S N u1 p (p + 1) w := by
          refine ⟨S', hmw, hS, fun i j => ?_, hF⟩
          rw [hw]
          unfold taW
          by_cases d : ¬ i = j ∧ i < Sc S ∧ j < Sc S ∧ (i < p ∨ j < p ∨ (i = p ∧ j < 0) ∨ (j = p ∧ i < 0))
          · rw [if_pos d, if_pos (by omega)]
          · rw [if_neg d, if_neg (by omega)]
        obtain ⟨w', w1, w2⟩ := tay_in (n := n) (by omega) hK hc hU1 (fun i hi => (hk i hi).1) hp self h2
        refine .inl ⟨_, ?_, w', rfl, w2⟩
        unfold bd_X6_mend_68
        dsimp only
        rw [hcn, if_neg (nle8 hp hc), nI_s]
        exact w1
      · intro self s hs
        obtain ⟨w, rfl, S', hmw, hS, hw, hF⟩ := hs
        have hcn : w.1 39 3 = nI (Sc S) := by rw [hmw.1, hS]
        have hsw : ∀ i j, i < j → j < Sc S → Sw S' i j = N (prN (Sc S) i j) := fun i j h1 h2 => by
          rw [hw]
          unfold taW
          rw [if_pos (by omega)]
        have hW : okW S' := by
          refine ⟨by omega, fun p q => ?_, fun p q => ?_⟩
          · rw [hw, hw]
            unfold taW
            by_cases d : ¬ p = q ∧ p < Sc S ∧ q < Sc S ∧ (p < Sc S ∨ q < Sc S ∨ (p = Sc S ∧ q < 0) ∨ (q = Sc S ∧ p < 0))
            · rw [if_pos d, if_pos (by omega), prN_sym]
            · rw [if_neg d, if_neg (by omega)]
              exact ok.w.2.1 p q
          · rw [hw]
            unfold taW
            split
            · exact hN9 _
            · exact ok.w.2.2 p q
        obtain ⟨v, v1, v2, v3⟩ := walk_y (n := n) (by omega) hmw hW
        have hmv := hmw.fr v2 (by decide) (by decide) (by decide) (by decide)
        have hkv : kepR 49 v S := (b2.fr (o := 49) (hF.1 49 (by decide))).fr (v2.1 49 (by decide))
        obtain ⟨z, z1, z2, z3⟩ := again_fr hn hkv
        refine ⟨w, S', v, z, ?_, hS, hsw, hW, hF, v2, z3, z2⟩
        unfold bd_X6_mend_68
        dsimp only
        rw [hcn, if_pos le8, v1, bnd_s, less_y (by omega) hmv hW.1 v3 (fun p q h1 h2 => by
          rw [hsw p q h1 (by omega)]
          have := pr_of hc (show p < Sc S by omega) (show q < Sc S by omega) (show ¬ p = q by omega)
          have := (hk _ this.2.2.1).2
          omega), z1, bnd_s, hS]
    obtain ⟨w, S', v, z, c1, c2, c3, c4, c5, c6, c7, c8⟩ := lay
    have hwS : ∀ i j, i < j → j < Sc S → wS S' i j = N (prN (Sc S) i j) := fun i j h1 h2 => by
      have := pr_of hc (show i < Sc S by omega) (show j < Sc S by omega) (show ¬ i = j by omega)
      have := (hk _ this.2.2.1).2
      rw [wS_road (by omega) (by rw [c3 i j h1 h2]; omega), c3 i j h1 h2]
    obtain ⟨t', d1, d2, d3⟩ := table_y (n := n) (A := wS S') (by omega) hK hc hT hm2 hm3 c4.m (fun i j h1 h2 => by
      have := pr_of hc (show i < Sc S by omega) (show j < Sc S by omega) (show ¬ i = j by omega)
      rw [hwS i j h1 h2]
      exact (hk _ this.2.2.1).1)
    have d4 : isLn t' 1 (Sc S) (dS S') := by
      unfold dS
      rw [c2]
      exact d3
    have hsum : smN N (prsN (Sc S)) = totN (dS S') (Sc S) + totN (fun p q => Sw S' p q - dS S' p q) (Sc S) := by
      have e1 : totN (twN (Sc S) N) (Sc S) = totN (fun p q => Sw S' p q) (Sc S) := sm_congr _ (fun p hp => up_congr (fun q h1 h2 => by
        show N (prL (Sc S) p q) = Sw S' p q
        rw [c3 p q h1 h2]
        unfold prN
        rw [Nat.min_eq_left (by omega), Nat.max_eq_right (by omega)]))
      rw [prs_sm hc, e1]
      refine tot_add' (fun p q h1 h2 => ?_)
      have := dS_w S' p q
      rw [hwS p q h1 h2, ← c3 p q h1 h2] at this
      exact this
    refine ⟨nI (totN (fun p q => Sw S' p q - dS S' p q) (Sc S)), t', z, ?_, ?_, S, hl.lc d2, c8, ok, ?_⟩
    · unfold bd_X5_mend_28 f_X5_pairsOf
      dsimp only
      rw [hl.1, hps.1, bnp_s, if_pos le8, nn_s, d1, bnd_s, total_y (by omega) d4 hc, bnd_s, hsum, nI_sub (by omega), Nat.add_sub_cancel_left]
    · unfold bd_X6_mend_18 f_X6_pairs
      dsimp only
      rw [bnd_s, hm.1, hps.1, if_pos le8, b1, bnd_s]
      exact c1
    · exact (ho.two d2 ((b3.mono (by decide)).trans ((c5.mono (by decide)).trans (c6.mono (by decide)) : Fr u1 v [45, 49, 51])) (lc_k 1) (by decide) (by decide)).u (Fr.rf t' []) (by decide) c7
