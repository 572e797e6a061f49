/-! the functions of class and reference: small laws -/
theorem bnd_s {S Rt : Type} (a : S) (m : Mem) (K : S → Mem → Option Rt) : bnd (some (a, m)) K = K a m := rfl
theorem bnp_s {S Rt : Type} (a : S) (K : S → Option Rt) : bnp (some a) K = K a := rfl
theorem ck_t {Rt : Type} {b : Bool} (h : b = true) (U : Option Rt) : ck b U = U := by subst h; rfl
theorem lti_s {Rt : Type} (v : Int32) (K : Int32 → Option Rt) : lti v K = K v := rfl
theorem ltl_s {Rt : Type} (v : Int64) (K : Int64 → Option Rt) : ltl v K = K v := rfl
theorem ltm_s {Rt : Type} (m : Mem) (K : Mem → Option Rt) : lt m K = K m := rfl
theorem nn_s {Rt : Type} (k : Fin 8) (K : Fin 8 → Option Rt) : nn (some k) K = K k := rfl
theorem nul_s {Rt : Type} (k : Fin 8) (U : Option Rt) (K : Fin 8 → Option Rt) : nul (some k) U K = K k := rfl
theorem nul_n {Rt : Type} (U : Option Rt) (K : Fin 8 → Option Rt) : nul none U K = U := rfl
/-- a loop whose state at turn i is st i, for c turns, then its end -/
theorem iter_up {S Rt : Type} {body : (S → Option Rt) → S → Option Rt} (c : Nat) (st : Nat → S) (res : Option Rt) (hstep : ∀ (self : S → Option Rt) (i : Nat), i < c → body self (st i) = self (st (i + 1))) (hexit : ∀ self : S → Option Rt, body self (st c) = res) : ∀ (k i : Nat), i ≤ c → c - i < k → iter body k (st i) = res := by
  intro k
  induction k with
  | zero => intro i _ h; exact absurd h (Nat.not_lt_zero _)
  | succ k ih =>
    intro i hi hk
    show body (iter body k) (st i) = res
    by_cases h : i = c
    · subst h; exact hexit _
    · rw [hstep _ i (by omega)]
      exact ih (i + 1) (by omega) (by omega)
theorem iter_up0 {S Rt : Type} {body : (S → Option Rt) → S → Option Rt} (c : Nat) (st : Nat → S) (res : Option Rt) {s0 : S} {k : Nat} (h0 : s0 = st 0) (hk : c < k) (hstep : ∀ (self : S → Option Rt) (i : Nat), i < c → body self (st i) = self (st (i + 1))) (hexit : ∀ self : S → Option Rt, body self (st c) = res) : iter body k s0 = res := by
  rw [h0]
  exact iter_up c st res hstep hexit k 0 (Nat.zero_le _) (by omega)
/-! numbers -/
theorem nI_mul (a b : Nat) : nI a * nI b = nI (a * b) := (Int32.ofNat_mul a b).symm
theorem nI_sub {a b : Nat} (h : b ≤ a) : nI a - nI b = nI (a - b) := by
  have h1 : nI a = nI (a - b) + nI b := by rw [nI_add]; congr 1; omega
  rw [h1]
  exact Int32.add_sub_cancel _ _
theorem inb_nI {i n : Nat} (h : i < n) (hn : n < 2 ^ 31) : inb (nI i) n = true := decide_eq_true (nI_in h hn)
theorem ix8 (p q : Nat) : nI p * 8 + nI q = nI (8 * p + q) := by
  rw [show (8 : Int32) = nI 8 from rfl, nI_mul, nI_add, Nat.mul_comm]
theorem clamp8 {p q : Nat} (hp : p < 8) (hq : q < 8) : (nI p * 8 + nI q).toNatClampNeg = 8 * p + q := by
  rw [ix8, nI_clamp (by omega)]
theorem inb8 {p q : Nat} (hp : p < 8) (hq : q < 8) : inb (nI p * 8 + nI q) 64 = true := by
  rw [ix8]
  exact inb_nI (by omega) (by decide)
/-- the place that a number names -/
def plc (c : Nat) (x : Int32) : Option Nat := if 0 ≤ x.toInt ∧ x.toInt < (c : Int) then some x.toInt.toNat else none
theorem plc_some {c : Nat} {x : Int32} {p : Nat} (h : plc c x = some p) : x = nI p ∧ p < c := by
  unfold plc at h
  split at h
  · rename_i hc
    cases h
    refine ⟨?_, by omega⟩
    apply Int32.toInt_inj.mp
    have := Int32.toInt_lt x
    rw [nI_toInt (by omega)]
    omega
  · cases h
theorem plc_none {c : Nat} {x : Int32} (hc : c < 2 ^ 31) (h : plc c x = none) : x < 0 ∨ (¬ x < 0 ∧ nI c ≤ x) := by
  unfold plc at h
  split at h
  · cases h
  · rename_i hn
    by_cases h0 : x < 0
    · exact Or.inl h0
    · refine Or.inr ⟨h0, ?_⟩
      rw [Int32.le_iff_toInt_le, nI_toInt hc]
      rw [Int32.lt_iff_toInt_lt, Int32.toInt_zero] at h0
      omega
theorem plc_nI {c p : Nat} (h : p < c) (hc : c < 2 ^ 31) : plc c (nI p) = some p := by
  unfold plc
  rw [nI_toInt (by omega), if_pos (by omega)]
  simp
/-! rows of memory -/
theorem uA_same (t : Mem) (o : Nat) (f : Nat → Int32) : (uA t o f).1 o = f := by
  show (if o = o then f else t.1 o) = f
  rw [if_pos rfl]
theorem uA_ne {t : Mem} {o i : Nat} (f : Nat → Int32) (h : ¬ i = o) : (uA t o f).1 i = t.1 i := by
  show (if i = o then f else t.1 i) = t.1 i
  rw [if_neg h]
theorem uA_2 (t : Mem) (o : Nat) (f : Nat → Int32) : (uA t o f).2 = t.2 := rfl
theorem uB_1 (t : Mem) (o : Nat) (f : Nat → Int64) : (uB t o f).1 = t.1 := rfl
theorem uB_same (t : Mem) (o : Nat) (f : Nat → Int64) : (uB t o f).2 o = f := by
  show (if o = o then f else t.2 o) = f
  rw [if_pos rfl]
theorem uB_ne {t : Mem} {o i : Nat} (f : Nat → Int64) (h : ¬ i = o) : (uB t o f).2 i = t.2 i := by
  show (if i = o then f else t.2 i) = t.2 i
  rw [if_neg h]
theorem upd_same (f : Nat → Int32) (k : Nat) (x : Int32) : upd f k x k = x := by
  show (if k = k then x else f k) = x
  rw [if_pos rfl]
theorem upd_ne {f : Nat → Int32} {k j : Nat} (x : Int32) (h : ¬ j = k) : upd f k x j = f j := by
  show (if j = k then x else f j) = f j
  rw [if_neg h]
/-- only rows of the list are other -/
def Fr (t t' : Mem) (l : List Nat) : Prop := (∀ o, ¬ o ∈ l → t'.1 o = t.1 o) ∧ t'.2 = t.2
theorem Fr.rf (t : Mem) (l : List Nat) : Fr t t l := ⟨fun _ _ => rfl, rfl⟩
theorem Fr.trans {t t1 t2 : Mem} {l : List Nat} (h1 : Fr t t1 l) (h2 : Fr t1 t2 l) : Fr t t2 l := ⟨fun o h => (h2.1 o h).trans (h1.1 o h), h2.2.trans h1.2⟩
theorem Fr.mono {t t' : Mem} {l l' : List Nat} (h : Fr t t' l) (hl : ∀ o, o ∈ l → o ∈ l') : Fr t t' l' := ⟨fun o ho => h.1 o (fun hm => ho (hl o hm)), h.2⟩
theorem Fr.uA (t : Mem) {o : Nat} (f : Nat → Int32) {l : List Nat} (h : o ∈ l) : Fr t (uA t o f) l := ⟨fun i hi => uA_ne f (fun e => hi (e ▸ h)), rfl⟩
/-! a land: places, kinds, marks, miles, flour, wind, seed -/
abbrev Ld : Type := Nat × (Nat → Nat) × (Nat → Nat) × (Nat → Nat → Nat) × Nat × Nat × Int32
abbrev Sc (S : Ld) : Nat := S.1
abbrev Sk (S : Ld) : Nat → Nat := S.2.1
abbrev Sm (S : Ld) : Nat → Nat := S.2.2.1
abbrev Sw (S : Ld) : Nat → Nat → Nat := S.2.2.2.1
abbrev Sf (S : Ld) : Nat := S.2.2.2.2.1
abbrev Sd (S : Ld) : Nat := S.2.2.2.2.2.1
abbrev Se (S : Ld) : Int32 := S.2.2.2.2.2.2
def isLd (t : Mem) (L : Fin 3) (S : Ld) : Prop := t.1 (oLd L) 3 = nI (Sc S) ∧ t.1 (oLd L) 4 = nI (Sf S) ∧ t.1 (oLd L) 5 = nI (Sd S) ∧ t.1 (oLd L) 6 = Se S ∧ (∀ i, i < 8 → t.1 (oKn L) i = nI (Sk S i)) ∧ (∀ i, i < 8 → t.1 (oMk L) i = nI (Sm S i)) ∧ ∀ p q, p < 8 → q < 8 → t.1 (oRd L) (8 * p + q) = nI (Sw S p q)
def okLd (S : Ld) : Prop := Sc S ≤ 8 ∧ Sf S ≤ 99999 ∧ Sd S ≤ 9 ∧ (∀ i, Sk S i ≤ 6) ∧ (∀ i, Sm S i ≤ 9) ∧ (∀ p q, Sw S p q ≤ 999) ∧ (∀ p q, Sw S p q = Sw S q p) ∧ (∀ p, Sw S p p = 0) ∧ ∀ p q, ¬ Sw S p q = 0 → p < Sc S ∧ q < Sc S
theorem isLd.fr {t t' : Mem} {L : Fin 3} {S : Ld} {l : List Nat} (h : isLd t L S) (hF : Fr t t' l) (h1 : ¬ oLd L ∈ l) (h2 : ¬ oKn L ∈ l) (h3 : ¬ oMk L ∈ l) (h4 : ¬ oRd L ∈ l) : isLd t' L S := by
  unfold isLd
  rw [hF.1 _ h1, hF.1 _ h2, hF.1 _ h3, hF.1 _ h4]
  exact h
