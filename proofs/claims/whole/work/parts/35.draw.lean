/-! layer 2: a draw -/
theorem ushr_nat (x : Int32) : ∃ m, m < 65536 ∧ jushr x 16 = nI m := by
  refine ⟨x.toUInt32.toNat / 65536, ?_, ?_⟩
  · have := x.toUInt32.toNat_lt
    omega
  · have h := x.toUInt32.toNat_lt
    have e : (x.toUInt32 >>> 16) = UInt32.ofNat (x.toUInt32.toNat / 65536) := by
      apply UInt32.toNat_inj.mp
      rw [UInt32.toNat_shiftRight, UInt32.toNat_ofNat_of_lt' (by show _ < 2 ^ 32; omega)]
      show x.toUInt32.toNat >>> 16 = _
      rw [Nat.shiftRight_eq_div_pow]
    show (x.toUInt32 >>> 16).toInt32 = (UInt32.ofNat (x.toUInt32.toNat / 65536)).toInt32
    rw [e]
theorem nI_mod {a b : Nat} (ha : a < 2 ^ 31) (hb : b < 2 ^ 31) : nI a - nI a / nI b * nI b = nI (a % b) := by
  have h := Nat.div_add_mod a b
  have h2 : b * (a / b) = a / b * b := Nat.mul_comm _ _
  rw [nI_div ha hb, nI_mul, nI_sub (Nat.div_mul_le_self a b)]
  congr 1
  omega
def nxtE (e : Int32) : Int32 := e * 1103515245 + 12345
theorem draw_y {t u : Mem} {L : Fin 3} {S : Ld} {c : Nat} (h : isLd t L S) (hm : isMd u S) (h1 : 1 ≤ c) (h2 : c ≤ 10) : ∃ m, m < c ∧ f_X1_draw L (nI c) t = some (nI m, uI t (oLd L) 6 (nxtE (Se S))) ∧ f_X6_draw (nI c) u = some (nI m, uI u 39 9 (nxtE (Se S))) := by
  obtain ⟨m, hm', e⟩ := ushr_nat (nxtE (Se S))
  have a1 : (uI t (oLd L) 6 (nxtE (Se S))).1 (oLd L) 6 = nxtE (Se S) := by unfold uI; rw [uA_same, upd_same]
  have a2 : (uI u 39 9 (nxtE (Se S))).1 39 9 = nxtE (Se S) := by unfold uI; rw [uA_same, upd_same]
  have hz : ¬ nI c = 0 := fun g => by have := (nI_z (by omega)).mp g; omega
  refine ⟨m % c, Nat.mod_lt _ (by omega), ?_, ?_⟩
  · unfold f_X1_draw
    rw [h.2.2.2.1, show Se S * 1103515245 + 12345 = nxtE (Se S) from rfl, ltm_s, if_pos (show (1 : Int32) ≤ nI c by rw [show (1 : Int32) = nI 1 from rfl, nI_le' (by omega) (by omega)]; exact h1), ck_t (decide_eq_true hz), a1, e, nI_mod (by omega) (by omega)]
  · unfold f_X6_draw
    rw [hm.2.2.2.1, show Se S * 1103515245 + 12345 = nxtE (Se S) from rfl, ltm_s, ck_t (decide_eq_true hz), a2, e, nI_mod (by omega) (by omega)]
