/-! trailing zeros -/
theorem tbN {s b : Nat} (hb : b < 32) : tb (nI s) b ↔ s.testBit b = true := by
  rw [tb_iff hb, nI_bv, BitVec.getLsbD_ofNat]
  simp only [hb, decide_true, Bool.true_and]
theorem ntz_mask {t q : Nat} : (nI (2 ^ t * (2 * q + 1)) ^^^ (-1)) &&& (nI (2 ^ t * (2 * q + 1)) - 1) = nI (2 ^ t - 1) := by
  have hp : 0 < 2 ^ t := Nat.pow_pos (by decide)
  have e1 : nI (2 ^ t * (2 * q + 1)) - 1 = nI (2 ^ t * (2 * q) + (2 ^ t - 1)) := by
    rw [show (1 : Int32) = nI 1 from rfl, nI_sub (by have : 2 ^ t * 1 ≤ 2 ^ t * (2 * q + 1) := Nat.mul_le_mul_left _ (by omega); omega)]
    congr 1
    rw [Nat.mul_add, Nat.mul_one]
    omega
  rw [e1]
  refine tb_ext (fun b hb => ?_)
  rw [tb_and hb, tb_not hb, tbN hb, tbN hb, tbN hb]
  have h0 : (2 ^ t * (2 * q + 1) + 0).testBit b = if b < t then (0 : Nat).testBit b else (2 * q + 1).testBit (b - t) := Nat.testBit_two_pow_mul_add _ hp b
  have h1 : (2 ^ t * (2 * q) + (2 ^ t - 1)).testBit b = if b < t then (2 ^ t - 1).testBit b else (2 * q).testBit (b - t) := Nat.testBit_two_pow_mul_add _ (by omega) b
  rw [Nat.add_zero] at h0
  rw [h0, h1, Nat.testBit_two_pow_sub_one]
  by_cases c : b < t
  · simp [c]
  · simp only [c, if_false, decide_false]
    cases hbt : b - t with
    | zero => simp
    | succ s =>
      have a1 : (2 * q + 1).testBit (s + 1) = q.testBit s := by
        rw [Nat.testBit_succ]
        congr 1
        omega
      have a2 : (2 * q).testBit (s + 1) = q.testBit s := by
        rw [Nat.testBit_succ]
        congr 1
        omega
      rw [a1, a2]
      cases q.testBit s <;> simp
def nz49 (x y : Int32) : Int32 := if x ≤ 16 then (if x ≤ 4 then y + gw_ushr x 1 else (y + 2) + gw_ushr (gw_ushr x 2) 1) else (if gw_ushr x 4 ≤ 4 then (y + 4) + gw_ushr (gw_ushr x 4) 1 else ((y + 4) + 2) + gw_ushr (gw_ushr (gw_ushr x 4) 2) 1)
def nzF (y : Int32) : Int32 := if 0 < y then (if y ≤ 65536 then (if y ≤ 256 then nz49 y 1 else nz49 (gw_ushr y 8) (1 + 8)) else (if gw_ushr y 16 ≤ 256 then nz49 (gw_ushr y 16) (1 + 16) else nz49 (gw_ushr (gw_ushr y 16) 8) ((1 + 16) + 8))) else y &&& 32
theorem s_nz49 {d : Nat} {x y : Int32} {σ : gw_S} : gG d mJ6_numberOfTrailingZeros_0f7a4 49 [some (.int x), some (.int y)] [] σ (fun v σ' => v = some (.int (nz49 x y)) ∧ σ' = σ) := by
  refine bJ6_numberOfTrailingZeros_0f7a4_49 ⟨fun c => ⟨fun c2 => ⟨?_, rfl⟩, fun c2 => ⟨?_, rfl⟩⟩, fun c => ⟨fun c2 => ⟨?_, rfl⟩, fun c2 => ⟨?_, rfl⟩⟩⟩
  · rw [nz49, if_pos c, if_pos c2]
  · rw [nz49, if_pos c, if_neg c2]
  · rw [nz49, if_neg c, if_pos c2]
  · rw [nz49, if_neg c, if_neg c2]
theorem s_nzF {d : Nat} {x : Int32} {σ : gw_S} : gB d mJ6_numberOfTrailingZeros_0f7a4 [.int x] σ (fun v σ' => v = some (.int (nzF ((x ^^^ (-1)) &&& (x - 1)))) ∧ σ' = σ) := by
  refine eJ6_numberOfTrailingZeros_0f7a4 ⟨fun c => ⟨fun c2 => ⟨fun c3 => ?_, fun c3 => ?_⟩, fun c2 => ⟨fun c3 => ?_, fun c3 => ?_⟩⟩, fun c => ⟨by rw [nzF, if_neg c], rfl⟩⟩
  · rw [nzF, if_pos c, if_pos c2, if_pos c3]; exact s_nz49
  · rw [nzF, if_pos c, if_pos c2, if_neg c3]; exact s_nz49
  · rw [nzF, if_pos c, if_neg c2, if_pos c3]; exact s_nz49
  · rw [nzF, if_pos c, if_neg c2, if_neg c3]; exact s_nz49
theorem nzF_t : ∀ t : Fin 32, nzF (nI (2 ^ t.val - 1)) = nI t.val := by decide +kernel
theorem nzF_0 : nzF (((0 : Int32) ^^^ (-1)) &&& (0 - 1)) = 32 := by decide +kernel
theorem s_ntz {d t q : Nat} {σ : gw_S} (ht : t < 32) : gB d mJ6_numberOfTrailingZeros_0f7a4 [.int (nI (2 ^ t * (2 * q + 1)))] σ (fun v σ' => v = some (.int (nI t)) ∧ σ' = σ) := by
  refine gB_det s_nzF ⟨?_, rfl⟩
  rw [ntz_mask, nzF_t ⟨t, ht⟩]
theorem lN_ushr {a : Nat} (ha : a < 2 ^ 64) : gw_lushr (lN a) 32 = lN (a >>> 32) := by
  unfold gw_lushr
  apply Int64.toBitVec_inj.mp
  apply BitVec.eq_of_toNat_eq
  have e1 : ((lN a).toUInt64 >>> ((32 : Int32).toInt64.toUInt64 &&& Int64.toUInt64 63)).toInt64.toBitVec.toNat = ((lN a).toUInt64 >>> ((32 : Int32).toInt64.toUInt64 &&& Int64.toUInt64 63)).toNat := rfl
  have e2 : ((32 : Int32).toInt64.toUInt64 &&& Int64.toUInt64 63).toNat % 64 = 32 := by decide
  have e3 : (lN a).toUInt64.toNat = a % 2 ^ 64 := rfl
  have e4 : (lN (a >>> 32)).toBitVec.toNat = (a >>> 32) % 2 ^ 64 := rfl
  have l : a >>> 32 ≤ a := by rw [Nat.shiftRight_eq_div_pow]; exact Nat.div_le_self a (2 ^ 32)
  rw [e1, UInt64.toNat_shiftRight, e2, e3, e4, Nat.mod_eq_of_lt ha, Nat.mod_eq_of_lt (by omega)]
theorem od_bit {t q b : Nat} : (2 ^ t * (2 * q + 1)).testBit b = if b < t then false else (2 * q + 1).testBit (b - t) := by
  have hp : 0 < 2 ^ t := Nat.pow_pos (by decide)
  have h0 : (2 ^ t * (2 * q + 1) + 0).testBit b = if b < t then (0 : Nat).testBit b else (2 * q + 1).testBit (b - t) := Nat.testBit_two_pow_mul_add _ hp b
  rw [Nat.add_zero] at h0
  rw [h0, Nat.zero_testBit]
theorem s_ntzL {d t q : Nat} {σ : gw_S} (hy : 2 ^ t * (2 * q + 1) < 2 ^ 63) : gB (d + 1) mJ13_numberOfTrailingZeros_95d88 [.long (lN (2 ^ t * (2 * q + 1)))] σ (fun v σ' => v = some (.int (nI t)) ∧ σ' = σ) := by
  have ht : t < 63 := by
    refine Classical.byContradiction (fun c => ?_)
    have h1 : 2 ^ 63 ≤ 2 ^ t := Nat.pow_le_pow_right (by decide) (by omega)
    have h2 : 2 ^ t * 1 ≤ 2 ^ t * (2 * q + 1) := Nat.mul_le_mul_left _ (by omega)
    omega
  refine eJ13_numberOfTrailingZeros_95d88 ?_
  rw [lN_i, lN_ushr (by omega), lN_i]
  by_cases c : t < 32
  · have ne : ¬ nI (2 ^ t * (2 * q + 1)) = 0 := fun e => by
      have : tb (nI (2 ^ t * (2 * q + 1))) t := by
        rw [tbN c, od_bit, if_neg (by omega), Nat.sub_self]
        simp
      rw [e] at this
      exact tb_0 c this
    exact ⟨fun _ => gB_det (s_ntz c) ⟨_, rfl, rfl, rfl⟩, fun e => absurd e ne⟩
  · have ez : nI (2 ^ t * (2 * q + 1)) = 0 := tb_ext (fun b hb => by
      rw [tbN hb, od_bit, if_pos (by omega)]
      exact ⟨fun q => absurd q (by decide), fun q => absurd q (tb_0 hb)⟩)
    refine ⟨fun e => absurd ez e, fun _ => ?_⟩
    have es : (2 ^ t * (2 * q + 1)) >>> 32 = 2 ^ (t - 32) * (2 * q + 1) := by
      rw [Nat.shiftRight_eq_div_pow]
      have : 2 ^ t = 2 ^ 32 * 2 ^ (t - 32) := by rw [← Nat.pow_add]; congr 1; omega
      rw [this, Nat.mul_assoc]
      exact Nat.mul_div_cancel_left _ (by decide)
    rw [es]
    refine gB_det (s_ntz (by omega)) ⟨_, rfl, ?_, rfl⟩
    rw [show (32 : Int32) = nI 32 from rfl, nI_add]
    congr 2
    congr 1
    omega
theorem s_ntz0 {d : Nat} {σ : gw_S} : gB (d + 1) mJ13_numberOfTrailingZeros_95d88 [.long 0] σ (fun v σ' => v = some (.int 64) ∧ σ' = σ) := by
  refine eJ13_numberOfTrailingZeros_95d88 ⟨fun c => absurd rfl c, fun _ => ?_⟩
  have e : (gw_lushr 0 32).toInt32 = 0 := by decide
  rw [e]
  refine gB_det s_nzF ⟨_, rfl, ?_, rfl⟩
  rw [nzF_0]
  rfl
