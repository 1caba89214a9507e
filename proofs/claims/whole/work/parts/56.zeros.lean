/-! trailing zeros -/
theorem tbN {s b : Nat} (hb : b < 32) : tb (nI s) b ↔ s.testBit b = true := by
  rw [tb_iff hb, nI_bv, BitVec.getLsbD_ofNat]
  simp only [hb, decide_true, Bool.true_and]
theorem ntz_mask {t q : Nat} : (nI (2 ^ t * (2 * q + 1)) ^^^ (-1)) &&& (nI (2 ^ t * (2 * q + 1)) - 1) = nI (2 ^ t - 1) := by
  have hp : 0 < 2 ^ t := Nat.pow_pos (by decide)
  have e1 : nI (2 ^ t * (2 * q + 1)) - 1 = nI (2 ^ t * (2 * q) + (2 ^ t - 1)) := by
    rw [show (1 : Int32) = nI 1 from rfl, nI_sub (by have : 2 ^ t * 1 ≤ 2 ^ t * (2 * q + 1) := Nat.mul_le_mul_left _ (by omega); omega)]
    congr 1
    rw [Nat.mul_add, Nat.mul_one]
    omega
  rw [e1]
  refine tb_ext (fun b hb => ?_)
  rw [tb_and hb, tb_not hb, tbN hb, tbN hb, tbN hb]
  have h0 : (2 ^ t * (2 * q + 1) + 0).testBit b = if b < t then (0 : Nat).testBit b else (2 * q + 1).testBit (b - t) := Nat.testBit_two_pow_mul_add _ hp b
  have h1 : (2 ^ t * (2 * q) + (2 ^ t - 1)).testBit b = if b < t then (2 ^ t - 1).testBit b else (2 * q).testBit (b - t) := Nat.testBit_two_pow_mul_add _ (by omega) b
  rw [Nat.add_zero] at h0
  rw [h0, h1, Nat.testBit_two_pow_sub_one]
  by_cases c : b < t
  · simp [c]
  · simp only [c, if_false, decide_false]
    cases hbt : b - t with
    | zero => simp
    | succ s =>
      have a1 : (2 * q + 1).testBit (s + 1) = q.testBit s := by
        rw [Nat.testBit_succ]
        congr 1
        omega
      have a2 : (2 * q).testBit (s + 1) = q.testBit s := by
        rw [Nat.testBit_succ]
        congr 1
        omega
      rw [a1, a2]
      cases q.testBit s <;> simp
