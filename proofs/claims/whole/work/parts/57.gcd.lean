/-! lowest terms against a power of 2 -/
theorem gcd_od {t q e : Nat} : Nat.gcd (2 ^ t * (2 * q + 1)) (2 ^ e) = 2 ^ min t e := by
  have co : ∀ k, Nat.gcd (2 * q + 1) (2 ^ k) = 1 := fun k => by
    have h : Nat.Coprime (2 * q + 1) 2 := by
      unfold Nat.Coprime
      rw [Nat.gcd_comm, Nat.gcd_rec, show (2 * q + 1) % 2 = 1 by omega]
      exact Nat.gcd_one_left 2
    exact Nat.Coprime.pow_right k h
  by_cases c : t ≤ e
  · rw [Nat.min_eq_left c, show 2 ^ e = 2 ^ t * 2 ^ (e - t) by rw [← Nat.pow_add]; congr 1; omega, Nat.gcd_mul_left, co, Nat.mul_one]
  · rw [Nat.min_eq_right (by omega), show 2 ^ t * (2 * q + 1) = 2 ^ e * (2 ^ (t - e) * (2 * q + 1)) by
      rw [← Nat.mul_assoc, ← Nat.pow_add]
      congr 2
      omega]
    exact Nat.gcd_eq_right (Nat.dvd_mul_right _ _)
/-- every number but 0 is a power of 2 by an odd one -/
theorem od_of : ∀ (n : Nat), 0 < n → ∃ t q, n = 2 ^ t * (2 * q + 1) := by
  intro n
  induction n using Nat.strongRecOn with
  | _ n ih =>
    intro h
    by_cases c : n % 2 = 1
    · exact ⟨0, n / 2, by omega⟩
    · obtain ⟨t, q, e⟩ := ih (n / 2) (by omega) (by omega)
      refine ⟨t + 1, q, ?_⟩
      rw [Nat.pow_succ, Nat.mul_comm (2 ^ t) 2, Nat.mul_assoc, ← e]
      omega
theorem lsh_e : ∀ D : Fin 10, gw_lshl 1 (4 * (nI D.val + 1)) = lN (2 ^ (4 * (D.val + 1))) := by decide +kernel
theorem lN_toI {a : Nat} (h : a < 2 ^ 63) : (lN a).toInt = (a : Int) := lg_ofNat_toInt h
theorem h64 : ∀ h : Fin 64, (((nI h.val).toInt64 &&& 63).toBitVec.smod 64).toNat = h.val := by decide +kernel
theorem lN_shr {a h : Nat} (ha : a < 2 ^ 63) (hh : h < 64) : gw_lshr (lN a) (nI h) = lN (a >>> h) := by
  unfold gw_lshr
  apply Int64.toInt_inj.mp
  have l : a >>> h ≤ a := by rw [Nat.shiftRight_eq_div_pow]; exact Nat.div_le_self a (2 ^ h)
  have e1 : (lN a >>> ((nI h).toInt64 &&& 63)).toInt = ((lN a).toBitVec.sshiftRight (((nI h).toInt64 &&& 63).toBitVec.smod 64).toNat).toInt := rfl
  rw [e1, h64 ⟨h, hh⟩, BitVec.toInt_sshiftRight, lN_toI (by omega)]
  show (lN a).toInt >>> h = _
  rw [lN_toI ha]
  rfl
