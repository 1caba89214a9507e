/-! lowest terms against a power of 2 -/
theorem gcd_od {t q e : Nat} : Nat.gcd (2 ^ t * (2 * q + 1)) (2 ^ e) = 2 ^ min t e := by
  have co : ∀ k, Nat.gcd (2 * q + 1) (2 ^ k) = 1 := fun k => by
    have h : Nat.Coprime (2 * q + 1) 2 := by
      unfold Nat.Coprime
      rw [Nat.gcd_comm, Nat.gcd_rec, show (2 * q + 1) % 2 = 1 by omega]
      exact Nat.gcd_one_left 2
    exact Nat.Coprime.pow_right k h
  by_cases c : t ≤ e
  · rw [Nat.min_eq_left c, show 2 ^ e = 2 ^ t * 2 ^ (e - t) by rw [← Nat.pow_add]; congr 1; omega, Nat.gcd_mul_left, co, Nat.mul_one]
  · rw [Nat.min_eq_right (by omega), show 2 ^ t * (2 * q + 1) = 2 ^ e * (2 ^ (t - e) * (2 * q + 1)) by
      rw [← Nat.mul_assoc, ← Nat.pow_add]
      congr 2
      omega]
    exact Nat.gcd_eq_right (Nat.dvd_mul_right _ _)
/-- every number but 0 is a power of 2 by an odd one -/
theorem od_of : ∀ (n : Nat), 0 < n → ∃ t q, n = 2 ^ t * (2 * q + 1) := by
  intro n
  induction n using Nat.strongRecOn with
  | _ n ih =>
    intro h
    by_cases c : n % 2 = 1
    · exact ⟨0, n / 2, by omega⟩
    · obtain ⟨t, q, e⟩ := ih (n / 2) (by omega) (by omega)
      refine ⟨t + 1, q, ?_⟩
      rw [Nat.pow_succ, Nat.mul_comm (2 ^ t) 2, Nat.mul_assoc, ← e]
      omega
