theorem lN_div {a b : Nat} (ha : a < 2 ^ 63) (hb : 0 < b) (hb2 : b < 2 ^ 63) : lN a / lN b = lN (a / b) := by
  apply Int64.toInt_inj.mp
  have l : a / b ≤ a := Nat.div_le_self a b
  rw [lg_ldiv_nonneg (by rw [lN_toI ha]; omega) (by rw [lN_toI hb2]; omega), lN_toI ha, lN_toI hb2, lN_toI (by omega)]
  rfl
theorem lN_rem {a b : Nat} (ha : a < 2 ^ 63) (hb : 0 < b) (hb2 : b < 2 ^ 63) : gw_lrem (lN a) (lN b) = lN (a % b) := by
  unfold gw_lrem
  rw [lN_div ha hb hb2, lN_mul, lN_sub (by rw [Nat.mul_comm]; exact Nat.mul_div_le a b)]
  congr 1
  have := Nat.mod_add_div a b
  rw [Nat.mul_comm b (a / b)] at this
  omega
theorem lN_z {a : Nat} (ha : a < 2 ^ 63) : lN a = 0 ↔ a = 0 := by
  rw [← Int64.toInt_inj, lN_toI ha, show (0 : Int64).toInt = 0 from by decide]
  omega
def aLow (a b : Nat) (w : Int32) : Int64 := if w = 0 then lN (a / Nat.gcd a b) else lN (b / Nat.gcd a b)
theorem s_lowest {d a b : Nat} {w : Int32} {σ : gw_S} (ha : a < 2 ^ 63) (hb : 0 < b) (hb2 : b < 2 ^ 63) : gB d mX9_lowest [.long (lN a), .long (lN b), .int w] σ (fun v σ' => v = some (.long (aLow a b w)) ∧ σ' = σ) := by
  have key : ∀ y x, x < 2 ^ 63 → y < 2 ^ 63 → Nat.gcd x y = Nat.gcd a b → gG d mX9_lowest 6 [some (.long (lN a)), none, some (.long (lN b)), none, some (.int w), some (.long (lN x)), none, some (.long (lN y)), none, none, none] [] σ (fun v σ' => v = some (.long (aLow a b w)) ∧ σ' = σ) := by
    intro y
    induction y using Nat.strongRecOn with
    | _ y ih =>
      intro x hx hy hg
      refine bX9_lowest_6 ?_
      rw [lg_cmp_eq, lN_z hy]
      refine ⟨fun c => ?_, fun c => ⟨c, ?_⟩⟩
      · subst c
        rw [Nat.gcd_zero_right] at hg
        have gp : 0 < Nat.gcd a b := Nat.gcd_pos_of_pos_right a hb
        have xz : ¬ lN x = 0 := by rw [lN_z hx]; omega
        refine ⟨fun c2 => ⟨xz, ?_, rfl⟩, fun c2 => ⟨xz, ?_, rfl⟩⟩
        · rw [lN_div hb2 (by omega) hx, aLow, if_neg c2, hg]
        · rw [lN_div ha (by omega) hx, aLow, if_pos c2, hg]
      · rw [lN_rem hx (by omega) hy]
        have lt : x % y < y := Nat.mod_lt _ (by omega)
        refine ih (x % y) lt y hy (by omega) ?_
        rw [← hg, Nat.gcd_comm x y, Nat.gcd_rec y x, Nat.gcd_comm]
  exact eX9_lowest (key b a ha hb2 rfl)
