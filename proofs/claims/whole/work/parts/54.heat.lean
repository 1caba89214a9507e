/-! heat: a State becomes another -/
theorem Rp.pt {n : Nat} {So : Nat → Bool} {S c c' : gw_S} (h : Rp n So S c) (e : ∀ i, 1 ≤ i → i < 8 → ∀ j, j < 8 → c' i j = c i j) (e0 : ∀ j, 7 ≤ j → j < 12 → c' 0 j = c 0 j) : Rp n So S c' := by
  obtain ⟨⟨a1, a2, a3⟩, hU, hV, hW, ⟨o1, o2, o3, o4⟩, hS⟩ := h
  have ep : ∀ b v i, i < n → pcl c' b v i = pcl c b v i := fun b v i hi => by
    unfold pcl
    rw [e 3 (by decide) (by decide) i (by omega), e 1 (by decide) (by decide) i (by omega), e 2 (by decide) (by decide) i (by omega)]
  refine ⟨⟨by rw [e0 7 (by decide) (by decide)]; exact a1, a2, fun i hi => ?_⟩, ?_, ?_, ?_, ⟨?_, ?_, ?_, ?_⟩, ?_⟩
  · rw [e 1 (by decide) (by decide) i (by omega), e 3 (by decide) (by decide) i (by omega)]
    exact a3 i hi
  · intro i j hi hj
    rw [e 1 (by decide) (by decide) i (by omega), e 3 (by decide) (by decide) i (by omega), e 2 (by decide) (by decide) i (by omega), e 1 (by decide) (by decide) j (by omega), e 3 (by decide) (by decide) j (by omega), e 2 (by decide) (by decide) j (by omega)]
    exact hU i j hi hj
  · intro b v hb hv
    rw [sumN_congr (fun i hi => ep b v i hi)]
    exact hV b v hb hv
  · intro b hb
    rw [e0 9 (by decide) (by decide)]
    refine ⟨(hW b hb).1, fun z i hi => ?_⟩
    rw [e 3 (by decide) (by decide) i (by omega), e 2 (by decide) (by decide) i (by omega)]
    exact (hW b hb).2 z i hi
  · intro b hb
    rw [e 5 (by decide) (by decide) b (by omega), e 4 (by decide) (by decide) b (by omega)]
    exact o1 b hb
  · intro v hv
    rw [e 6 (by decide) (by decide) v hv, e 7 (by decide) (by decide) v hv]
    exact o2 v hv
  · rw [e0 10 (by decide) (by decide)]; exact o3
  · intro a ha
    rw [e0 11 (by decide) (by decide)]; exact o4 a ha
  · intro b hb
    rw [e0 8 (by decide) (by decide)]; exact hS b hb
theorem cp_ne {σ : gw_S} {k0 k1 sp dp n k : Nat} (h : k ≠ k1) : gw_cp σ k0 k1 sp dp n k = σ k := by unfold gw_cp; rw [if_neg h]
theorem cp_at {σ : gw_S} {k0 k1 j : Nat} (hj : j < 8) : gw_cp σ k0 k1 (0 : Int32).toNatClampNeg (0 : Int32).toNatClampNeg (8 : Int32).toNatClampNeg k1 j = σ k0 j := by
  unfold gw_cp va_cpy
  rw [if_pos rfl, show (0 : Int32).toNatClampNeg = 0 from rfl, show (8 : Int32).toNatClampNeg = 8 from rfl, if_pos ⟨Nat.zero_le _, by omega⟩]
  congr 1
  omega
theorem s_become {d n k k1 : Nat} {So : Nat → Bool} {S σ : gw_S} (hk : gw_st k) (hk1 : gw_st k1) (hne : k + 8 ≤ k1 ∨ k1 + 8 ≤ k) (h : Rp n So S (vw k1 σ)) : gB (d + 1) mX3_become [.ref k, .ref k1] σ (fun v σ' => v = none ∧ Rp n So S (vw k σ') ∧ σ' k 12 = σ k1 12 ∧ FS k σ σ') := by
  refine eX3_become hk hk1 (fun s1 q1 s2 q2 s3 q3 s4 q4 s5 q5 s6 q6 s7 q7 s8 q8 s9 q9 s10 q10 s11 q11 s12 q12 s13 q13 => ?_)
  have f7 : ∀ m, (m < k + 1 ∨ k + 8 ≤ m) → s7 m = σ m := fun m hm => by
    rw [q7, cp_ne (by omega), q6, cp_ne (by omega), q5, cp_ne (by omega), q4, cp_ne (by omega), q3, cp_ne (by omega), q2, cp_ne (by omega), q1, cp_ne (by omega)]
  have g13 : ∀ m, m ≠ k → s13 m = s7 m := fun m hm => by
    rw [q13, gw_ne hm, q12, gw_ne hm, q11, gw_ne hm, q10, gw_ne hm, q9, gw_ne hm, q8, gw_ne hm]
  have k1k : k1 ≠ k := by omega
  have sl : ∀ j, 7 ≤ j → j < 13 → s13 k j = σ k1 j := fun j h1 h2 => by
    have e7 : ∀ j, s7 k1 j = σ k1 j := fun j => by rw [f7 k1 (by omega)]
    have : j = 7 ∨ j = 8 ∨ j = 9 ∨ j = 10 ∨ j = 11 ∨ j = 12 := by omega
    rcases this with rfl | rfl | rfl | rfl | rfl | rfl <;> (simp only [q13, q12, q11, q10, q9, q8, gw_at, k1k, false_and, if_false]; simp [e7])
  have ar : ∀ i, 1 ≤ i → i < 8 → ∀ j, j < 8 → s13 (k + i) j = σ (k1 + i) j := fun i h1 h2 j hj => by
    rw [g13 (k + i) (by omega)]
    have : i = 1 ∨ i = 2 ∨ i = 3 ∨ i = 4 ∨ i = 5 ∨ i = 6 ∨ i = 7 := by omega
    rcases this with rfl | rfl | rfl | rfl | rfl | rfl | rfl
    · rw [q7, cp_ne (by omega), q6, cp_ne (by omega), q5, cp_ne (by omega), q4, cp_ne (by omega), q3, cp_ne (by omega), q2, cp_ne (by omega), q1, cp_at hj]
    · rw [q7, cp_ne (by omega), q6, cp_ne (by omega), q5, cp_ne (by omega), q4, cp_ne (by omega), q3, cp_ne (by omega), q2, cp_at hj, q1, cp_ne (by omega)]
    · rw [q7, cp_ne (by omega), q6, cp_ne (by omega), q5, cp_ne (by omega), q4, cp_ne (by omega), q3, cp_at hj, q2, cp_ne (by omega), q1, cp_ne (by omega)]
    · rw [q7, cp_ne (by omega), q6, cp_ne (by omega), q5, cp_ne (by omega), q4, cp_at hj, q3, cp_ne (by omega), q2, cp_ne (by omega), q1, cp_ne (by omega)]
    · rw [q7, cp_ne (by omega), q6, cp_ne (by omega), q5, cp_at hj, q4, cp_ne (by omega), q3, cp_ne (by omega), q2, cp_ne (by omega), q1, cp_ne (by omega)]
    · rw [q7, cp_ne (by omega), q6, cp_at hj, q5, cp_ne (by omega), q4, cp_ne (by omega), q3, cp_ne (by omega), q2, cp_ne (by omega), q1, cp_ne (by omega)]
    · rw [q7, cp_at hj, q6, cp_ne (by omega), q5, cp_ne (by omega), q4, cp_ne (by omega), q3, cp_ne (by omega), q2, cp_ne (by omega), q1, cp_ne (by omega)]
  refine ⟨rfl, h.pt ar (fun j h1 h2 => sl j h1 (by omega)), sl 12 (by decide) (by decide), fun m hm => ?_⟩
  rw [g13 m (by omega), f7 m (by omega)]
