abbrev tb (x : Int32) (b : Nat) : Prop := x >>> (nI b &&& 31) &&& 1 = 1
theorem nI_sh : ∀ b : Fin 32, (nI b.val &&& 31) = nI b.val ∧ ((nI b.val).toBitVec.smod 32).toNat = b.val := by decide
theorem tb_iff {x : Int32} {b : Nat} (hb : b < 32) : tb x b ↔ x.toBitVec.getLsbD b = true := by
  unfold tb
  obtain ⟨h1, h2⟩ := nI_sh ⟨b, hb⟩
  simp only at h1 h2
  rw [h1, ← Int32.toBitVec_inj, Int32.toBitVec_and, Int32.toBitVec_shiftRight]
  have h3 : (BitVec.sshiftRight' x.toBitVec ((nI b).toBitVec.smod 32) &&& (1 : Int32).toBitVec = (1 : Int32).toBitVec) ↔ (BitVec.sshiftRight' x.toBitVec ((nI b).toBitVec.smod 32)).getLsbD 0 = true := by
    constructor
    · intro h
      have := congrArg (fun z => BitVec.getLsbD z 0) h
      simpa using this
    · intro h
      apply BitVec.eq_of_getLsbD_eq
      intro i hi
      rcases Nat.eq_zero_or_pos i with e | e
      · subst e
        simpa using h
      · simp [BitVec.getLsbD_one, Nat.ne_of_gt e]
  rw [h3, BitVec.sshiftRight', h2, BitVec.getLsbD_sshiftRight]
  simp [hb]
theorem sh_bit {a b : Nat} (ha : a < 32) (hb : b < 32) (x : Int32) : (x <<< (nI a &&& 31)).toBitVec.getLsbD b = (decide (a ≤ b) && x.toBitVec.getLsbD (b - a)) := by
  obtain ⟨h1, h2⟩ := nI_sh ⟨a, ha⟩
  simp only at h1 h2
  rw [h1, Int32.toBitVec_shiftLeft]
  show (x.toBitVec <<< ((nI a).toBitVec.smod 32).toNat).getLsbD b = _
  rw [h2, BitVec.getLsbD_shiftLeft]
  by_cases h : a ≤ b
  · have : ¬ b < a := by omega
    simp [hb, h, this]
  · have : b < a := by omega
    simp [hb, h, this]
theorem one_bit {b : Nat} : (1 : Int32).toBitVec.getLsbD b = decide (b = 0) := by
  show (1#32).getLsbD b = _
  simp [BitVec.getLsbD_one]
theorem tb_0 {b : Nat} (hb : b < 32) : ¬ tb 0 b := by
  rw [tb_iff hb]
  simp
theorem tb_or1 {x : Int32} {a b : Nat} (ha : a < 32) (hb : b < 32) : tb (x ||| (1 : Int32) <<< (nI a &&& 31)) b ↔ tb x b ∨ a = b := by
  rw [tb_iff hb, tb_iff hb, Int32.toBitVec_or, BitVec.getLsbD_or, sh_bit ha hb, one_bit]
  simp
  constructor
  · rintro (h | h)
    · exact Or.inl h
    · exact Or.inr (by omega)
  · rintro (h | h)
    · exact Or.inl h
    · exact Or.inr (by omega)
theorem tb_or {x y : Int32} {b : Nat} (hb : b < 32) : tb (x ||| y) b ↔ tb x b ∨ tb y b := by
  rw [tb_iff hb, tb_iff hb, tb_iff hb, Int32.toBitVec_or, BitVec.getLsbD_or]
  simp
theorem tb_and {x y : Int32} {b : Nat} (hb : b < 32) : tb (x &&& y) b ↔ tb x b ∧ tb y b := by
  rw [tb_iff hb, tb_iff hb, tb_iff hb, Int32.toBitVec_and, BitVec.getLsbD_and]
  simp
theorem tb_one {a b : Nat} (ha : a < 32) (hb : b < 32) : tb ((1 : Int32) <<< (nI a &&& 31)) b ↔ a = b := by
  have := tb_or1 (x := 0) ha hb
  rw [Int32.zero_or] at this
  rw [this]
  exact ⟨fun h => h.elim (fun q => absurd q (tb_0 hb)) id, Or.inr⟩
theorem tb_not {x : Int32} {b : Nat} (hb : b < 32) : tb (x ^^^ (-1)) b ↔ ¬ tb x b := by
  rw [tb_iff hb, tb_iff hb, Int32.toBitVec_xor, BitVec.getLsbD_xor]
  have : (-1 : Int32).toBitVec = BitVec.allOnes 32 := by decide
  rw [this, BitVec.getLsbD_allOnes]
  simp [hb]
theorem tb_clr {x : Int32} {a b : Nat} (ha : a < 32) (hb : b < 32) : tb (x &&& ((1 : Int32) <<< (nI a &&& 31) ^^^ (-1))) b ↔ tb x b ∧ ¬ a = b := by
  rw [tb_and hb, tb_not hb, tb_one ha hb]
theorem tb_ext {x y : Int32} (h : ∀ b, b < 32 → (tb x b ↔ tb y b)) : x = y := by
  rw [← Int32.toBitVec_inj]
  apply BitVec.eq_of_getLsbD_eq
  intro i hi
  have := h i hi
  rw [tb_iff hi, tb_iff hi] at this
  cases h1 : x.toBitVec.getLsbD i <;> cases h2 : y.toBitVec.getLsbD i <;> simp_all
theorem tb_full : ∀ n : Fin 9, ∀ b : Fin 8, tb ((1 : Int32) <<< (nI n.val &&& 31) - 1) b.val ↔ b.val < n.val := by decide
/-- a bit as a number -/
theorem bit_bi {x : Int32} {b : Nat} (hb : b < 32) : x >>> (nI b &&& 31) &&& 1 = bi (tb x b) := by
  by_cases h : tb x b
  · rw [bi_t h]; exact h
  · rw [bi_f h]
    have h0 : ∀ z : Int32, ¬ z &&& 1 = 1 → z &&& 1 = 0 := by
      intro z hz
      rw [← Int32.toBitVec_inj] at hz ⊢
      rw [Int32.toBitVec_and] at hz ⊢
      apply BitVec.eq_of_getLsbD_eq
      intro i hi
      rw [BitVec.getLsbD_and, one_bit]
      by_cases e : i = 0
      · subst e
        simp
        have : ¬ z.toBitVec.getLsbD 0 = true := by
          intro q
          apply hz
          apply BitVec.eq_of_getLsbD_eq
          intro j hj
          rw [BitVec.getLsbD_and, one_bit]
          by_cases ej : j = 0
          · subst ej; simp [q]
          · simp [ej]
        simpa using this
      · simp [e]
    exact h0 _ h
theorem bi_sh {p : Prop} [Decidable p] {a b : Nat} (ha : a < 32) (hb : b < 32) {x : Int32} : tb (x ||| (bi p) <<< (nI a &&& 31)) b ↔ tb x b ∨ (p ∧ a = b) := by
  by_cases h : p
  · rw [bi_t h, tb_or1 ha hb]
    simp [h]
  · rw [bi_f h, tb_or hb]
    have : ¬ tb ((0 : Int32) <<< (nI a &&& 31)) b := by
      rw [tb_iff hb, sh_bit ha hb]
      simp
    simp [h]
    exact fun q => absurd q (tb_0 hb)
/-! sums -/
theorem sumN_congr {g g' : Nat → Int32} : ∀ {n : Nat}, (∀ i, i < n → g i = g' i) → sumN g n = sumN g' n
  | 0, _ => rfl
  | n + 1, h => by
    unfold sumN
    rw [sumN_congr (fun i hi => h i (by omega)), h n (by omega)]
theorem sumN_zero {g : Nat → Int32} : ∀ {n : Nat}, (∀ i, i < n → g i = 0) → sumN g n = 0
  | 0, _ => rfl
  | n + 1, h => by
    unfold sumN
    rw [sumN_zero (fun i hi => h i (by omega)), h n (by omega), Int32.add_zero]
theorem sumN_one {g g' : Nat → Int32} {k : Nat} : ∀ {n : Nat}, k < n → (∀ i, i < n → i ≠ k → g' i = g i) → sumN g' n = sumN g n + (g' k - g k)
  | 0, h, _ => by omega
  | n + 1, h, he => by
    unfold sumN
    by_cases e : k = n
    · subst e
      rw [sumN_congr (fun i hi => he i (by omega) (by omega))]
      rw [Int32.add_assoc, Int32.add_comm (g k), Int32.sub_add_cancel]
    · rw [sumN_one (by omega) (fun i hi hk => he i (by omega) hk), he n (by omega) (Ne.symm e)]
      rw [Int32.add_assoc, Int32.add_assoc, Int32.add_comm (g' k - g k)]
theorem sumN_only {g : Nat → Int32} {k n : Nat} (h : k < n) (he : ∀ i, i < n → i ≠ k → g i = 0) : sumN g n = g k := by
  rw [sumN_one (g := fun _ => 0) h (fun i hi hk => he i hi hk), sumN_zero (fun _ _ => rfl), Int32.zero_add, Int32.sub_zero]
theorem sumN_add {g g' : Nat → Int32} : ∀ {n : Nat}, sumN (fun i => g i + g' i) n = sumN g n + sumN g' n
  | 0 => rfl
  | n + 1 => by
    unfold sumN
    rw [sumN_add]
    rw [Int32.add_assoc, Int32.add_assoc, ← Int32.add_assoc (sumN g' n), Int32.add_comm (sumN g' n) (g n), Int32.add_assoc]
theorem sumN_sub {g g' : Nat → Int32} : ∀ {n : Nat}, sumN (fun i => g i - g' i) n = sumN g n - sumN g' n
  | 0 => by show (0 : Int32) = 0 - 0; decide
  | n + 1 => by
    unfold sumN
    rw [sumN_sub, Int32.sub_eq_add_neg, Int32.sub_eq_add_neg, Int32.sub_eq_add_neg, Int32.neg_add, Int32.sub_eq_add_neg]
    rw [Int32.add_assoc, Int32.add_assoc, ← Int32.add_assoc (- sumN g' n), Int32.add_comm (- sumN g' n) (g n), Int32.add_assoc]
theorem sumN_swap {g : Nat → Nat → Int32} : ∀ {n m : Nat}, sumN (fun i => sumN (fun j => g i j) m) n = sumN (fun j => sumN (fun i => g i j) n) m
  | 0, m => by
    show (0 : Int32) = _
    rw [sumN_zero]
    intro i _
    rfl
  | n + 1, m => by
    show sumN (fun i => sumN (fun j => g i j) m) n + sumN (fun j => g n j) m = _
    rw [sumN_swap, ← sumN_add]
    rfl
