theorem nI_bv (a : Nat) : (nI a).toBitVec = BitVec.ofNat 32 a := rfl
theorem nI_and {a b : Nat} (ha : a < 2 ^ 32) (hb : b < 2 ^ 32) : nI a &&& nI b = nI (a &&& b) := by
  apply Int32.toBitVec_inj.mp
  rw [Int32.toBitVec_and, nI_bv, nI_bv, nI_bv]
  apply BitVec.eq_of_toNat_eq
  rw [BitVec.toNat_and, BitVec.toNat_ofNat, BitVec.toNat_ofNat, BitVec.toNat_ofNat, Nat.mod_eq_of_lt ha, Nat.mod_eq_of_lt hb, Nat.mod_eq_of_lt (Nat.lt_of_le_of_lt Nat.and_le_left ha)]
theorem nI_ushr {a k : Nat} (ha : a < 2 ^ 32) (hk : k < 32) : gw_ushr (nI a) (nI k) = nI (a >>> k) := by
  have hk' : ∀ k : Fin 32, ((nI k.val).toUInt32 &&& Int32.toUInt32 31).toNat % 32 = k.val := by decide
  unfold gw_ushr
  apply Int32.toBitVec_inj.mp
  apply BitVec.eq_of_toNat_eq
  have e1 : ((nI a).toUInt32 >>> ((nI k).toUInt32 &&& Int32.toUInt32 31)).toInt32.toBitVec.toNat = ((nI a).toUInt32 >>> ((nI k).toUInt32 &&& Int32.toUInt32 31)).toNat := rfl
  rw [e1, UInt32.toNat_shiftRight, hk' ⟨k, hk⟩, nI_bv, BitVec.toNat_ofNat]
  have e2 : (nI a).toUInt32.toNat = a % 2 ^ 32 := rfl
  have l : a >>> k ≤ a := by rw [Nat.shiftRight_eq_div_pow]; exact Nat.div_le_self a (2 ^ k)
  rw [e2, Nat.mod_eq_of_lt ha, Nat.mod_eq_of_lt (by omega)]
/-- the bits that are set, counted -/
def pcN (x : Nat) : Nat → Nat
  | 0 => 0
  | n + 1 => pcN x n + (x >>> n) % 2
def swN1 (x : Nat) : Nat := x - ((x >>> 1) &&& 1431655765)
def swN2 (x : Nat) : Nat := (x &&& 858993459) + ((x >>> 2) &&& 858993459)
def swN3 (x : Nat) : Nat := (x + (x >>> 4)) &&& 252645135
def swN4 (x : Nat) : Nat := x + (x >>> 8)
def swN5 (x : Nat) : Nat := (x + (x >>> 16)) &&& 63
def swI1 (x : Int32) : Int32 := x - ((gw_ushr x 1) &&& 1431655765)
def swI2 (x : Int32) : Int32 := (x &&& 858993459) + ((gw_ushr x 2) &&& 858993459)
def swI3 (x : Int32) : Int32 := (x + (gw_ushr x 4)) &&& 252645135
def swI4 (x : Int32) : Int32 := x + (gw_ushr x 8)
def swI5 (x : Int32) : Int32 := (x + (gw_ushr x 16)) &&& 63
theorem sw1 {x : Nat} (h : x < 2 ^ 16) : swI1 (nI x) = nI (swN1 x) ∧ swN1 x < 2 ^ 16 := by
  have l : x >>> 1 ≤ x := by rw [Nat.shiftRight_eq_div_pow]; exact Nat.div_le_self x (2 ^ 1)
  have l2 : (x >>> 1) &&& 1431655765 ≤ x >>> 1 := Nat.and_le_left
  unfold swI1 swN1
  rw [show (1 : Int32) = nI 1 from rfl, nI_ushr (by omega) (by decide), show (1431655765 : Int32) = nI 1431655765 from rfl, nI_and (by omega) (by decide), nI_sub (by omega)]
  exact ⟨rfl, by omega⟩
theorem sw2 {x : Nat} (h : x < 2 ^ 16) : swI2 (nI x) = nI (swN2 x) ∧ swN2 x < 2 ^ 17 := by
  have l : x >>> 2 ≤ x := by rw [Nat.shiftRight_eq_div_pow]; exact Nat.div_le_self x (2 ^ 2)
  have l2 : (x >>> 2) &&& 858993459 ≤ x >>> 2 := Nat.and_le_left
  have l3 : x &&& 858993459 ≤ x := Nat.and_le_left
  unfold swI2 swN2
  rw [show (2 : Int32) = nI 2 from rfl, nI_ushr (by omega) (by decide), show (858993459 : Int32) = nI 858993459 from rfl, nI_and (by omega) (by decide), nI_and (by omega) (by decide), nI_add]
  exact ⟨rfl, by omega⟩
theorem sw3 {x : Nat} (h : x < 2 ^ 17) : swI3 (nI x) = nI (swN3 x) ∧ swN3 x < 2 ^ 18 := by
  have l : x >>> 4 ≤ x := by rw [Nat.shiftRight_eq_div_pow]; exact Nat.div_le_self x (2 ^ 4)
  have l2 : (x + x >>> 4) &&& 252645135 ≤ x + x >>> 4 := Nat.and_le_left
  unfold swI3 swN3
  rw [show (4 : Int32) = nI 4 from rfl, nI_ushr (by omega) (by decide), nI_add, show (252645135 : Int32) = nI 252645135 from rfl, nI_and (by omega) (by decide)]
  exact ⟨rfl, by omega⟩
theorem sw4 {x : Nat} (h : x < 2 ^ 18) : swI4 (nI x) = nI (swN4 x) ∧ swN4 x < 2 ^ 19 := by
  have l : x >>> 8 ≤ x := by rw [Nat.shiftRight_eq_div_pow]; exact Nat.div_le_self x (2 ^ 8)
  unfold swI4 swN4
  rw [show (8 : Int32) = nI 8 from rfl, nI_ushr (by omega) (by decide), nI_add]
  exact ⟨rfl, by omega⟩
theorem sw5 {x : Nat} (h : x < 2 ^ 19) : swI5 (nI x) = nI (swN5 x) := by
  have l : x >>> 16 ≤ x := by rw [Nat.shiftRight_eq_div_pow]; exact Nat.div_le_self x (2 ^ 16)
  unfold swI5 swN5
  rw [show (16 : Int32) = nI 16 from rfl, nI_ushr (by omega) (by decide), nI_add, show (63 : Int32) = nI 63 from rfl, nI_and (by omega) (by decide)]
theorem and_split {a b c e : Nat} (hb : b < 256) (he : e < 256) : (256 * a + b) &&& (256 * c + e) = 256 * (a &&& c) + (b &&& e) := by
  have hbe : b &&& e < 256 := Nat.lt_of_le_of_lt Nat.and_le_left hb
  apply Nat.eq_of_testBit_eq
  intro i
  rw [Nat.testBit_and, show (256 : Nat) = 2 ^ 8 from rfl, Nat.testBit_two_pow_mul_add _ hb, Nat.testBit_two_pow_mul_add _ he, Nat.testBit_two_pow_mul_add _ hbe]
  split <;> rw [Nat.testBit_and]
def y1 (x : Nat) : Nat := x - ((x >>> 1) &&& 85)
def y2 (x : Nat) : Nat := (x &&& 51) + ((x >>> 2) &&& 51)
def y3 (x : Nat) : Nat := (x + (x >>> 4)) &&& 15
theorem q1a : ∀ h : Fin 256, (h.val / 2) &&& 5592405 = (h.val / 2) &&& 85 := by decide +kernel
theorem q1b : ∀ h : Fin 2, ∀ l : Fin 256, (128 * h.val + l.val / 2) &&& 85 = (l.val / 2) &&& 85 := by decide +kernel
theorem q2a : ∀ h : Fin 256, (h.val / 4) &&& 3355443 = (h.val / 4) &&& 51 ∧ h.val &&& 3355443 = h.val &&& 51 := by decide +kernel
theorem q2b : ∀ h : Fin 4, ∀ l : Fin 256, (64 * h.val + l.val / 4) &&& 51 = (l.val / 4) &&& 51 := by decide +kernel
theorem q3a : ∀ h : Fin 256, h.val &&& 986895 = h.val &&& 15 := by decide +kernel
theorem q3b : ∀ h : Fin 5, ∀ l : Fin 128, (16 * h.val + l.val) &&& 15 = l.val &&& 15 := by decide +kernel
theorem q4 : ∀ x : Fin 256, y1 x.val < 256 ∧ y2 (y1 x.val) ≤ 68 ∧ y2 (y1 x.val) % 16 ≤ 4 ∧ y3 (y2 (y1 x.val)) = pcN x.val 8 ∧ pcN x.val 8 ≤ 8 := by decide +kernel
theorem q5 : ∀ a : Fin 9, ∀ b : Fin 9, (256 * a.val + (a.val + b.val)) &&& 63 = a.val + b.val := by decide +kernel
theorem z1 {h l : Nat} (hh : h < 256) (hl : l < 256) : swN1 (256 * h + l) = 256 * y1 h + y1 l := by
  have e1 : h / 2 &&& 5592405 = h / 2 &&& 85 := q1a ⟨h, hh⟩
  have e2 : (128 * (h % 2) + l / 2) &&& 85 = l / 2 &&& 85 := q1b ⟨h % 2, by omega⟩ ⟨l, hl⟩
  unfold swN1 y1
  rw [Nat.shiftRight_eq_div_pow, Nat.shiftRight_eq_div_pow, Nat.shiftRight_eq_div_pow, show (256 * h + l) / 2 ^ 1 = 256 * (h / 2) + (128 * (h % 2) + l / 2) by omega, show (1431655765 : Nat) = 256 * 5592405 + 85 from rfl, and_split (by omega) (by decide), e1, e2]
  have l1 : h / 2 &&& 85 ≤ h / 2 := Nat.and_le_left
  have l2 : l / 2 &&& 85 ≤ l / 2 := Nat.and_le_left
  rw [show (2 ^ 1 : Nat) = 2 from rfl]
  omega
theorem z2 {h l : Nat} (hh : h < 256) (hl : l < 256) : swN2 (256 * h + l) = 256 * y2 h + y2 l := by
  have e1 : h / 4 &&& 3355443 = h / 4 &&& 51 := (q2a ⟨h, hh⟩).1
  have e2 : h &&& 3355443 = h &&& 51 := (q2a ⟨h, hh⟩).2
  have e3 : (64 * (h % 4) + l / 4) &&& 51 = l / 4 &&& 51 := q2b ⟨h % 4, by omega⟩ ⟨l, hl⟩
  unfold swN2 y2
  rw [Nat.shiftRight_eq_div_pow, Nat.shiftRight_eq_div_pow, Nat.shiftRight_eq_div_pow, show (256 * h + l) / 2 ^ 2 = 256 * (h / 4) + (64 * (h % 4) + l / 4) by omega, show (858993459 : Nat) = 256 * 3355443 + 51 from rfl, and_split hl (by decide), and_split (show 64 * (h % 4) + l / 4 < 256 by omega) (by decide), e1, e2, e3, show (2 ^ 2 : Nat) = 4 from rfl]
  omega
theorem pcN_congr {x y : Nat} : ∀ n, (∀ i, i < n → (x >>> i) % 2 = (y >>> i) % 2) → pcN x n = pcN y n
  | 0, _ => rfl
  | n + 1, h => by
    unfold pcN
    rw [pcN_congr n (fun i hi => h i (by omega)), h n (by omega)]
theorem pcN_add {x m : Nat} : ∀ n, pcN x (m + n) = pcN x m + pcN (x >>> m) n
  | 0 => rfl
  | n + 1 => by
    show pcN x (m + n) + (x >>> (m + n)) % 2 = pcN x m + (pcN (x >>> m) n + (x >>> m >>> n) % 2)
    rw [pcN_add n, Nat.shiftRight_add]
    omega
theorem pc_lo (x : Nat) : pcN x 8 = pcN (x % 256) 8 := by
  refine pcN_congr 8 (fun i hi => ?_)
  rw [Nat.shiftRight_eq_div_pow, Nat.shiftRight_eq_div_pow]
  have : i = 0 ∨ i = 1 ∨ i = 2 ∨ i = 3 ∨ i = 4 ∨ i = 5 ∨ i = 6 ∨ i = 7 := by omega
  rcases this with rfl | rfl | rfl | rfl | rfl | rfl | rfl | rfl <;> omega
theorem z3 {h l : Nat} (hh : h ≤ 68) (hl : l ≤ 68) (h4 : h % 16 ≤ 4) : swN3 (256 * h + l) = 256 * y3 h + y3 l := by
  unfold swN3 y3
  rw [Nat.shiftRight_eq_div_pow, Nat.shiftRight_eq_div_pow, Nat.shiftRight_eq_div_pow, show 256 * h + l + (256 * h + l) / 2 ^ 4 = 256 * (h + h / 16) + (16 * (h % 16) + (l + l / 16)) by omega, show (252645135 : Nat) = 256 * 986895 + 15 from rfl, and_split (by omega) (by decide), q3a ⟨h + h / 16, by omega⟩, q3b ⟨h % 16, by omega⟩ ⟨l + l / 16, by omega⟩]
theorem sw_eq {x : Nat} (h : x < 2 ^ 16) : swN5 (swN4 (swN3 (swN2 (swN1 x)))) = pcN x 16 := by
  obtain ⟨a1, a2, a3, a4, a5⟩ := q4 ⟨x / 256, by omega⟩
  obtain ⟨b1, b2, b3, b4, b5⟩ := q4 ⟨x % 256, by omega⟩
  have e : swN3 (swN2 (swN1 x)) = 256 * pcN (x / 256) 8 + pcN (x % 256) 8 := by
    rw [show x = 256 * (x / 256) + x % 256 by omega, z1 (by omega) (by omega), z2 (by simpa using a1) (by simpa using b1), z3 (by simpa using a2) (by simpa using b2) (by simpa using a3)]
    rw [show (256 * (x / 256) + x % 256) / 256 = x / 256 by omega, show (256 * (x / 256) + x % 256) % 256 = x % 256 by omega]
    rw [show y3 (y2 (y1 (x / 256))) = pcN (x / 256) 8 from a4, show y3 (y2 (y1 (x % 256))) = pcN (x % 256) 8 from b4]
  have a5' : pcN (x / 256) 8 ≤ 8 := a5
  have b5' : pcN (x % 256) 8 ≤ 8 := b5
  have sp : pcN x 16 = pcN (x / 256) 8 + pcN (x % 256) 8 := by
    rw [show (16 : Nat) = 8 + 8 from rfl, pcN_add, pc_lo, Nat.shiftRight_eq_div_pow, show (2 ^ 8 : Nat) = 256 from rfl]
    omega
  rw [e, sp]
  generalize pcN (x / 256) 8 = A at *
  generalize pcN (x % 256) 8 = B at *
  unfold swN5 swN4
  rw [Nat.shiftRight_eq_div_pow, Nat.shiftRight_eq_div_pow, show 256 * A + B + (256 * A + B) / 2 ^ 8 + (256 * A + B + (256 * A + B) / 2 ^ 8) / 2 ^ 16 = 256 * A + (A + B) by omega]
  exact q5 ⟨A, by omega⟩ ⟨B, by omega⟩
theorem s_bitCount {d x : Nat} {σ : gw_S} (h : x < 2 ^ 16) : gB d mJ6_bitCount_0f7a4 [.int (nI x)] σ (fun v σ' => v = some (.int (nI (pcN x 16))) ∧ σ' = σ) := by
  refine eJ6_bitCount_0f7a4 ⟨?_, rfl⟩
  show some (Value.int (swI5 (swI4 (swI3 (swI2 (swI1 (nI x))))))) = _
  obtain ⟨a1, b1⟩ := sw1 h
  obtain ⟨a2, b2⟩ := sw2 b1
  obtain ⟨a3, b3⟩ := sw3 b2
  obtain ⟨a4, b4⟩ := sw4 b3
  rw [a1, a2, a3, a4, sw5 b4, sw_eq h]
theorem tb_nI {x b : Nat} (hx : x < 2 ^ 31) (hb : b < 32) : tb (nI x) b ↔ (x >>> b) % 2 = 1 := by
  rw [tb_iff hb, nI_bv, BitVec.getLsbD_ofNat]
  simp only [hb, decide_true, Bool.true_and]
  rw [Nat.testBit_eq_decide_div_mod_eq, decide_eq_true_iff, Nat.shiftRight_eq_div_pow]
/-- a number of which no high bit is set -/
theorem tb_nat {x : Int32} {n : Nat} (hn : n < 31) (h : ∀ b, n ≤ b → b < 32 → ¬ tb x b) : ∃ y, y < 2 ^ n ∧ x = nI y := by
  refine ⟨x.toBitVec.toNat, ?_, ?_⟩
  · apply Nat.lt_pow_two_of_testBit
    intro i hi
    by_cases h32 : i < 32
    · have := h i hi h32
      rw [tb_iff h32] at this
      simpa [BitVec.getLsbD] using this
    · apply Nat.testBit_lt_two_pow
      exact Nat.lt_of_lt_of_le x.toBitVec.isLt (Nat.pow_le_pow_right (by decide) (by omega))
  · apply Int32.toBitVec_inj.mp
    rw [nI_bv, BitVec.ofNat_toNat, BitVec.setWidth_eq]
