def bi (p : Prop) [Decidable p] : Int32 := if p then 1 else 0
theorem bi_t {p : Prop} [Decidable p] (h : p) : bi p = 1 := if_pos h
theorem bi_f {p : Prop} [Decidable p] (h : ¬ p) : bi p = 0 := if_neg h
theorem bi_0 {p : Prop} [Decidable p] : bi p = 0 ↔ ¬ p := by
  unfold bi
  split
  · rename_i h
    exact ⟨fun e => absurd e (by decide), fun e => absurd h e⟩
  · rename_i h
    exact ⟨fun _ => h, fun _ => rfl⟩
theorem bi_1 {p : Prop} [Decidable p] : bi p = 1 ↔ p := by
  unfold bi
  split
  · rename_i h
    exact ⟨fun _ => h, fun _ => rfl⟩
  · rename_i h
    exact ⟨fun e => absurd e (by decide), fun e => absurd e h⟩
theorem bi_nar {p : Prop} [Decidable p] : narrow .boolean (.int (bi p)) = .int (bi p) := by
  unfold bi
  split <;> rfl
theorem bi_vnar {p : Prop} [Decidable p] : vp_nar .boolean (bi p) = bi p := by
  unfold bi
  split <;> rfl
theorem bi_congr {p q : Prop} [Decidable p] [Decidable q] (h : p ↔ q) : bi p = bi q := by
  unfold bi
  simp [h]
theorem bi_sm {p q : Prop} [Decidable p] [Decidable q] (h : p ↔ q) : (some (Value.int (bi p)) : Option Value) = some (Value.int (bi q)) := by rw [bi_congr h]
theorem br_bi {p : Prop} [Decidable p] {A B : Prop} (ha : p → A) (hb : ¬ p → B) : (¬ bi p = 0 → A) ∧ (bi p = 0 → B) := ⟨fun h => ha (Classical.not_not.mp fun n => h (bi_0.mpr n)), fun h => hb (bi_0.mp h)⟩
theorem br_bj {p : Prop} [Decidable p] {A B : Prop} (ha : p → A) (hb : ¬ p → B) : (bi p = 0 → B) ∧ (¬ bi p = 0 → A) := ⟨(br_bi ha hb).2, (br_bi ha hb).1⟩
theorem gB_det {d : Nat} {M : gw_M} {vs : List Value} {σ : gw_S} {F : Option Value → gw_S → Prop} {r : Option Value} {s : gw_S} (h : gB d M vs σ (fun v σ' => v = r ∧ σ' = s)) (k : F r s) : gB d M vs σ F := h.mono (fun v σ' e => by rw [e.1, e.2]; exact k)
/-! numbers -/
theorem i_lt {x y : Int32} : x < y ↔ x.toInt < y.toInt := Int32.lt_iff_toInt_lt
theorem i_le {x y : Int32} : x ≤ y ↔ x.toInt ≤ y.toInt := Int32.le_iff_toInt_le
theorem i_eq {x y : Int32} : x = y ↔ x.toInt = y.toInt := Int32.toInt_inj.symm
theorem i_nlt {x y : Int32} : ¬ x < y ↔ y ≤ x := by rw [i_lt, i_le]; omega
theorem i_nle {x y : Int32} : ¬ x ≤ y ↔ y < x := by rw [i_lt, i_le]; omega
theorem i_cl {n : Nat} (h : n < 2 ^ 31) : (nI n).toNatClampNeg = n := nI_clamp h
theorem i_ti (x : Int32) : -2147483648 ≤ x.toInt ∧ x.toInt ≤ 2147483647 := ⟨by have := Int32.le_toInt x; omega, by have := Int32.toInt_lt x; omega⟩
theorem i_nn {x : Int32} (h : 0 ≤ x) : ∃ n : Nat, n < 2 ^ 31 ∧ x = nI n := nI_of (by rw [i_nlt]; exact h)
/-- a number from 0 on below n -/
theorem i_in {x : Int32} {n : Nat} (hn : n ≤ 2 ^ 31) (h0 : 0 ≤ x) (h1 : x.toInt < n) : ∃ j : Nat, j < n ∧ x = nI j := by
  obtain ⟨j, hj, rfl⟩ := i_nn h0
  rw [nI_toInt hj] at h1
  exact ⟨j, by omega, rfl⟩
/-! the leaves -/
theorem s_isWithin {d : Nat} {x n : Int32} {σ : gw_S} : gB d mX8_isWithin [.int x, .int n] σ (fun v σ' => v = some (.int (bi (0 ≤ x ∧ x < n))) ∧ σ' = σ) := by
  refine eX8_isWithin ⟨fun c => ⟨?_, rfl⟩, fun c => ⟨fun e => ⟨?_, rfl⟩, fun e => ⟨?_, rfl⟩⟩⟩
  · rw [bi_f (fun q => absurd c (i_nlt.mpr q.1))]
  · rw [bi_f (fun q => absurd q.2 (i_nlt.mpr e))]
  · rw [bi_t ⟨i_nlt.mp c, i_nle.mp e⟩]
theorem s_in {d : Nat} {x y z : Int32} {σ : gw_S} : gB d mX9_in [.int x, .int y, .int z] σ (fun v σ' => v = some (.int (bi (y ≤ x ∧ x ≤ z))) ∧ σ' = σ) := by
  refine eX9_in ⟨fun c => ⟨?_, rfl⟩, fun c => ⟨fun e => ⟨?_, rfl⟩, fun e => ⟨?_, rfl⟩⟩⟩
  · rw [bi_f (fun q => absurd c (i_nlt.mpr q.1))]
  · rw [bi_f (fun q => absurd e (i_nlt.mpr q.2))]
  · rw [bi_t ⟨i_nlt.mp c, i_nlt.mp e⟩]
theorem s_isIn {d : Nat} {x y : Int32} {σ : gw_S} : gB d mX9_isIn [.int x, .int y] σ (fun v σ' => v = some (.int (bi (x >>> (y &&& 31) &&& 1 = 1))) ∧ σ' = σ) := by
  refine eX9_isIn ⟨fun c => ⟨?_, rfl⟩, fun c => ⟨?_, rfl⟩⟩
  · rw [bi_f c]
  · rw [bi_t c]
theorem s_isAmong {d : Nat} {x y : Int32} {σ : gw_S} : gB d mX8_isAmong [.int x, .int y] σ (fun v σ' => v = some (.int (bi (x >>> ((7 - y) &&& 31) &&& 1 = 1))) ∧ σ' = σ) := by
  refine eX8_isAmong ?_
  first
    | exact ⟨fun c => ⟨by rw [bi_f c], rfl⟩, fun c => ⟨by rw [bi_t c], rfl⟩⟩
    | skip
theorem s_isText {d : Nat} {x : Int32} {σ : gw_S} : gB (d + 1) mX9_isText [.int x] σ (fun v σ' => v = some (.int (bi (0 ≤ x ∧ x ≤ 1))) ∧ σ' = σ) := eX9_isText (gB_det s_in ⟨_, rfl, bi_nar, rfl, rfl⟩)
theorem s_isEight {d : Nat} {x : Int32} {σ : gw_S} : gB (d + 1) mX9_isEight [.int x] σ (fun v σ' => v = some (.int (bi (0 ≤ x ∧ x ≤ 7))) ∧ σ' = σ) := eX9_isEight (gB_det s_in ⟨_, rfl, bi_nar, rfl, rfl⟩)
theorem s_isDay {d : Nat} {x : Int32} {σ : gw_S} : gB (d + 1) mX9_isDay [.int x] σ (fun v σ' => v = some (.int (bi (0 ≤ x ∧ x ≤ 39))) ∧ σ' = σ) := eX9_isDay (gB_det s_in ⟨_, rfl, bi_nar, rfl, rfl⟩)
theorem s_isSheet {d : Nat} {x : Int32} {σ : gw_S} : gB (d + 1) mX9_isSheet [.int x] σ (fun v σ' => v = some (.int (bi (0 ≤ x ∧ x ≤ 3))) ∧ σ' = σ) := eX9_isSheet (gB_det s_in ⟨_, rfl, bi_nar, rfl, rfl⟩)
theorem s_find {d : Nat} {x : Int32} {σ : gw_S} : gB d mX8_find [.ref 0, .int x] σ (fun v σ' => v = some (.int (-10 - x)) ∧ σ' = gw_u σ 0 13 x) := eX8_find (fun _ e => ⟨rfl, e⟩)
theorem s_meets {d : Nat} {x : Int32} {σ : gw_S} : gB d mX9_meets [.ref 1, .int x] σ (fun v σ' => v = some (.int (-10 - x)) ∧ σ' = gw_u σ 1 46 x) := eX9_meets (fun _ e => ⟨rfl, e⟩)
theorem s_forgetDays {d : Nat} {σ : gw_S} : gB d mX8_forgetDays [.ref 0] σ (fun v σ' => v = none ∧ σ' = gw_u (gw_u σ 0 10 1) 0 11 (-1)) := eX8_forgetDays (fun _ e1 _ e2 => ⟨rfl, by rw [e2, e1]⟩)
theorem s_nextSeed {d : Nat} {x : Int32} {σ : gw_S} : gB d mX8_nextSeed [.int x] σ (fun v σ' => v = some (.int (1103515245 * x + 12345)) ∧ σ' = σ) := eX8_nextSeed ⟨rfl, rfl⟩
theorem s_isLetter {d : Nat} {x : Int32} {σ : gw_S} : gB d mX5_isLetter [.int x] σ (fun v σ' => v = some (.int (bi (97 ≤ x ∧ x ≤ 104))) ∧ σ' = σ) := by
  refine eX5_isLetter ⟨fun c => ⟨?_, rfl⟩, fun c => ⟨fun e => ⟨?_, rfl⟩, fun e => ⟨?_, rfl⟩⟩⟩
  · rw [bi_f (fun q => absurd c (i_nlt.mpr q.1))]
  · rw [bi_f (fun q => absurd e (i_nlt.mpr q.2))]
  · rw [bi_t ⟨i_nlt.mp c, i_nlt.mp e⟩]
theorem s_isFigure {d : Nat} {x : Int32} {σ : gw_S} : gB d mX5_isFigure [.int x] σ (fun v σ' => v = some (.int (bi (48 ≤ x ∧ x ≤ 57))) ∧ σ' = σ) := by
  refine eX5_isFigure ⟨fun c => ⟨?_, rfl⟩, fun c => ⟨fun e => ⟨?_, rfl⟩, fun e => ⟨?_, rfl⟩⟩⟩
  · rw [bi_f (fun q => absurd c (i_nlt.mpr q.1))]
  · rw [bi_f (fun q => absurd e (i_nlt.mpr q.2))]
  · rw [bi_t ⟨i_nlt.mp c, i_nlt.mp e⟩]
theorem s_isBottleC {d : Nat} {x : Int32} {σ : gw_S} : gB (d + 1) mX8_isBottle [.ref 0, .int x] σ (fun v σ' => v = some (.int (bi (0 ≤ x ∧ x < σ 7 4))) ∧ σ' = σ) := eX8_isBottle (gB_det s_isWithin ⟨_, rfl, bi_nar, rfl, rfl⟩)
/-! cells of the shape -/
theorem tx_2 : gw_tx 2 := ⟨rfl, rfl⟩
theorem tx_4 : gw_tx 4 := ⟨rfl, rfl⟩
theorem st_now : gw_st 36 := ⟨rfl, fun j hj => by rcases (show j = 0 ∨ j = 1 ∨ j = 2 ∨ j = 3 ∨ j = 4 ∨ j = 5 ∨ j = 6 by omega) with rfl | rfl | rfl | rfl | rfl | rfl | rfl <;> rfl⟩
theorem st_trial : gw_st 44 := ⟨rfl, fun j hj => by rcases (show j = 0 ∨ j = 1 ∨ j = 2 ∨ j = 3 ∨ j = 4 ∨ j = 5 ∨ j = 6 by omega) with rfl | rfl | rfl | rfl | rfl | rfl | rfl <;> rfl⟩
theorem s_textOf {d : Nat} {x : Int32} {σ : gw_S} : gB d mX8_textOf [.ref 0, .int x] σ (fun v σ' => v = some (.ref (if x = 0 then 2 else 4)) ∧ σ' = σ) := by
  refine eX8_textOf ⟨fun c => ⟨by rw [if_neg c], rfl⟩, fun c => ⟨by rw [if_pos c], rfl⟩⟩
