/-- a day that is hot or not -/
def dyH (τ : gw_S) (hot : Bool) (D : Nat) (S : gw_S) : gw_S := sEnds hot (soT τ) (τ 1 9) (NB τ) (sActs (NB τ) τ (-1) (nI D) (nA τ) S)
theorem dyH_two {τ : gw_S} {D : Nat} {S : gw_S} : dyH τ false D S = sLA (NB τ) (sActs (NB τ) τ (-1) (nI D) (nA τ) S) ∧ dyH τ true D S = sBA (soT τ) (τ 1 9) (NB τ) (sLA (NB τ) (sActs (NB τ) τ (-1) (nI D) (nA τ) S)) := by
  unfold dyH
  rw [sEnds_two, sEnds_two, if_neg (by decide), if_pos rfl]
  exact ⟨rfl, rfl⟩
theorem sBA_id {So : Nat → Bool} {bu : Int32} {S : gw_S} : ∀ n, (∀ b, b < n → ¬ (So b = true ∧ bu ≤ alI S b)) → sBA So bu n S = S
  | 0, _ => rfl
  | n + 1, h => by
    show Bs So bu n (sBA So bu n S) = S
    rw [sBA_id n (fun b hb => h b (by omega))]
    have := h n (by omega)
    unfold Bs
    split
    · rename_i c
      exact absurd ⟨c.2.1, c.2.2⟩ this
    · rfl
/-- in how many ways of 16 a day the bottle stays whole: m days from day D on -/
def wyN (τ : gw_S) (c b : Nat) : Nat → Nat → gw_S → Nat
  | 0, _, S => if S 3 b = 0 then 0 else 1
  | m + 1, D, S => (16 - c) * wyN τ c b m (D + 1) (dyH τ false D S) + c * wyN τ c b m (D + 1) (dyH τ true D S)
theorem wyN_le {τ : gw_S} {c b : Nat} (hc : c ≤ 16) : ∀ m D S, wyN τ c b m D S ≤ 16 ^ m
  | 0, _, S => by unfold wyN; split <;> simp
  | m + 1, D, S => by
    unfold wyN
    have h1 := wyN_le (τ := τ) (b := b) hc m (D + 1) (dyH τ false D S)
    have h2 := wyN_le (τ := τ) (b := b) hc m (D + 1) (dyH τ true D S)
    have e1 : (16 - c) * wyN τ c b m (D + 1) (dyH τ false D S) ≤ (16 - c) * 16 ^ m := Nat.mul_le_mul_left _ h1
    have e2 : c * wyN τ c b m (D + 1) (dyH τ true D S) ≤ c * 16 ^ m := Nat.mul_le_mul_left _ h2
    have e3 : (16 - c) * 16 ^ m + c * 16 ^ m = 16 ^ (m + 1) := by
      rw [← Nat.add_mul, show 16 - c + c = 16 by omega, Nat.pow_succ]
      omega
    omega
theorem sEnds_30 {hot : Bool} {So : Nat → Bool} {bu : Int32} {b : Nat} : ∀ (m : Nat) (S : gw_S), S 3 b = 0 → sEnds hot So bu m S 3 b = 0
  | 0, _, h => h
  | m + 1, S, h => by
    have ih := sEnds_30 (hot := hot) (So := So) (bu := bu) (b := b) m S h
    show (if sEnds hot So bu m S 3 m = 0 then sEnds hot So bu m S else sEnd hot (So m) bu m (sEnds hot So bu m S)) 3 b = 0
    split
    · exact ih
    · unfold sEnd
      split
      · show upd (sLk m (sEnds hot So bu m S) 3) m 0 b = 0
        unfold upd
        split
        · rfl
        · exact ih
      · exact ih
theorem aS_30 {n : Nat} {K : Int32} {b x : Nat} {t : Int32} {S : gw_S} (h : S 3 b = 0) : aS n K x t S 3 b = 0 := by
  unfold aS sSell sCork
  repeat' split
  all_goals first | exact h | (rw [gw_ne (by decide)]; exact h) | skip
  · show upd (S 3) x 0 b = 0
    unfold upd
    split
    · rfl
    · exact h
theorem sActs_30 {n : Nat} {τ : gw_S} {w D : Int32} {b : Nat} : ∀ (m : Nat) (S : gw_S), S 3 b = 0 → sActs n τ w D m S 3 b = 0
  | 0, _, h => h
  | m + 1, S, h => by
    show sAct n τ w D m (sActs n τ w D m S) 3 b = 0
    have ih := sActs_30 (n := n) (τ := τ) (w := w) (D := D) m S h
    unfold sAct
    split
    · rw [gw_ne (by decide)]; exact aS_30 ih
    · exact ih
theorem wyN_0 {τ : gw_S} {c b : Nat} : ∀ m D S, S 3 b = 0 → wyN τ c b m D S = 0
  | 0, _, S, h => by unfold wyN; rw [if_pos h]
  | m + 1, D, S, h => by
    unfold wyN
    have h1 : ∀ hot, dyH τ hot D S 3 b = 0 := fun hot => sEnds_30 _ _ (sActs_30 _ _ h)
    rw [wyN_0 m (D + 1) _ (h1 false), wyN_0 m (D + 1) _ (h1 true)]
    simp
def S7Z (τ : gw_S) (D : Nat) (S : gw_S) : Prop := ∀ a D', D ≤ D' → D' < 40 → τ 148 a = nI D' → S 7 a = 0
theorem S7Z.nx {τ S : gw_S} {D : Nat} {hot : Bool} (hD : D < 40) (h : S7Z τ D S) : S7Z τ (D + 1) (dyH τ hot D S) := fun a D' h1 h2 e => by
  unfold dyH
  rw [sEnds_7, sActs_7 _ _ _ (by rw [e, nI_eq (by omega) (by omega)]; omega)]
  exact h a D' (by omega) h2 e
theorem ht_q {D : Nat} (h : D < 11) : ([52, 60, 68, 76, 84, 92, 100, 108, 116, 124, 132] : List Nat)[D]? = some (52 + 8 * D) := by
  have : D = 0 ∨ D = 1 ∨ D = 2 ∨ D = 3 ∨ D = 4 ∨ D = 5 ∨ D = 6 ∨ D = 7 ∨ D = 8 ∨ D = 9 ∨ D = 10 := by omega
  rcases this with rfl | rfl | rfl | rfl | rfl | rfl | rfl | rfl | rfl | rfl | rfl <;> rfl
theorem ht_st {D : Nat} (h : D < 11) : gw_st (52 + 8 * D) := by
  have : D = 0 ∨ D = 1 ∨ D = 2 ∨ D = 3 ∨ D = 4 ∨ D = 5 ∨ D = 6 ∨ D = 7 ∨ D = 8 ∨ D = 9 ∨ D = 10 := by omega
  rcases this with rfl | rfl | rfl | rfl | rfl | rfl | rfl | rfl | rfl | rfl | rfl <;> rfl
/-- only States behind the D-th have changed -/
def FHt (D : Nat) (σ σ' : gw_S) : Prop := ∀ k, (k < 52 + 8 * (D + 1) ∨ 140 ≤ k) → σ' k = σ k
