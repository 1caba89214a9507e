theorem s_byteAt {d n k : Nat} {t : Int32} {σ : gw_S} (h : t = 0 ∧ σ 140 0 = nI n ∧ n ≤ 47 ∧ k < 94 ∨ t = 1 ∧ σ 140 1 = nI n ∧ n ≤ 8 ∧ k < 47) : gB d mX9_byteAt [.ref 1, .int t, .int (nI k)] σ (fun v σ' => v = some (.int (if k < n then σ 141 (47 * t.toNatClampNeg + k) else -1)) ∧ σ' = σ) := by
  rcases h with ⟨rfl, h1, h2, h3⟩ | ⟨rfl, h1, h2, h3⟩
  · refine eX9_byteAt ⟨vp_in_iff.mpr (by decide), ?_⟩
    have e : (47 : Int32) * 0 + nI k = nI k := by rw [Int32.mul_zero, Int32.zero_add]
    have c0 : (0 : Int32).toNatClampNeg = 0 := rfl
    rw [e, c0, h1]
    refine ⟨fun c => ⟨?_, rfl⟩, fun c => ⟨vp_in_nI h3 (by decide), ?_, rfl⟩⟩
    · rw [if_neg]
      intro q
      exact nI_ge q (by omega) c
    · rw [i_cl (by omega), if_pos]
      · simp
      · rcases Nat.lt_or_ge k n with q | q
        · exact q
        · exact absurd (nI_le q (by omega)) c
  · refine eX9_byteAt ⟨vp_in_iff.mpr (by decide), ?_⟩
    have e : (47 : Int32) * 1 + nI k = nI (47 + k) := nI_add 47 k
    have c1 : (1 : Int32).toNatClampNeg = 1 := rfl
    rw [e, c1, h1]
    refine ⟨fun c => ⟨?_, rfl⟩, fun c => ⟨vp_in_nI (by omega) (by decide), ?_, rfl⟩⟩
    · rw [if_neg]
      intro q
      exact nI_ge q (by omega) c
    · rw [i_cl (by omega), if_pos]
      rcases Nat.lt_or_ge k n with q | q
      · exact q
      · exact absurd (nI_le q (by omega)) c
/-- how many of a bottle's five bytes are good -/
def gd (f : Nat → Int32) (n m : Nat) : Nat :=
  if ¬ (6 * m < n ∧ okAt f (6 * m) = true) then 0 else if ¬ (6 * m + 1 < n ∧ okAt f (6 * m + 1) = true) then 1 else if ¬ (6 * m + 2 < n ∧ okAt f (6 * m + 2) = true) then 2 else if ¬ (6 * m + 3 < n ∧ okAt f (6 * m + 3) = true) then 3 else if ¬ (6 * m + 4 < n ∧ okAt f (6 * m + 4) = true) then 4 else 5
theorem okAt0 {f : Nat → Int32} {m : Nat} : okAt f (6 * m) = true ↔ okL (f (6 * m)) := by
  unfold okAt
  rw [if_pos (by omega), decide_eq_true_iff]
theorem okAt1 {f : Nat → Int32} {m : Nat} : okAt f (6 * m + 1) = true ↔ okF (f (6 * m + 1)) := by
  unfold okAt
  rw [if_neg (by omega), if_pos (by omega), decide_eq_true_iff]
theorem okAt2 {f : Nat → Int32} {m : Nat} : okAt f (6 * m + 2) = true ↔ okF (f (6 * m + 2)) ∧ ¬ (f (6 * m + 2) = 48 ∧ f (6 * m + 1) = 48) := by
  unfold okAt
  rw [if_neg (by omega), if_neg (by omega), if_pos (by omega), decide_eq_true_iff, show 6 * m + 2 - 1 = 6 * m + 1 by omega]
theorem okAt3 {f : Nat → Int32} {m : Nat} : okAt f (6 * m + 3) = true ↔ okF (f (6 * m + 3)) := by
  unfold okAt
  rw [if_neg (by omega), if_neg (by omega), if_neg (by omega), if_pos (by omega), decide_eq_true_iff]
theorem okAt4 {f : Nat → Int32} {m : Nat} : okAt f (6 * m + 4) = true ↔ f (6 * m + 4) = 110 ∨ f (6 * m + 4) = 115 := by
  unfold okAt
  rw [if_neg (by omega), if_neg (by omega), if_neg (by omega), if_neg (by omega), if_pos (by omega), decide_eq_true_iff]
theorem okAt5 {f : Nat → Int32} {m : Nat} : okAt f (6 * m + 5) = true ↔ f (6 * m + 5) = 59 := by
  unfold okAt
  rw [if_neg (by omega), if_neg (by omega), if_neg (by omega), if_neg (by omega), if_neg (by omega), decide_eq_true_iff]
theorem at_if {p : Prop} [Decidable p] {x : Int32} {P : Int32 → Prop} (hb : ¬ P (-1)) : P (if p then x else -1) ↔ p ∧ P x := by
  by_cases h : p
  · simp [h]
  · simp [h, hb]
/-- the bottle m of the text is read into the model's rows -/
def rdB (f : Nat → Int32) (σ : gw_S) (m : Nat) : gw_S := gw_u (gw_u (gw_u (gw_u σ 142 m (pV f m)) 143 m (pM f m)) 144 m (pC f m)) 145 m (bi (f (6 * m + 4) = 115))
theorem s_readsBottle {d n m : Nat} {σ : gw_S} (hm : m < 8) (hn : n ≤ 47) (hs : σ 140 0 = nI n) : gB (d + 1) mX9_readsBottle [.ref 1, .int (nI m), .int (nI (6 * m))] σ (fun v σ' => v = some (.int (nI (gd (σ 141) n m))) ∧ (gd (σ 141) n m < 5 → σ' = σ) ∧ (gd (σ 141) n m = 5 → σ' = rdB (σ 141) σ m)) := by
  have B : ∀ k, k < 94 → gB d mX9_byteAt [.ref 1, .int 0, .int (nI k)] σ (fun v σ' => v = some (.int (if k < n then σ 141 k else -1)) ∧ σ' = σ) := fun k hk => by
    have := s_byteAt (d := d) (t := 0) (k := k) (σ := σ) (Or.inl ⟨rfl, hs, hn, hk⟩)
    simpa using this
  have L0 : okL (if 6 * m < n then σ 141 (6 * m) else -1) ↔ (6 * m < n ∧ okAt (σ 141) (6 * m) = true) := by rw [at_if (P := okL) (by decide), okAt0]
  have L1 : okF (if 6 * m + 1 < n then σ 141 (6 * m + 1) else -1) ↔ (6 * m + 1 < n ∧ okAt (σ 141) (6 * m + 1) = true) := by rw [at_if (P := okF) (by decide), okAt1]
  have L3 : okF (if 6 * m + 3 < n then σ 141 (6 * m + 3) else -1) ↔ (6 * m + 3 < n ∧ okAt (σ 141) (6 * m + 3) = true) := by rw [at_if (P := okF) (by decide), okAt3]
  have L4 : ((if 6 * m + 4 < n then σ 141 (6 * m + 4) else -1) = 110 ∨ (if 6 * m + 4 < n then σ 141 (6 * m + 4) else -1) = 115) ↔ (6 * m + 4 < n ∧ okAt (σ 141) (6 * m + 4) = true) := by rw [at_if (P := fun x => x = 110 ∨ x = 115) (by decide), okAt4]
  have L2 : 6 * m + 1 < n → ((okF (if 6 * m + 2 < n then σ 141 (6 * m + 2) else -1) ∧ ¬ ((if 6 * m + 1 < n then σ 141 (6 * m + 1) else -1) = 48 ∧ (if 6 * m + 2 < n then σ 141 (6 * m + 2) else -1) = 48)) ↔ (6 * m + 2 < n ∧ okAt (σ 141) (6 * m + 2) = true)) := by
    intro h1
    rw [if_pos h1, okAt2]
    by_cases h2 : 6 * m + 2 < n
    · rw [if_pos h2]
      constructor
      · exact fun q => ⟨h2, q.1, fun z => q.2 ⟨z.2, z.1⟩⟩
      · exact fun q => ⟨q.2.1, fun z => q.2.2 ⟨z.2, z.1⟩⟩
    · rw [if_neg h2]
      constructor
      · exact fun q => absurd q.1 (by decide)
      · exact fun q => absurd q.1 h2
  refine eX9_readsBottle ?_
  rw [show nI (6 * m) + 1 = nI (6 * m + 1) from nI_add _ 1, show nI (6 * m) + 2 = nI (6 * m + 2) from nI_add _ 2, show nI (6 * m) + 3 = nI (6 * m + 3) from nI_add _ 3, show nI (6 * m) + 4 = nI (6 * m + 4) from nI_add _ 4]
  refine gB_det (B _ (by omega)) ⟨_, rfl, gB_det (B _ (by omega)) ⟨_, rfl, gB_det (B _ (by omega)) ⟨_, rfl, gB_det (B _ (by omega)) ⟨_, rfl, gB_det (B _ (by omega)) ⟨_, rfl, ?_⟩⟩⟩⟩⟩
  -- the end with all good
  have fin : ∀ x4 x7 : Int32, (6 * m < n ∧ okAt (σ 141) (6 * m) = true) → (6 * m + 1 < n ∧ okAt (σ 141) (6 * m + 1) = true) → (6 * m + 2 < n ∧ okAt (σ 141) (6 * m + 2) = true) → (6 * m + 3 < n ∧ okAt (σ 141) (6 * m + 3) = true) → (6 * m + 4 < n ∧ okAt (σ 141) (6 * m + 4) = true) →
      gG (d + 1) mX9_readsBottle 132 [some (.ref 1), some (.int (nI m)), none, some (.int (if 6 * m < n then σ 141 (6 * m) else -1)), some (.int (if 6 * m + 1 < n then σ 141 (6 * m + 1) else -1)), some (.int (if 6 * m + 2 < n then σ 141 (6 * m + 2) else -1)), some (.int (if 6 * m + 3 < n then σ 141 (6 * m + 3) else -1)), some (.int (if 6 * m + 4 < n then σ 141 (6 * m + 4) else -1))] [] σ (fun v σ' => v = some (.int (nI (gd (σ 141) n m))) ∧ (gd (σ 141) n m < 5 → σ' = σ) ∧ (gd (σ 141) n m = 5 → σ' = rdB (σ 141) σ m)) := by
    intro _ _ a0 a1 a2 a3 a4
    have e5 : gd (σ 141) n m = 5 := by
      unfold gd
      rw [if_neg (not_not_intro a0), if_neg (not_not_intro a1), if_neg (not_not_intro a2), if_neg (not_not_intro a3), if_neg (not_not_intro a4)]
    rw [e5, if_pos a0.1, if_pos a1.1, if_pos a2.1, if_pos a3.1, if_pos a4.1]
    have v9 : vp_in (nI m) 9 := vp_in_nI (by omega) (by decide)
    refine bX9_readsBottle_132 ?_
    rw [i_cl (show m < 2 ^ 31 by omega)]
    refine ⟨v9, fun s1 q1 => ⟨v9, fun s2 q2 => ⟨v9, fun s3 q3 => ⟨fun c => ⟨v9, fun s4 q4 => ⟨rfl, fun h => absurd h (by omega), fun _ => ?_⟩⟩, fun c => ⟨v9, fun s4 q4 => ⟨rfl, fun h => absurd h (by omega), fun _ => ?_⟩⟩⟩⟩⟩⟩
    · rw [q4, q3, q2, q1, rdB, bi_f c]
      rfl
    · rw [q4, q3, q2, q1, rdB, bi_t c]
      rfl
  have lit : ∀ g : Nat, gd (σ 141) n m = g → g < 5 → (some (Value.int (nI g)) = some (Value.int (nI (gd (σ 141) n m))) ∧ (gd (σ 141) n m < 5 → σ = σ) ∧ (gd (σ 141) n m = 5 → σ = rdB (σ 141) σ m)) := fun g e h => ⟨by rw [e], fun _ => rfl, fun e2 => by omega⟩
  have G0 : ¬ (6 * m < n ∧ okAt (σ 141) (6 * m) = true) → gd (σ 141) n m = 0 := fun h => by unfold gd; rw [if_pos h]
  refine gB_det s_in ⟨_, rfl, br_bi (fun a0 => ?_) (fun a0 => lit 0 (G0 (fun q => a0 (L0.mpr q))) (by omega))⟩
  have b0 := L0.mp a0
  refine gB_det s_in ⟨_, rfl, br_bi (fun a1 => ?_) (fun a1 => lit 1 ?_ (by omega))⟩
  · have b1 := L1.mp a1
    have l2 := L2 b1.1
    have G2 : ¬ (6 * m + 2 < n ∧ okAt (σ 141) (6 * m + 2) = true) → gd (σ 141) n m = 2 := fun h => by
      unfold gd
      rw [if_neg (not_not_intro b0), if_neg (not_not_intro b1), if_pos h]
    have rest : (6 * m + 2 < n ∧ okAt (σ 141) (6 * m + 2) = true) → ∀ Q3 : Prop, True → gB d mX9_in [.int (if 6 * m + 3 < n then σ 141 (6 * m + 3) else -1), .int 48, .int 57] σ (fun v σ' => v = some (.int (bi (okF (if 6 * m + 3 < n then σ 141 (6 * m + 3) else -1)))) ∧ σ' = σ) := fun _ _ _ => s_in
    have G3 : (6 * m + 2 < n ∧ okAt (σ 141) (6 * m + 2) = true) → ¬ (6 * m + 3 < n ∧ okAt (σ 141) (6 * m + 3) = true) → gd (σ 141) n m = 3 := fun b2 h => by
      unfold gd
      rw [if_neg (not_not_intro b0), if_neg (not_not_intro b1), if_neg (not_not_intro b2), if_pos h]
    have G4 : (6 * m + 2 < n ∧ okAt (σ 141) (6 * m + 2) = true) → (6 * m + 3 < n ∧ okAt (σ 141) (6 * m + 3) = true) → ¬ (6 * m + 4 < n ∧ okAt (σ 141) (6 * m + 4) = true) → gd (σ 141) n m = 4 := fun b2 b3 h => by
      unfold gd
      rw [if_neg (not_not_intro b0), if_neg (not_not_intro b1), if_neg (not_not_intro b2), if_neg (not_not_intro b3), if_pos h]
    refine gB_det s_in ⟨_, rfl, br_bj (fun a2 => ⟨fun c1 => ?_, fun c1 => ⟨fun c2 => ?_, fun c2 => ?_⟩⟩) (fun a2 => lit 2 (G2 (fun q => a2 (l2.mpr q).1)) (by omega))⟩
    · have b2 := l2.mp ⟨a2, fun q => c1 q.1⟩
      refine gB_det s_in ⟨_, rfl, br_bi (fun a3 => ⟨fun c4 => ?_, fun c4 => ⟨fun c5 => ?_, fun c5 => ?_⟩⟩) (fun a3 => lit 3 (G3 b2 (fun q => a3 (L3.mpr q))) (by omega))⟩
      · exact fin 0 0 b0 b1 b2 (L3.mp a3) (L4.mp (Or.inl c4))
      · exact fin 0 0 b0 b1 b2 (L3.mp a3) (L4.mp (Or.inr c5))
      · exact lit 4 (G4 b2 (L3.mp a3) (fun q => (L4.mpr q).elim c4 c5)) (by omega)
    · have b2 := l2.mp ⟨a2, fun q => c2 q.2⟩
      refine gB_det s_in ⟨_, rfl, br_bi (fun a3 => ⟨fun c4 => ?_, fun c4 => ⟨fun c5 => ?_, fun c5 => ?_⟩⟩) (fun a3 => lit 3 (G3 b2 (fun q => a3 (L3.mpr q))) (by omega))⟩
      · exact fin 0 0 b0 b1 b2 (L3.mp a3) (L4.mp (Or.inl c4))
      · exact fin 0 0 b0 b1 b2 (L3.mp a3) (L4.mp (Or.inr c5))
      · exact lit 4 (G4 b2 (L3.mp a3) (fun q => (L4.mpr q).elim c4 c5)) (by omega)
    · exact lit 2 (G2 (fun q => (l2.mpr q).2 ⟨c1, c2⟩)) (by omega)
  · unfold gd
    rw [if_neg (not_not_intro b0), if_pos (fun q => a1 (L1.mpr q))]
