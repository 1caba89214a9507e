theorem gw_at {σ : gw_S} {k j k2 j2 : Nat} {v : Int32} : gw_u σ k j v k2 j2 = if k2 = k ∧ j2 = j then v else σ k2 j2 := by
  unfold gw_u upd
  by_cases h : k2 = k
  · subst h
    by_cases h2 : j2 = j <;> simp [h2]
  · simp [h]
theorem gw_ne {σ : gw_S} {k j k2 : Nat} {v : Int32} (h : k2 ≠ k) : gw_u σ k j v k2 = σ k2 := if_neg h
theorem gw_self {σ : gw_S} {k j : Nat} {v : Int32} : gw_u σ k j v k j = v := by simp [gw_at]
theorem gw_nj {σ : gw_S} {k j j2 : Nat} {v : Int32} (h : j2 ≠ j) : gw_u σ k j v k j2 = σ k j2 := by simp [gw_at, h]
/-- a mask out of a predicate -/
def bm (p : Nat → Bool) : Nat → Int32
  | 0 => 0
  | b + 1 => if p b = true then bm p b ||| ((1 : Int32) <<< (nI b &&& 31)) else bm p b
def nBo (f : Nat → Int32) (n : Nat) : Nat := if fauB f n = -1 then (n + 1) / 6 else 0
def pV (f : Nat → Int32) (b : Nat) : Int32 := f (6 * b) - 97
def pM (f : Nat → Int32) (b : Nat) : Int32 := 10 * (f (6 * b + 1) - 48) + f (6 * b + 2) - 48
def pC (f : Nat → Int32) (b : Nat) : Int32 := f (6 * b + 3) - 48
def pS (f : Nat → Int32) (b : Nat) : Bool := decide (f (6 * b + 4) = 115)
def nLe (g : Nat → Int32) (m : Nat) : Nat := if fauS g m = -1 then m else 0
theorem nI_ne_m1 {n : Nat} (h : n < 2 ^ 31) : nI n ≠ -1 := by
  intro e
  have := congrArg Int32.toInt e
  rw [nI_toInt h] at this
  have h2 : (-1 : Int32).toInt = -1 := by decide
  omega
theorem fauB_bad {f : Nat → Int32} {n j : Nat} (hj : j < n) (ho : ∀ i, i < j → okAt f i = true) (hb : okAt f j = false) : fauB f n = nI j := by
  have e : fbF f n 0 = j := by
    rcases Nat.lt_trichotomy (fbF f n 0) j with h | h | h
    · have := fbF_bad f n 0 (by omega)
      rw [ho _ h] at this
      cases this
    · exact h
    · have := fbF_ok f n 0 j (Nat.zero_le _) h
      rw [hb] at this
      cases this
  unfold fauB fauR
  rw [e, if_pos hj]
theorem fauB_end {f : Nat → Int32} {n : Nat} (ho : ∀ i, i < n → okAt f i = true) : fauB f n = if n = 0 ∨ n % 6 = 5 then -1 else nI n := by
  have e : ¬ fbF f n 0 < n := fun h => by
    have := fbF_bad f n 0 (by omega)
    rw [ho _ h] at this
    cases this
  unfold fauB fauR
  rw [if_neg e]
theorem fauB_good {f : Nat → Int32} {n : Nat} (hn : n ≤ 47) (h : fauB f n = -1) : (∀ i, i < n → okAt f i = true) ∧ (n = 0 ∨ n % 6 = 5) := by
  unfold fauB fauR at h
  by_cases h1 : fbF f n 0 < n
  · rw [if_pos h1] at h
    exact absurd h (nI_ne_m1 (by omega))
  · rw [if_neg h1] at h
    refine ⟨fun i hi => fbF_ok f n 0 i (Nat.zero_le _) (by have := fbF_le f n 0; omega), ?_⟩
    by_cases h2 : n = 0 ∨ n % 6 = 5
    · exact h2
    · rw [if_neg h2] at h
      exact absurd h (nI_ne_m1 (by omega))
theorem nBo_le {f : Nat → Int32} {n : Nat} (hn : n ≤ 47) : nBo f n ≤ 8 := by
  unfold nBo
  split <;> omega
theorem nBo_in {f : Nat → Int32} {n b : Nat} (hn : n ≤ 47) (hb : b < nBo f n) : 6 * b + 4 < n ∧ (∀ i, i < n → okAt f i = true) := by
  unfold nBo at hb
  split at hb
  · rename_i h
    have h2 := fauB_good hn h
    refine ⟨?_, h2.1⟩
    omega
  · omega
theorem nBo_congr {f g : Nat → Int32} {n : Nat} (h : ∀ j, j < n → f j = g j) : nBo f n = nBo g n := by
  unfold nBo
  rw [fauB_congr h]
theorem bm_congr {p q : Nat → Bool} : ∀ n, (∀ b, b < n → p b = q b) → bm p n = bm q n
  | 0, _ => rfl
  | n + 1, h => by
    unfold bm
    rw [h n (by omega), bm_congr n (fun b hb => h b (by omega))]
theorem nLe_le {g : Nat → Int32} {m : Nat} : nLe g m ≤ m := by
  unfold nLe
  split <;> omega
theorem nLe_in {g : Nat → Int32} {m i : Nat} (hm : m ≤ 47) (hi : i < nLe g m) : okL (g i) := by
  unfold nLe at hi
  split at hi
  · rename_i h
    refine fsF_ok g m 0 i (Nat.zero_le _) ?_
    unfold fauS at h
    by_cases h1 : fsF g m 0 < m
    · rw [if_pos h1] at h
      exact absurd h (nI_ne_m1 (by omega))
    · omega
  · omega
/-- the class's stock and song, as the texts say -/
def SC (f : Nat → Int32) (n : Nat) (σ : gw_S) : Prop := σ 7 4 = nI (nBo f n) ∧ (∀ b, b < nBo f n → σ 8 b = pV f b ∧ σ 9 b = pM f b ∧ σ 10 b = pC f b) ∧ σ 7 3 = bm (pS f) (nBo f n)
def SG (g : Nat → Int32) (m : Nat) (σ : gw_S) : Prop := σ 17 4 = nI (nLe g m) ∧ ∀ i, i < nLe g m → σ 18 i = g i - 97
theorem gw_min_nI {a b : Nat} (h : a ≤ b) (hb : b < 2 ^ 31) : gw_min (nI b) (nI a) = nI a := by
  unfold gw_min
  by_cases e : a = b
  · subst e
    split <;> rfl
  · rw [if_pos (nI_lt (by omega) hb)]
theorem l_takeStock {d n N : Nat} {f : Nat → Int32} (hn : n ≤ 47) (hN : 6 * N ≤ n + 1) (hN8 : N ≤ 8) : ∀ m b (σ σ0 : gw_S), b + m = N → σ 7 4 = nI N → σ 3 = f → (∀ c, c < b → σ 8 c = pV f c ∧ σ 9 c = pM f c ∧ σ 10 c = pC f c) → σ 7 3 = bm (pS f) b → (∀ k, k ≠ 7 → k ≠ 8 → k ≠ 9 → k ≠ 10 → σ k = σ0 k) →
    gG (d + 1) mX4_takeFrom 37 [some (.ref 7), some (.ref 2), some (.int (nI b)), none] [] σ (fun v σ' => v = none ∧ (σ' 7 4 = nI N ∧ (∀ c, c < N → σ' 8 c = pV f c ∧ σ' 9 c = pM f c ∧ σ' 10 c = pC f c) ∧ σ' 7 3 = bm (pS f) N) ∧ ∀ k, k ≠ 7 → k ≠ 8 → k ≠ 9 → k ≠ 10 → σ' k = σ0 k) := by
  intro m
  induction m with
  | zero =>
    intro b σ σ0 hb h4 h3 he hs hf
    have : b = N := by omega
    subst this
    exact bX4_takeFrom_37 ⟨fun _ => ⟨rfl, ⟨h4, he, hs⟩, hf⟩, fun c => absurd (by rw [h4]; exact nI_le (Nat.le_refl _) (by omega)) c⟩
  | succ m ih =>
    intro b σ σ0 hb h4 h3 he hs hf
    have e0 : (6 : Int32) * nI b = nI (6 * b) := nI_mul 6 b
    have e1 : nI (6 * b) + 1 = nI (6 * b + 1) := nI_add _ 1
    have e2 : nI (6 * b) + 2 = nI (6 * b + 2) := nI_add _ 2
    have e3 : nI (6 * b) + 3 = nI (6 * b + 3) := nI_add _ 3
    have e4 : nI (6 * b) + 4 = nI (6 * b + 4) := nI_add _ 4
    have cb : (nI b).toNatClampNeg = b := i_cl (by omega)
    have c0 : (nI (6 * b)).toNatClampNeg = 6 * b := i_cl (by omega)
    have c1 : (nI (6 * b + 1)).toNatClampNeg = 6 * b + 1 := i_cl (by omega)
    have c2 : (nI (6 * b + 2)).toNatClampNeg = 6 * b + 2 := i_cl (by omega)
    have c3 : (nI (6 * b + 3)).toNatClampNeg = 6 * b + 3 := i_cl (by omega)
    have c4 : (nI (6 * b + 4)).toNatClampNeg = 6 * b + 4 := i_cl (by omega)
    refine bX4_takeFrom_37 ⟨fun c => absurd c (by rw [h4]; exact nI_ge (by omega) (by omega)), fun _ => ?_⟩
    rw [e0, e1, e2, e3, e4, cb, c0, c1, c2, c3, c4, nI_1]
    have v8 : vp_in (nI b) 8 := vp_in_nI (by omega) (by decide)
    refine ⟨vp_in_nI (by omega) (by decide), v8, fun s7 q7 => ⟨vp_in_nI (by omega) (by decide), vp_in_nI (by omega) (by decide), v8, fun s8 q8 => ⟨vp_in_nI (by omega) (by decide), v8, fun s9 q9 => ⟨vp_in_nI (by omega) (by decide), ?_⟩⟩⟩⟩
    have t7 : s7 3 = f := by rw [q7, gw_ne (by decide), h3]
    have t8 : s8 3 = f := by rw [q8, gw_ne (by decide), t7]
    have t9 : s9 3 = f := by rw [q9, gw_ne (by decide), t8]
    rw [t9]
    have g4 : s9 7 = σ 7 := by rw [q9, gw_ne (by decide), q8, gw_ne (by decide), q7, gw_ne (by decide)]
    have ge : ∀ c, c < b + 1 → s9 8 c = pV f c ∧ s9 9 c = pM f c ∧ s9 10 c = pC f c := by
      intro c hc
      rw [q9, q8, q7]
      by_cases hcb : c = b
      · subst hcb
        simp only [gw_at]
        simp [h3, pV, pM, pC]
      · have := he c (by omega)
        simp only [gw_at]
        simp [hcb, this]
    have gf : ∀ k, k ≠ 7 → k ≠ 8 → k ≠ 9 → k ≠ 10 → s9 k = σ0 k := by
      intro k k7 k8 k9 k10
      rw [q9, gw_ne k10, q8, gw_ne k9, q7, gw_ne k8]
      exact hf k k7 k8 k9 k10
    refine ⟨fun c => ?_, fun c => ?_⟩
    · refine ih (b + 1) s9 σ0 (by omega) (by rw [g4]; exact h4) t9 ge ?_ gf
      rw [g4, hs]
      unfold bm
      rw [if_neg (by simp [pS, c])]
      cases b <;> rfl
    · intro s10 q10
      refine ih (b + 1) s10 σ0 (by omega) ?_ (by rw [q10, gw_ne (by decide), t9]) ?_ ?_ ?_
      · rw [q10, gw_nj (by decide), g4]
        exact h4
      · intro c hc
        rw [q10, gw_ne (by decide), gw_ne (by decide), gw_ne (by decide)]
        exact ge c hc
      · rw [q10, gw_self, g4, hs]
        conv => rhs; unfold bm
        rw [if_pos (by simp [pS, c])]
      · intro k k7 k8 k9 k10
        rw [q10, gw_ne k7]
        exact gf k k7 k8 k9 k10
theorem s_takeStock {d n : Nat} {σ : gw_S} (hn : n ≤ 47) (hs : σ 2 2 = nI n) : gB (d + 3) mX4_takeFrom [.ref 7, .ref 2] σ (fun v σ' => v = none ∧ SC (σ 3) n σ' ∧ ∀ k, k ≠ 7 → k ≠ 8 → k ≠ 9 → k ≠ 10 → σ' k = σ k) := by
  refine eX4_takeFrom (gB_det (s_faultB tx_2 hn hs) ⟨_, rfl, fun c => ?_, fun c => ?_⟩)
  · intro s3 q3 s4 q4
    have hN : nBo (σ 3) n = 0 := by unfold nBo; rw [if_neg c]
    unfold SC
    rw [hN]
    refine l_takeStock (n := n) (N := 0) (f := σ 3) hn (by omega) (by omega) 0 0 s4 σ rfl ?_ ?_ ?_ ?_ ?_
    · rw [q4, gw_nj (by decide), q3, gw_self]; rfl
    · rw [q4, gw_ne (by decide), q3, gw_ne (by decide)]
    · intro c hc; omega
    · rw [q4, gw_self]; rfl
    · intro k k7 _ _ _
      rw [q4, gw_ne k7, q3, gw_ne k7]
  · intro s3 q3 s4 q4
    have hN : nBo (σ 3) n = (n + 1) / 6 := by unfold nBo; rw [if_pos c]
    unfold SC
    rw [hN]
    refine l_takeStock (n := n) (N := (n + 1) / 6) (f := σ 3) hn (by omega) (by omega) ((n + 1) / 6) 0 s4 σ (by omega) ?_ ?_ ?_ ?_ ?_
    · rw [q4, gw_nj (by decide), q3, gw_self, hs, nI_1, show (6 : Int32) = nI 6 from rfl, nI_div (by omega) (by decide) (by decide), show (8 : Int32) = nI 8 from rfl, gw_min_nI (by omega) (by decide)]
    · rw [q4, gw_ne (by decide), q3, gw_ne (by decide)]
    · intro c hc; omega
    · rw [q4, gw_self]; rfl
    · intro k k7 _ _ _
      rw [q4, gw_ne k7, q3, gw_ne k7]
theorem l_takeSong {d N : Nat} {f : Nat → Int32} (hN8 : N ≤ 8) : ∀ m b (σ σ0 : gw_S), b + m = N → σ 17 4 = nI N → σ 5 = f → (∀ c, c < b → σ 18 c = f c - 97) → (∀ k, k ≠ 17 → k ≠ 18 → σ k = σ0 k) → (∀ j, j ≠ 4 → σ 17 j = σ0 17 j) →
    gG (d + 1) mX2_takeFrom 27 [some (.ref 17), some (.ref 4), some (.int (nI b))] [] σ (fun v σ' => v = none ∧ (σ' 17 4 = nI N ∧ ∀ c, c < N → σ' 18 c = f c - 97) ∧ (∀ k, k ≠ 17 → k ≠ 18 → σ' k = σ0 k) ∧ ∀ j, j ≠ 4 → σ' 17 j = σ0 17 j) := by
  intro m
  induction m with
  | zero =>
    intro b σ σ0 hb h4 h3 he hf hj
    have : b = N := by omega
    subst this
    exact bX2_takeFrom_27 ⟨fun _ => ⟨rfl, ⟨h4, he⟩, hf, hj⟩, fun c => absurd (by rw [h4]; exact nI_le (Nat.le_refl _) (by omega)) c⟩
  | succ m ih =>
    intro b σ σ0 hb h4 h3 he hf hj
    have cb : (nI b).toNatClampNeg = b := i_cl (by omega)
    refine bX2_takeFrom_27 ⟨fun c => absurd c (by rw [h4]; exact nI_ge (by omega) (by omega)), fun _ => ⟨vp_in_nI (by omega) (by decide), vp_in_nI (by omega) (by decide), fun s2 q2 => ?_⟩⟩
    rw [cb] at q2
    rw [nI_1]
    refine ih (b + 1) s2 σ0 (by omega) (by rw [q2, gw_ne (by decide)]; exact h4) (by rw [q2, gw_ne (by decide)]; exact h3) ?_ ?_ ?_
    · intro c hc
      rw [q2, gw_at]
      by_cases hcb : c = b
      · subst hcb
        simp [h3]
      · simp [hcb, he c (by omega)]
    · intro k k1 k2
      rw [q2, gw_ne k2]
      exact hf k k1 k2
    · intro j hj2
      rw [q2, gw_ne (by decide)]
      exact hj j hj2
theorem s_takeSong {d n : Nat} {σ : gw_S} (hn : n ≤ 8) (hs : σ 4 2 = nI n) : gB (d + 2) mX2_takeFrom [.ref 17, .ref 4] σ (fun v σ' => v = none ∧ SG (σ 5) n σ' ∧ (∀ k, k ≠ 17 → k ≠ 18 → σ' k = σ k) ∧ ∀ j, j ≠ 4 → σ' 17 j = σ 17 j) := by
  refine eX2_takeFrom (gB_det (s_faultS tx_4 (by omega) hs) ⟨_, rfl, fun c => ?_, fun c => ?_⟩)
  · intro s3 q3
    have hN : nLe (σ 5) n = 0 := by unfold nLe; rw [if_neg c]
    unfold SG
    rw [hN]
    refine l_takeSong (N := 0) (f := σ 5) (by omega) 0 0 s3 σ rfl ?_ ?_ ?_ ?_ ?_
    · rw [q3, gw_self]; rfl
    · rw [q3, gw_ne (by decide)]
    · intro c hc; omega
    · intro k k1 _
      rw [q3, gw_ne k1]
    · intro j hj
      rw [q3, gw_nj hj]
  · intro s3 q3
    have hN : nLe (σ 5) n = n := by unfold nLe; rw [if_pos c]
    unfold SG
    rw [hN]
    refine l_takeSong (N := n) (f := σ 5) (by omega) n 0 s3 σ (by omega) ?_ ?_ ?_ ?_ ?_
    · rw [q3, gw_self, hs, show (8 : Int32) = nI 8 from rfl, gw_min_nI hn (by decide)]
    · rw [q3, gw_ne (by decide)]
    · intro c hc; omega
    · intro k k1 _
      rw [q3, gw_ne k1]
    · intro j hj
      rw [q3, gw_nj hj]
theorem s_takeTexts {d n m : Nat} {σ : gw_S} (hn : n ≤ 47) (hs : σ 2 2 = nI n) (hm : m ≤ 8) (hs2 : σ 4 2 = nI m) : gB (d + 4) mX8_takeTexts [.ref 0] σ (fun v σ' => v = none ∧ SC (σ 3) n σ' ∧ SG (σ 5) m σ' ∧ σ' 0 10 = 1 ∧ σ' 0 11 = -1 ∧ (∀ k, k ≠ 0 → k ≠ 7 → k ≠ 8 → k ≠ 9 → k ≠ 10 → k ≠ 17 → k ≠ 18 → σ' k = σ k) ∧ (∀ j, j ≠ 10 → j ≠ 11 → σ' 0 j = σ 0 j) ∧ ∀ j, j ≠ 4 → σ' 17 j = σ 17 j) := by
  refine eX8_takeTexts ((s_takeStock hn hs).mono ?_)
  rintro v σ1 ⟨rfl, h1, h2⟩
  refine ⟨rfl, (s_takeSong (d := d + 1) hm (by rw [h2 4 (by decide) (by decide) (by decide) (by decide)]; exact hs2)).mono ?_⟩
  rintro v σ2 ⟨rfl, h3, h4, h5⟩
  refine ⟨rfl, gB_det s_forgetDays ⟨rfl, rfl, ?_, ?_, ?_, ?_, ?_, ?_, ?_⟩⟩
  · unfold SC at h1 ⊢
    refine ⟨?_, ?_, ?_⟩
    · rw [gw_ne (by decide), gw_ne (by decide), h4 7 (by decide) (by decide)]; exact h1.1
    · intro b hb
      simp only [gw_ne (show (8 : Nat) ≠ 0 by decide), gw_ne (show (9 : Nat) ≠ 0 by decide), gw_ne (show (10 : Nat) ≠ 0 by decide), h4 8 (by decide) (by decide), h4 9 (by decide) (by decide), h4 10 (by decide) (by decide)]
      exact h1.2.1 b hb
    · rw [gw_ne (by decide), gw_ne (by decide), h4 7 (by decide) (by decide)]; exact h1.2.2
  · rw [h2 5 (by decide) (by decide) (by decide) (by decide)] at h3
    unfold SG at h3 ⊢
    refine ⟨?_, fun i hi => ?_⟩
    · rw [gw_ne (by decide), gw_ne (by decide)]; exact h3.1
    · rw [gw_ne (by decide), gw_ne (by decide)]; exact h3.2 i hi
  · rw [gw_nj (by decide), gw_self]
  · rw [gw_self]
  · intro k k0 k7 k8 k9 k10 k17 k18
    rw [gw_ne k0, gw_ne k0, h4 k k17 k18, h2 k k7 k8 k9 k10]
  · intro j j1 j2
    rw [gw_nj j2, gw_nj j1, h4 0 (by decide) (by decide), h2 0 (by decide) (by decide) (by decide) (by decide)]
  · intro j hj
    rw [gw_ne (by decide), gw_ne (by decide), h5 j hj, h2 17 (by decide) (by decide) (by decide) (by decide)]
