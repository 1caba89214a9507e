def rdE (f : Nat → Int32) (N : Nat) (σ : gw_S) : Prop := ∀ b, b < N → σ 142 b = pV f b ∧ σ 143 b = pM f b ∧ σ 144 b = pC f b ∧ σ 145 b = bi (f (6 * b + 4) = 115)
theorem gd_le {f : Nat → Int32} {n m : Nat} : gd f n m ≤ 5 := by
  unfold gd
  repeat' split
  all_goals omega
/-- all good below, the next one bad or beyond the end -/
theorem gd_spec {f : Nat → Int32} {n m : Nat} : (∀ j, j < gd f n m → 6 * m + j < n ∧ okAt f (6 * m + j) = true) ∧ (gd f n m < 5 → ¬ (6 * m + gd f n m < n ∧ okAt f (6 * m + gd f n m) = true)) := by
  by_cases h0 : 6 * m < n ∧ okAt f (6 * m) = true
  · by_cases h1 : 6 * m + 1 < n ∧ okAt f (6 * m + 1) = true
    · by_cases h2 : 6 * m + 2 < n ∧ okAt f (6 * m + 2) = true
      · by_cases h3 : 6 * m + 3 < n ∧ okAt f (6 * m + 3) = true
        · by_cases h4 : 6 * m + 4 < n ∧ okAt f (6 * m + 4) = true
          · have e : gd f n m = 5 := by
              unfold gd
              rw [if_neg (not_not_intro h0), if_neg (not_not_intro h1), if_neg (not_not_intro h2), if_neg (not_not_intro h3), if_neg (not_not_intro h4)]
            rw [e]
            refine ⟨fun j hj => ?_, fun h => absurd h (by omega)⟩
            rcases (show j = 0 ∨ j = 1 ∨ j = 2 ∨ j = 3 ∨ j = 4 by omega) with rfl | rfl | rfl | rfl | rfl
            · exact h0
            · exact h1
            · exact h2
            · exact h3
            · exact h4
          · have e : gd f n m = 4 := by
              unfold gd
              rw [if_neg (not_not_intro h0), if_neg (not_not_intro h1), if_neg (not_not_intro h2), if_neg (not_not_intro h3), if_pos h4]
            rw [e]
            refine ⟨fun j hj => ?_, fun _ => h4⟩
            rcases (show j = 0 ∨ j = 1 ∨ j = 2 ∨ j = 3 by omega) with rfl | rfl | rfl | rfl
            · exact h0
            · exact h1
            · exact h2
            · exact h3
        · have e : gd f n m = 3 := by
            unfold gd
            rw [if_neg (not_not_intro h0), if_neg (not_not_intro h1), if_neg (not_not_intro h2), if_pos h3]
          rw [e]
          refine ⟨fun j hj => ?_, fun _ => h3⟩
          rcases (show j = 0 ∨ j = 1 ∨ j = 2 by omega) with rfl | rfl | rfl
          · exact h0
          · exact h1
          · exact h2
      · have e : gd f n m = 2 := by
          unfold gd
          rw [if_neg (not_not_intro h0), if_neg (not_not_intro h1), if_pos h2]
        rw [e]
        refine ⟨fun j hj => ?_, fun _ => h2⟩
        rcases (show j = 0 ∨ j = 1 by omega) with rfl | rfl
        · exact h0
        · exact h1
    · have e : gd f n m = 1 := by
        unfold gd
        rw [if_neg (not_not_intro h0), if_pos h1]
      rw [e]
      refine ⟨fun j hj => ?_, fun _ => h1⟩
      rw [show j = 0 by omega]
      exact h0
  · have e : gd f n m = 0 := by
      unfold gd
      rw [if_pos h0]
    rw [e]
    exact ⟨fun j hj => absurd hj (by omega), fun _ => h0⟩
theorem rdB_e {f : Nat → Int32} {σ : gw_S} {m : Nat} (h : rdE f m σ) : rdE f (m + 1) (rdB f σ m) := by
  intro b hb
  unfold rdB
  simp only [gw_at]
  by_cases e : b = m
  · subst e
    simp
  · have := h b (by omega)
    simp [e, this]
theorem rdB_f {f : Nat → Int32} {σ : gw_S} {m k : Nat} (h2 : k ≠ 142) (h3 : k ≠ 143) (h4 : k ≠ 144) (h5 : k ≠ 145) : rdB f σ m k = σ k := by
  unfold rdB
  rw [gw_ne h5, gw_ne h4, gw_ne h3, gw_ne h2]
theorem l_readsB {d n : Nat} {f : Nat → Int32} (hn : n ≤ 47) : ∀ q m (σ σ0 : gw_S), m + q = 8 → 6 * m ≤ n → (∀ j, j < 6 * m → okAt f j = true) → σ 140 0 = nI n → σ 141 = f → rdE f m σ → σ 1 2 = 0 → (∀ k, k ≠ 1 → k ≠ 142 → k ≠ 143 → k ≠ 144 → k ≠ 145 → σ k = σ0 k) → (∀ j, j ≠ 2 → σ 1 j = σ0 1 j) →
    gG (d + 1 + 1) mX9_readsBottles 9 [some (.ref 1), some (.int (nI m)), some (.int (nI (6 * m))), none] [] σ (fun v σ' => v = some (.int (fauB f n)) ∧ σ' 1 2 = nI (nBo f n) ∧ rdE f (nBo f n) σ' ∧ (∀ k, k ≠ 1 → k ≠ 142 → k ≠ 143 → k ≠ 144 → k ≠ 145 → σ' k = σ0 k) ∧ ∀ j, j ≠ 2 → σ' 1 j = σ0 1 j) := by
  intro q
  induction q with
  | zero => intro m σ σ0 hm h6; omega
  | succ q ih =>
    intro m σ σ0 hm h6 hok hs hf he h12 hfr hj
    have c0 : (0 : Int32).toNatClampNeg = 0 := rfl
    have m8 : ¬ nI m = 8 := fun e => by
      have := (nI_eq (b := 8) (by omega) (by decide)).mp e
      omega
    -- what comes behind readsBottle
    have after : gB (d + 1) mX9_readsBottle [.ref 1, .int (nI m), .int (nI (6 * m))] σ (fun v σ1 => ∃ r2 : Int32, v = some (.int r2) ∧ gG (d + 1 + 1) mX9_readsBottles 39 [some (.ref 1), some (.int (nI m)), some (.int (nI (6 * m))), none] [.int r2] σ1 (fun v σ' => v = some (.int (fauB f n)) ∧ σ' 1 2 = nI (nBo f n) ∧ rdE f (nBo f n) σ' ∧ (∀ k, k ≠ 1 → k ≠ 142 → k ≠ 143 → k ≠ 144 → k ≠ 145 → σ' k = σ0 k) ∧ ∀ j, j ≠ 2 → σ' 1 j = σ0 1 j)) ∨ (m = 0 ∧ n = 0) := by
      by_cases hz : m = 0 ∧ n = 0
      · exact Or.inr hz
      refine Or.inl ((s_readsBottle (by omega) hn hs).mono ?_)
      rw [hf]
      rintro v σ1 ⟨rfl, k1, k2⟩
      have hg := gd_spec (f := f) (n := n) (m := m)
      have hgl := gd_le (f := f) (n := n) (m := m)
      generalize hgd : gd f n m = g at k1 k2 hg hgl ⊢
      refine ⟨_, rfl, bX9_readsBottles_39 ?_⟩
      rw [c0]
      refine ⟨fun c => ?_, fun c => ?_⟩
      · -- five good
        have g5 : g = 5 := by
          rcases Nat.lt_or_ge g 5 with h | h
          · exact absurd c (nI_ge (b := 5) h (by decide))
          · omega
        subst g5
        have h4 := hg.1 4 (by omega)
        have all : ∀ j, j < 6 * m + 5 → okAt f j = true := by
          intro j hj'
          by_cases h : j < 6 * m
          · exact hok j h
          · have := (hg.1 (j - 6 * m) (by omega)).2
            rw [show 6 * m + (j - 6 * m) = j by omega] at this
            exact this
        have e1 := k2 rfl
        have x5 : nI (6 * m) + 5 = nI (6 * m + 5) := nI_add _ 5
        have s140 : σ1 140 = σ 140 := by rw [e1, rdB_f (by decide) (by decide) (by decide) (by decide)]
        have s141 : σ1 141 = f := by rw [e1, rdB_f (by decide) (by decide) (by decide) (by decide), hf]
        have s1 : σ1 1 = σ 1 := by rw [e1, rdB_f (by decide) (by decide) (by decide) (by decide)]
        have fr1 : ∀ k, k ≠ 1 → k ≠ 142 → k ≠ 143 → k ≠ 144 → k ≠ 145 → σ1 k = σ0 k := fun k a1 a2 a3 a4 a5 => by
          rw [e1, rdB_f a2 a3 a4 a5]; exact hfr k a1 a2 a3 a4 a5
        have ent : rdE f (m + 1) σ1 := by rw [e1]; exact rdB_e he
        rw [x5, s140, s141, hs]
        refine ⟨fun c2 => ⟨vp_in_nI (by omega) (by decide), ?_⟩, fun c2 s6 q6 => ?_⟩
        · have hlt : 6 * m + 5 < n := by
            rcases Nat.lt_or_ge (6 * m + 5) n with h | h
            · exact h
            · exact absurd (by rw [show 6 * m + 5 = n by omega]) c2
          rw [i_cl (show 6 * m + 5 < 2 ^ 31 by omega)]
          refine ⟨fun c3 => ?_, fun c3 => ?_⟩
          · rw [nI_1, nI_1]
            refine ih (m + 1) σ1 σ0 (by omega) (by omega) ?_ (by rw [s140]; exact hs) s141 ent (by rw [s1]; exact h12) fr1 (fun j a => by rw [s1]; exact hj j a)
            intro j hj'
            by_cases h : j < 6 * m + 5
            · exact all j h
            · rw [show j = 6 * m + 5 by omega, okAt5]
              exact c3
          · have hb : okAt f (6 * m + 5) = false := by
              rw [← Bool.not_eq_true, okAt5]
              exact c3
            have hfa := fauB_bad hlt all hb
            have hN : nBo f n = 0 := by
              unfold nBo
              rw [hfa, if_neg (nI_ne_m1 (by omega))]
            rw [hfa, hN]
            exact ⟨rfl, by rw [s1]; exact h12, fun b hb => absurd hb (by omega), fr1, fun j a => by rw [s1]; exact hj j a⟩
        · have hnn : 6 * m + 5 = n := (nI_eq (by omega) (by omega)).mp c2
          have hfa : fauB f n = -1 := by
            rw [fauB_end (fun j hj' => all j (by omega)), if_pos (Or.inr (by omega))]
          have hN : nBo f n = m + 1 := by
            unfold nBo
            rw [if_pos hfa]
            omega
          rw [hfa, hN, q6]
          refine ⟨rfl, by rw [gw_self, nI_1], ?_, ?_, ?_⟩
          · intro b hb
            rw [gw_ne (by decide), gw_ne (by decide), gw_ne (by decide), gw_ne (by decide)]
            exact ent b hb
          · intro k a1 a2 a3 a4 a5
            rw [gw_ne a1]
            exact fr1 k a1 a2 a3 a4 a5
          · intro j a
            rw [gw_nj a, s1]
            exact hj j a
      · -- fewer
        have g5 : g < 5 := by
          rcases Nat.lt_or_ge g 5 with h | h
          · exact h
          · exact absurd (nI_le (a := 5) h (by omega)) c
        have e1 := k1 g5
        subst e1
        have hb := hg.2 g5
        have all : ∀ j, j < 6 * m + g → okAt f j = true := by
          intro j hj'
          by_cases h : j < 6 * m
          · exact hok j h
          · have := (hg.1 (j - 6 * m) (by omega)).2
            rw [show 6 * m + (j - 6 * m) = j by omega] at this
            exact this
        have hle : 6 * m + g ≤ n := by
          rcases Nat.eq_zero_or_pos g with h | h
          · omega
          · have := (hg.1 (g - 1) (by omega)).1
            omega
        have hfa : fauB f n = nI (6 * m + g) := by
          by_cases hlt : 6 * m + g < n
          · refine fauB_bad hlt all ?_
            rw [← Bool.not_eq_true]
            exact fun q => hb ⟨hlt, q⟩
          · have hnn : n = 6 * m + g := by omega
            rw [fauB_end (fun j hj' => all j (by omega)), if_neg (by omega), hnn]
        have hN : nBo f n = 0 := by
          unfold nBo
          rw [hfa, if_neg (nI_ne_m1 (by omega))]
        rw [nI_add, hfa, hN]
        exact ⟨rfl, h12, fun b hb => absurd hb (by omega), hfr, hj⟩
    refine bX9_readsBottles_9 ?_
    rw [c0, hs]
    rcases after with after | ⟨rfl, rfl⟩
    · refine ⟨fun c => ⟨fun _ => after, fun c2 => absurd c2 m8⟩, fun c => ⟨fun c2 => ?_, fun c2 => ⟨fun _ => after, fun c3 => absurd c3 m8⟩⟩⟩
      -- at = 0 and nothing typed
      have hm0 : m = 0 := by
        rcases Nat.eq_zero_or_pos m with h | h
        · exact h
        · exact absurd c2 (nI_ge (a := 0) (b := 6 * m) (by omega) (by omega))
      subst hm0
      have hn0 : n = 0 := by
        rcases Nat.eq_zero_or_pos n with h | h
        · exact h
        · exact absurd (nI_lt (a := 6 * 0) (b := n) (by omega) (by omega)) c
      subst hn0
      have hfa : fauB f 0 = -1 := rfl
      have hN : nBo f 0 = 0 := rfl
      rw [hfa, hN]
      exact ⟨rfl, h12, fun b hb => absurd hb (by omega), hfr, hj⟩
    · have hfa : fauB f 0 = -1 := rfl
      have hN : nBo f 0 = 0 := rfl
      rw [hfa, hN]
      refine ⟨fun c => absurd c (nI_nlt (a := 6 * 0) (b := 0) (by omega) (by omega)), fun c => ⟨fun c2 => ⟨rfl, h12, fun b hb => absurd hb (by omega), hfr, hj⟩, fun c2 => absurd (nI_le (a := 6 * 0) (b := 0) (by omega) (by omega)) c2⟩⟩
theorem s_readsB {d n : Nat} {σ : gw_S} (hn : n ≤ 47) (hs : σ 140 0 = nI n) : gB (d + 2) mX9_readsBottles [.ref 1] σ (fun v σ' => v = some (.int (fauB (σ 141) n)) ∧ σ' 1 2 = nI (nBo (σ 141) n) ∧ rdE (σ 141) (nBo (σ 141) n) σ' ∧ (∀ k, k ≠ 1 → k ≠ 142 → k ≠ 143 → k ≠ 144 → k ≠ 145 → σ' k = σ k) ∧ ∀ j, j ≠ 2 → σ' 1 j = σ 1 j) := by
  refine eX9_readsBottles (fun s1 q1 => ?_)
  exact l_readsB (d := d) (n := n) (f := σ 141) hn 8 0 s1 σ rfl (by omega) (fun j hj => by omega) (by rw [q1, gw_ne (by decide)]; exact hs) (by rw [q1, gw_ne (by decide)]) (fun b hb => by omega) (by rw [q1, gw_self]) (fun k a1 _ _ _ _ => by rw [q1, gw_ne a1]) (fun j a => by rw [q1, gw_nj a])
theorem l_readsS {d n : Nat} {g : Nat → Int32} (hn : n ≤ 8) : ∀ q i (σ σ0 : gw_S), i + q = n → (∀ j, j < i → okL (g j)) → σ 140 1 = nI n → (∀ j, j < 47 → σ 141 (47 + j) = g j) → (∀ j, j < i → σ 146 j = g j - 97) → σ 1 7 = 0 → (∀ k, k ≠ 1 → k ≠ 146 → σ k = σ0 k) → (∀ j, j ≠ 7 → σ 1 j = σ0 1 j) →
    gG (d + 1) mX9_readsSong 7 [some (.ref 1), some (.int (nI i)), none] [] σ (fun v σ' => v = some (.int (if fsF g q i < n then nI (fsF g q i) else -1)) ∧ σ' 1 7 = nI (if fsF g q i < n then 0 else n) ∧ (¬ fsF g q i < n → ∀ j, j < n → σ' 146 j = g j - 97) ∧ (∀ k, k ≠ 1 → k ≠ 146 → σ' k = σ0 k) ∧ ∀ j, j ≠ 7 → σ' 1 j = σ0 1 j) := by
  intro q
  have c1 : (1 : Int32).toNatClampNeg = 1 := rfl
  induction q with
  | zero =>
    intro i σ σ0 hi hok hs hg he h7 hfr hj
    have : i = n := by omega
    subst this
    refine bX9_readsSong_7 ?_
    rw [c1, hs]
    refine ⟨fun _ s2 q2 => ?_, fun c => absurd (nI_le (Nat.le_refl _) (by omega)) c⟩
    unfold fsF
    rw [if_neg (by omega), if_neg (by omega), q2]
    refine ⟨rfl, gw_self, fun _ j hj' => by rw [gw_ne (by decide)]; exact he j hj', fun k a1 a2 => by rw [gw_ne a1]; exact hfr k a1 a2, fun j a => by rw [gw_nj a]; exact hj j a⟩
  | succ q ih =>
    intro i σ σ0 hi hok hs hg he h7 hfr hj
    refine bX9_readsSong_7 ?_
    rw [c1, hs]
    refine ⟨fun c => absurd c (nI_ge (by omega) (by omega)), fun _ => ?_⟩
    have hb := s_byteAt (d := d) (n := n) (t := 1) (k := i) (σ := σ) (Or.inr ⟨rfl, hs, hn, by omega⟩)
    rw [c1, if_pos (show i < n by omega), hg i (by omega)] at hb
    refine gB_det hb ⟨_, rfl, gB_det s_in ⟨_, rfl, br_bi (fun c => ⟨vp_in_nI (by omega) (by decide), fun s7 q7 => ?_⟩) (fun c => ?_)⟩⟩
    · rw [i_cl (show i < 2 ^ 31 by omega)] at q7
      rw [nI_1]
      unfold fsF
      rw [if_pos c]
      refine ih (i + 1) s7 σ0 (by omega) ?_ (by rw [q7, gw_ne (by decide)]; exact hs) (by rw [q7, gw_ne (by decide)]; exact hg) ?_ (by rw [q7, gw_ne (by decide)]; exact h7) (fun k a1 a2 => by rw [q7, gw_ne a2]; exact hfr k a1 a2) (fun j a => by rw [q7, gw_ne (by decide)]; exact hj j a)
      · intro j hj'
        by_cases e : j = i
        · subst e; exact c
        · exact hok j (by omega)
      · intro j hj'
        rw [q7, gw_at]
        by_cases e : j = i
        · subst e; simp
        · simp [e, he j (by omega)]
    · unfold fsF
      rw [if_neg c, if_pos (by omega), if_pos (by omega)]
      exact ⟨rfl, h7, fun h => absurd (by omega) h, hfr, hj⟩
theorem s_readsS {d n : Nat} {g : Nat → Int32} {σ : gw_S} (hn : n ≤ 8) (hs : σ 140 1 = nI n) (hg : ∀ j, j < 47 → σ 141 (47 + j) = g j) : gB (d + 1) mX9_readsSong [.ref 1] σ (fun v σ' => v = some (.int (fauS g n)) ∧ σ' 1 7 = nI (nLe g n) ∧ (∀ j, j < nLe g n → σ' 146 j = g j - 97) ∧ (∀ k, k ≠ 1 → k ≠ 146 → σ' k = σ k) ∧ ∀ j, j ≠ 7 → σ' 1 j = σ 1 j) := by
  refine eX9_readsSong (fun s1 q1 => ?_)
  refine (l_readsS (d := d) (n := n) (g := g) hn n 0 s1 σ (by omega) (fun j hj => by omega) (by rw [q1, gw_ne (by decide)]; exact hs) (by rw [q1, gw_ne (by decide)]; exact hg) (fun j hj => by omega) (by rw [q1, gw_self]) (fun k a1 _ => by rw [q1, gw_ne a1]) (fun j a => by rw [q1, gw_nj a])).mono ?_
  rintro v σ' ⟨rfl, h1, h2, h3, h4⟩
  refine ⟨rfl, ?_, ?_, h3, h4⟩
  · rw [h1]
    unfold nLe fauS
    by_cases h : fsF g n 0 < n
    · rw [if_pos h, if_pos h, if_neg (nI_ne_m1 (by omega))]
    · rw [if_neg h, if_neg h, if_pos rfl]
  · intro j hj
    have : ¬ fsF g n 0 < n := by
      intro h
      unfold nLe fauS at hj
      rw [if_pos h, if_neg (nI_ne_m1 (by omega))] at hj
      omega
    exact h2 this j (by have := nLe_le (g := g) (m := n); omega)
/-- the model's rows hold what the texts say -/
def PM (f g : Nat → Int32) (n m : Nat) (σ : gw_S) : Prop := σ 1 2 = nI (nBo f n) ∧ rdE f (nBo f n) σ ∧ σ 1 7 = nI (nLe g m) ∧ ∀ i, i < nLe g m → σ 146 i = g i - 97
def FRd (σ σ' : gw_S) : Prop := (∀ k, k ≠ 1 → k ≠ 142 → k ≠ 143 → k ≠ 144 → k ≠ 145 → k ≠ 146 → σ' k = σ k) ∧ ∀ j, j ≠ 2 → j ≠ 7 → σ' 1 j = σ 1 j
theorem s_faultOf {d n m : Nat} {f g : Nat → Int32} {t : Int32} {σ : gw_S} (hn : n ≤ 47) (hs : σ 140 0 = nI n) (hm : m ≤ 8) (hs1 : σ 140 1 = nI m) (hf : σ 141 = f) (hg : ∀ j, j < 47 → f (47 + j) = g j) : gB (d + 3) mX9_faultOf [.ref 1, .int t] σ (fun v σ' => v = some (.int (if t = 0 then fauB f n else fauS g m)) ∧ PM f g n m σ' ∧ FRd σ σ') := by
  subst hf
  refine eX9_faultOf ((s_readsB hn hs).mono ?_)
  rintro v σ1 ⟨rfl, h1, h2, h3, h4⟩
  refine ⟨_, rfl, (s_readsS (d := d + 1) (g := g) hm (by rw [h3 140 (by decide) (by decide) (by decide) (by decide) (by decide)]; exact hs1) (by rw [h3 141 (by decide) (by decide) (by decide) (by decide) (by decide)]; exact hg)).mono ?_⟩
  rintro v σ2 ⟨rfl, g1, g2, g3, g4⟩
  have hP : PM (σ 141) g n m σ2 := by
    refine ⟨by rw [g4 2 (by decide)]; exact h1, fun b hb => ?_, g1, g2⟩
    rw [g3 142 (by decide) (by decide), g3 143 (by decide) (by decide), g3 144 (by decide) (by decide), g3 145 (by decide) (by decide)]
    exact h2 b hb
  have hF : FRd σ σ2 := ⟨fun k a1 a2 a3 a4 a5 a6 => by rw [g3 k a1 a6, h3 k a1 a2 a3 a4 a5], fun j b1 b2 => by rw [g4 j b2, h4 j b1]⟩
  exact ⟨_, rfl, fun c => ⟨by rw [if_neg c], hP, hF⟩, fun c => ⟨by rw [if_pos c], hP, hF⟩⟩
theorem s_reads {d n m : Nat} {f g : Nat → Int32} {σ : gw_S} (hn : n ≤ 47) (hs : σ 140 0 = nI n) (hm : m ≤ 8) (hs1 : σ 140 1 = nI m) (hf : σ 141 = f) (hg : ∀ j, j < 47 → f (47 + j) = g j) : gB (d + 4) mX9_reads [.ref 1] σ (fun v σ' => v = none ∧ PM f g n m σ' ∧ FRd σ σ') := by
  refine eX9_reads ((s_faultOf hn hs hm hs1 hf hg).mono ?_)
  rintro v σ1 ⟨rfl, h1, h2⟩
  exact ⟨_, rfl, rfl, h1, h2⟩
