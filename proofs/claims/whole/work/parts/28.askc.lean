theorem FB.rf {σ : gw_S} : FB σ σ := ⟨fun _ _ _ => rfl, fun _ _ => rfl⟩
theorem FB.tr {σ σ1 σ2 : gw_S} (h : FB σ σ1) (h2 : FB σ1 σ2) : FB σ σ2 := ⟨fun m a b => (h2.1 m a b).trans (h.1 m a b), fun j hj => (h2.2 j hj).trans (h.2 j hj)⟩
/-- an answer of the class that changes nothing told -/
def QC (τ σ : gw_S) (A : Int32) : Option Value → gw_S → Prop := fun v σ' => v = some (.int A) ∧ CN τ σ' ∧ FB σ σ'
abbrev soT (τ : gw_S) : Nat → Bool := fun b => pS (f0 τ) (swp (-1) (-1) b)
theorem CN.of {τ σ : gw_S} {D : Nat} (hD : D < 40) (h12 : σ 36 12 = nI D) (hr : Rp (NB τ) (soT τ) (simT τ (D + 1)) (vw 36 σ)) : CN τ σ := fun _ => ⟨D + 1, by omega, by rw [h12, nI_1], hr⟩
def A_holds (τ : gw_S) (day b v : Int32) : Int32 := if okD day ∧ okB τ b ∧ (v = -1 ∨ okE v) then aHolds τ day.toNatClampNeg b.toNatClampNeg v else -2
theorem c_holds {d : Nat} {day b v : Int32} {τ σ : gw_S} (hw : WF τ) (h : TC τ σ) (hc : CN τ σ) : gB (d + 5) mX8_holds [.ref 0, .int day, .int b, .int v] σ (QC τ σ (A_holds τ day b v)) := by
  have e74 : σ 7 4 = nI (NB τ) := h.1.2.2.2.2.2.2.1.1
  have bad : ¬ (okD day ∧ okB τ b ∧ (v = -1 ∨ okE v)) → QC τ σ (A_holds τ day b v) (some (.int (-2))) σ := fun c => by rw [A_holds, if_neg c]; exact ⟨rfl, hc, FB.rf⟩
  refine eX8_holds (gB_det s_isWithin ⟨_, rfl, br_bj (fun h1 => ?_) (fun h1 => bad (fun q => h1 q.1))⟩)
  refine gB_det s_isBottleC ?_
  rw [e74]
  refine ⟨_, rfl, br_bj (fun h2 => ?_) (fun h2 => bad (fun q => h2 q.2.1))⟩
  obtain ⟨D, hD, rfl⟩ := okD_n h1
  obtain ⟨B, hB, rfl⟩ := okB_n hw h2
  have hn := NB_le hw
  have go : (v = -1 ∨ okE v) → gB (d + 4) mX8_behind [.ref 0, .int (nI D)] σ (fun r σ5 => r = some (.ref 36) ∧ (¬ v = -1 → gB (d + 4) mX3_muchOf [.ref 36, .int (nI B), .int v] σ5 (fun r σ6 => ∃ r7 : Int32, r = some (.int r7) ∧ QC τ σ (A_holds τ (nI D) (nI B) v) (some (.int r7)) σ6)) ∧ (v = -1 → gB (d + 4) mX3_allIn [.ref 36, .int (nI B)] σ5 (fun r σ8 => ∃ r9 : Int32, r = some (.int r9) ∧ QC τ σ (A_holds τ (nI D) (nI B) v) (some (.int r9)) σ8))) := by
    intro hv
    have eA : A_holds τ (nI D) (nI B) v = aHolds τ D B v := by rw [A_holds, if_pos ⟨h1, h2, hv⟩, i_cl (show D < 2 ^ 31 by omega), i_cl (show B < 2 ^ 31 by omega)]
    refine (s_behind hw h hc hD).mono ?_
    rintro r σ5 ⟨rfl, g1, g2, g3, g4⟩
    have hq := CN.of hD g2 g3
    refine ⟨rfl, fun c => ?_, fun c => gB_det (s_allIn st_now g3 hB) ⟨_, rfl, ?_, hq, g4⟩⟩
    · obtain ⟨u, hu, rfl⟩ := okE_n (hv.resolve_left c)
      refine gB_det (s_muchOf st_now g3 hB hu) ⟨_, rfl, ?_, hq, g4⟩
      rw [eA, aHolds, if_neg c, i_cl (show u < 2 ^ 31 by omega)]
    · rw [eA, aHolds, if_pos c]
  exact ⟨fun c => go (Or.inl c), fun c => gB_det s_isWithin ⟨_, rfl, br_bi (fun h3 => go (Or.inr h3)) (fun h3 => bad (fun q => q.2.2.elim c h3))⟩⟩
def A_who (τ : gw_S) (day b : Int32) : Int32 := if okD day ∧ okB τ b then simT τ (day.toNatClampNeg + 1) 1 b.toNatClampNeg else -2
theorem c_who {d : Nat} {day b : Int32} {τ σ : gw_S} (hw : WF τ) (h : TC τ σ) (hc : CN τ σ) : gB (d + 5) mX8_who [.ref 0, .int day, .int b] σ (QC τ σ (A_who τ day b)) := by
  have e74 : σ 7 4 = nI (NB τ) := h.1.2.2.2.2.2.2.1.1
  have bad : ¬ (okD day ∧ okB τ b) → QC τ σ (A_who τ day b) (some (.int (-2))) σ := fun c => by rw [A_who, if_neg c]; exact ⟨rfl, hc, FB.rf⟩
  refine eX8_who (gB_det s_isWithin ⟨_, rfl, br_bj (fun h1 => ?_) (fun h1 => bad (fun q => h1 q.1))⟩)
  refine gB_det s_isBottleC ?_
  rw [e74]
  refine ⟨_, rfl, br_bi (fun h2 => ?_) (fun h2 => bad (fun q => h2 q.2))⟩
  obtain ⟨D, hD, rfl⟩ := okD_n h1
  obtain ⟨B, hB, rfl⟩ := okB_n hw h2
  have hn := NB_le hw
  refine (s_behind hw h hc hD).mono ?_
  rintro r σ5 ⟨rfl, g1, g2, g3, g4⟩
  refine ⟨rfl, vp_in_nI (by omega) (by decide), ?_, CN.of hD g2 g3, g4⟩
  rw [A_who, if_pos ⟨h1, h2⟩, i_cl (show D < 2 ^ 31 by omega), i_cl (show B < 2 ^ 31 by omega), ← (g3.2.2.2.2.1.1 B hB).1]
  rfl
def A_whole (τ : gw_S) (day b : Int32) : Int32 := if okD day ∧ okB τ b then bi (¬ simT τ (day.toNatClampNeg + 1) 3 b.toNatClampNeg = 0) else -2
theorem c_whole {d : Nat} {day b : Int32} {τ σ : gw_S} (hw : WF τ) (h : TC τ σ) (hc : CN τ σ) : gB (d + 5) mX8_whole [.ref 0, .int day, .int b] σ (QC τ σ (A_whole τ day b)) := by
  have e74 : σ 7 4 = nI (NB τ) := h.1.2.2.2.2.2.2.1.1
  have bad : ¬ (okD day ∧ okB τ b) → QC τ σ (A_whole τ day b) (some (.int (-2))) σ := fun c => by rw [A_whole, if_neg c]; exact ⟨rfl, hc, FB.rf⟩
  refine eX8_whole (gB_det s_isWithin ⟨_, rfl, br_bj (fun h1 => ?_) (fun h1 => bad (fun q => h1 q.1))⟩)
  refine gB_det s_isBottleC ?_
  rw [e74]
  refine ⟨_, rfl, br_bi (fun h2 => ?_) (fun h2 => bad (fun q => h2 q.2))⟩
  obtain ⟨D, hD, rfl⟩ := okD_n h1
  obtain ⟨B, hB, rfl⟩ := okB_n hw h2
  have hn := NB_le hw
  refine (s_behind hw h hc hD).mono ?_
  rintro r σ5 ⟨rfl, g1, g2, g3, g4⟩
  have eA : A_whole τ (nI D) (nI B) = bi (¬ simT τ (D + 1) 3 B = 0) := by rw [A_whole, if_pos ⟨h1, h2⟩, i_cl (show D < 2 ^ 31 by omega), i_cl (show B < 2 ^ 31 by omega)]
  refine ⟨rfl, gB_det (s_isWholeC st_now g3 (by omega)) ⟨_, rfl, br_bj (fun z => ⟨?_, CN.of hD g2 g3, g4⟩) (fun z => ⟨?_, CN.of hD g2 g3, g4⟩)⟩⟩
  · rw [eA, bi_t z.2]
  · rw [eA, bi_f (fun q => z ⟨hB, q⟩)]
abbrev okO (x : Int32) : Prop := 0 ≤ x ∧ x < 6
def A_has (τ : gw_S) (day o : Int32) : Int32 := if okD day ∧ okO o then aHas (simT τ (day.toNatClampNeg + 1)) (NB τ) o else -2
theorem c_has {d : Nat} {day o : Int32} {τ σ : gw_S} (hw : WF τ) (h : TC τ σ) (hc : CN τ σ) : gB (d + 5) mX8_has [.ref 0, .int day, .int o] σ (QC τ σ (A_has τ day o)) := by
  have bad : ¬ (okD day ∧ okO o) → QC τ σ (A_has τ day o) (some (.int (-2))) σ := fun c => by rw [A_has, if_neg c]; exact ⟨rfl, hc, FB.rf⟩
  refine eX8_has (gB_det s_isWithin ⟨_, rfl, br_bj (fun h1 => ?_) (fun h1 => bad (fun q => h1 q.1))⟩)
  refine gB_det s_isWithin ⟨_, rfl, br_bi (fun h2 => ?_) (fun h2 => bad (fun q => h2 q.2))⟩
  obtain ⟨D, hD, rfl⟩ := okD_n h1
  refine (s_behind hw h hc hD).mono ?_
  rintro r σ5 ⟨rfl, g1, g2, g3, g4⟩
  refine ⟨rfl, gB_det (s_voicesWith st_now g3) ⟨_, rfl, ?_, CN.of hD g2 g3, g4⟩⟩
  have : ¬ o = -1 := fun e => by rw [e] at h2; exact absurd h2.1 (by decide)
  rw [if_neg this, A_has, if_pos ⟨h1, h2⟩, i_cl (show D < 2 ^ 31 by omega)]
def A_heard (τ : gw_S) (day v : Int32) : Int32 := if okD day ∧ okE v then simT τ (day.toNatClampNeg + 1) 4 v.toNatClampNeg else -2
theorem c_heard {d : Nat} {day v : Int32} {τ σ : gw_S} (hw : WF τ) (h : TC τ σ) (hc : CN τ σ) : gB (d + 5) mX8_heard [.ref 0, .int day, .int v] σ (QC τ σ (A_heard τ day v)) := by
  have bad : ¬ (okD day ∧ okE v) → QC τ σ (A_heard τ day v) (some (.int (-2))) σ := fun c => by rw [A_heard, if_neg c]; exact ⟨rfl, hc, FB.rf⟩
  refine eX8_heard (gB_det s_isWithin ⟨_, rfl, br_bj (fun h1 => ?_) (fun h1 => bad (fun q => h1 q.1))⟩)
  refine gB_det s_isWithin ⟨_, rfl, br_bi (fun h2 => ?_) (fun h2 => bad (fun q => h2 q.2))⟩
  obtain ⟨D, hD, rfl⟩ := okD_n h1
  obtain ⟨u, hu, rfl⟩ := okE_n h2
  refine (s_behind hw h hc hD).mono ?_
  rintro r σ5 ⟨rfl, g1, g2, g3, g4⟩
  refine ⟨rfl, vp_in_nI hu (by decide), ?_, CN.of hD g2 g3, g4⟩
  rw [A_heard, if_pos ⟨h1, h2⟩, i_cl (show D < 2 ^ 31 by omega), i_cl (show u < 2 ^ 31 by omega), ← (g3.2.2.2.2.1.2.1 u hu).1]
  rfl
def A_spilled (τ : gw_S) (day v : Int32) : Int32 := if okD day ∧ okE v then simT τ (day.toNatClampNeg + 1) 5 v.toNatClampNeg else -2
theorem c_spilled {d : Nat} {day v : Int32} {τ σ : gw_S} (hw : WF τ) (h : TC τ σ) (hc : CN τ σ) : gB (d + 5) mX8_spilled [.ref 0, .int day, .int v] σ (QC τ σ (A_spilled τ day v)) := by
  have bad : ¬ (okD day ∧ okE v) → QC τ σ (A_spilled τ day v) (some (.int (-2))) σ := fun c => by rw [A_spilled, if_neg c]; exact ⟨rfl, hc, FB.rf⟩
  refine eX8_spilled (gB_det s_isWithin ⟨_, rfl, br_bj (fun h1 => ?_) (fun h1 => bad (fun q => h1 q.1))⟩)
  refine gB_det s_isWithin ⟨_, rfl, br_bi (fun h2 => ?_) (fun h2 => bad (fun q => h2 q.2))⟩
  obtain ⟨D, hD, rfl⟩ := okD_n h1
  obtain ⟨u, hu, rfl⟩ := okE_n h2
  refine (s_behind hw h hc hD).mono ?_
  rintro r σ5 ⟨rfl, g1, g2, g3, g4⟩
  refine ⟨rfl, vp_in_nI hu (by decide), ?_, CN.of hD g2 g3, g4⟩
  rw [A_spilled, if_pos ⟨h1, h2⟩, i_cl (show D < 2 ^ 31 by omega), i_cl (show u < 2 ^ 31 by omega), ← (g3.2.2.2.2.1.2.1 u hu).2]
  rfl
def A_leaked (τ : gw_S) (day : Int32) : Int32 := if okD day then simT τ (day.toNatClampNeg + 1) 6 0 else -2
theorem c_leaked {d : Nat} {day : Int32} {τ σ : gw_S} (hw : WF τ) (h : TC τ σ) (hc : CN τ σ) : gB (d + 5) mX8_leaked [.ref 0, .int day] σ (QC τ σ (A_leaked τ day)) := by
  refine eX8_leaked (gB_det s_isWithin ⟨_, rfl, br_bi (fun h1 => ?_) (fun h1 => by rw [A_leaked, if_neg h1]; exact ⟨rfl, hc, FB.rf⟩)⟩)
  obtain ⟨D, hD, rfl⟩ := okD_n h1
  refine (s_behind hw h hc hD).mono ?_
  rintro r σ5 ⟨rfl, g1, g2, g3, g4⟩
  refine ⟨rfl, ?_, CN.of hD g2 g3, g4⟩
  rw [A_leaked, if_pos h1, i_cl (show D < 2 ^ 31 by omega), ← g3.2.2.2.2.1.2.2.1]
  rfl
theorem s_voicesC {d : Nat} {τ σ : gw_S} (hw : WF τ) (h : SC (f0 τ) (n0 τ) σ) : gB d mX4_voices [.ref 7] σ (fun v σ' => v = some (.int (aEver (f0 τ) (NB τ))) ∧ σ' = σ) := by
  have hn := NB_le hw
  have key : ∀ m b x, b + m = NB τ → x = orN (fun b => (1 : Int32) <<< (pV (f0 τ) b &&& 31)) b → gG d mX4_voices 4 [some (.ref 7), some (.int x), some (.int (nI b))] [] σ (fun v σ' => v = some (.int (aEver (f0 τ) (NB τ))) ∧ σ' = σ) := by
    intro m
    induction m with
    | zero =>
      intro b x hb hx
      have : b = NB τ := by omega
      subst this
      refine bX4_voices_4 ?_
      rw [show σ 7 4 = nI (NB τ) from h.1]
      exact ⟨fun _ => ⟨by rw [hx]; rfl, rfl⟩, fun c => absurd (nI_le (Nat.le_refl _) (by omega)) c⟩
    | succ m ih =>
      intro b x hb hx
      refine bX4_voices_4 ?_
      rw [show σ 7 4 = nI (NB τ) from h.1, i_cl (show b < 2 ^ 31 by omega), (h.2.1 b (show b < NB τ by omega)).1, nI_1]
      exact ⟨fun c => absurd c (nI_ge (by omega) (by omega)), fun _ => ⟨vp_in_nI (by omega) (by decide), ih (b + 1) _ (by omega) (by rw [hx]; rfl)⟩⟩
  exact eX4_voices (key (NB τ) 0 0 (by omega) rfl)
def A_lost (τ : gw_S) (day : Int32) : Int32 := if okD day then aLost τ (simT τ (day.toNatClampNeg + 1)) else -2
theorem c_lost {d : Nat} {day : Int32} {τ σ : gw_S} (hw : WF τ) (h : TC τ σ) (hc : CN τ σ) : gB (d + 5) mX8_lost [.ref 0, .int day] σ (QC τ σ (A_lost τ day)) := by
  refine eX8_lost (gB_det s_isWithin ⟨_, rfl, br_bi (fun h1 => ?_) (fun h1 => by rw [A_lost, if_neg h1]; exact ⟨rfl, hc, FB.rf⟩)⟩)
  refine gB_det (s_voicesC hw h.1.2.2.2.2.2.2.1) ⟨_, rfl, ?_⟩
  obtain ⟨D, hD, rfl⟩ := okD_n h1
  refine (s_behind hw h hc hD).mono ?_
  rintro r σ5 ⟨rfl, g1, g2, g3, g4⟩
  refine ⟨rfl, gB_det (s_voicesWith st_now g3) ⟨_, rfl, ?_, CN.of hD g2 g3, g4⟩⟩
  rw [if_pos rfl, A_lost, if_pos h1, i_cl (show D < 2 ^ 31 by omega)]
  rfl
def A_works (τ : gw_S) (a : Int32) : Int32 := if 0 ≤ a ∧ a < nI (nA τ) then bi (¬ simT τ 40 7 a.toNatClampNeg = 0) else -2
theorem c_works {d : Nat} {a : Int32} {τ σ : gw_S} (hw : WF τ) (h : TC τ σ) (hc : CN τ σ) : gB (d + 5) mX8_works [.ref 0, .int a] σ (QC τ σ (A_works τ a)) := by
  have hA := hw.2.2.2.1.2.1
  refine eX8_works ?_
  rw [h.2.1.1]
  refine gB_det s_isWithin ⟨_, rfl, br_bi (fun h1 => ?_) (fun h1 => by rw [A_works, if_neg h1]; exact ⟨rfl, hc, FB.rf⟩)⟩
  obtain ⟨x, hx, rfl⟩ := i_in (n := nA τ) (by omega) h1.1 (by have := i_lt.mp h1.2; rw [nI_toInt (by omega)] at this; exact this)
  rw [i_cl (show x < 2 ^ 31 by omega), (h.2.1.2.1 x hx).1]
  obtain ⟨⟨D, hD, eD⟩, -⟩ := hw.2.2.2.1.2.2 x hx
  refine ⟨vp_in_nI (by omega) (by decide), ?_⟩
  rw [eD]
  refine (s_behind hw h hc hD).mono ?_
  rintro r σ5 ⟨rfl, g1, g2, g3, g4⟩
  refine ⟨rfl, ?_, CN.of hD g2 g3, g4⟩
  rw [bit_bi (by omega), A_works, if_pos h1, i_cl (show x < 2 ^ 31 by omega)]
  have e1 := simG_7k (τ := τ) (w := -1) (o := -1) (t := -1) hD eD (39 - D) (by omega)
  rw [show D + 1 + (39 - D) = 40 by omega] at e1
  have e2 := g3.2.2.2.2.1.2.2.2 x (by omega)
  have e3 : tb (σ5 36 11) x ↔ ¬ simT τ (D + 1) 7 x = 0 := e2
  rw [simT_G, e1]
  exact bi_sm e3
def A_most (τ : gw_S) (day v : Int32) : Int32 := if okD day ∧ okE v then moN (simT τ (day.toNatClampNeg + 1)) v.toNatClampNeg (NB τ) else -2
theorem c_most {d : Nat} {day v : Int32} {τ σ : gw_S} (hw : WF τ) (h : TC τ σ) (hc : CN τ σ) : gB (d + 5) mX8_most [.ref 0, .int day, .int v] σ (QC τ σ (A_most τ day v)) := by
  have bad : ¬ (okD day ∧ okE v) → QC τ σ (A_most τ day v) (some (.int (-2))) σ := fun c => by rw [A_most, if_neg c]; exact ⟨rfl, hc, FB.rf⟩
  have hn := NB_le hw
  refine eX8_most (gB_det s_isWithin ⟨_, rfl, br_bj (fun h1 => ?_) (fun h1 => bad (fun q => h1 q.1))⟩)
  refine gB_det s_isWithin ⟨_, rfl, br_bi (fun h2 => ?_) (fun h2 => bad (fun q => h2 q.2))⟩
  obtain ⟨D, hD, rfl⟩ := okD_n h1
  obtain ⟨u, hu, rfl⟩ := okE_n h2
  refine (s_behind hw h hc hD).mono ?_
  rintro r σ5 ⟨rfl, g1, g2, g3, g4⟩
  refine ⟨rfl, ?_⟩
  have e74 : σ5 7 4 = nI (NB τ) := by rw [g4.1 7 (by decide) (by decide)]; exact h.1.2.2.2.2.2.2.1.1
  generalize hS : simT τ (D + 1) = S at g3
  have eA : A_most τ (nI D) (nI u) = moN S u (NB τ) := by rw [A_most, if_pos ⟨h1, h2⟩, i_cl (show D < 2 ^ 31 by omega), i_cl (show u < 2 ^ 31 by omega), hS]
  have hq : CN τ σ5 := CN.of hD g2 (by rw [hS]; exact g3)
  -- the best so far and how much it holds
  have key : ∀ m b x y, b + m = NB τ → x = moN S u b → (x = -1 ∧ y = 0 ∨ ∃ c, c < b ∧ x = nI c ∧ y = S 0 (8 * c + u) ∧ ¬ y ≤ 0) → gG (d + 4 + 1) mX8_most 36 [some (.ref 0), none, some (.int (nI u)), some (.ref 36), some (.int x), some (.int y), some (.int (nI b))] [] σ5 (QC τ σ (A_most τ (nI D) (nI u))) := by
    intro m
    induction m with
    | zero =>
      intro b x y hb hx hy
      have : b = NB τ := by omega
      subst this
      refine bX8_most_36 ?_
      rw [e74]
      exact ⟨fun _ => ⟨by rw [hx, eA], hq, g4⟩, fun c => absurd (nI_le (Nat.le_refl _) (by omega)) c⟩
    | succ m ih =>
      intro b x y hb hx hy
      have hb2 : b < NB τ := by omega
      refine bX8_most_36 ?_
      rw [e74, nI_1]
      have hm : moN S u (b + 1) = if S 0 (8 * b + u) ≤ 0 then x else if x = -1 then nI b else if S 0 (8 * b + u) ≤ S 0 (8 * x.toNatClampNeg + u) then x else nI b := by rw [hx]; rfl
      have wk : (x = -1 ∧ y = 0 ∨ ∃ c, c < b + 1 ∧ x = nI c ∧ y = S 0 (8 * c + u) ∧ ¬ y ≤ 0) := hy.imp id (fun ⟨c, a1, a2⟩ => ⟨c, by omega, a2⟩)
      refine ⟨fun c => absurd c (nI_ge (by omega) (by omega)), fun _ => gB_det (s_muchOf st_now g3 hb2 hu) ⟨_, rfl, fun c => ?_, fun c => ?_⟩⟩
      · refine ih (b + 1) x y (by omega) ?_ wk
        rw [hm]
        rcases hy with ⟨y1, y2⟩ | ⟨z, z1, z2, z3, z4⟩
        · rw [y2] at c
          rw [if_pos c]
        · by_cases w : S 0 (8 * b + u) ≤ 0
          · rw [if_pos w]
          · rw [if_neg w, if_neg (by rw [z2]; exact nI_ne_m1 (by omega)), z2, i_cl (show z < 2 ^ 31 by omega), ← z3, if_pos c]
      · refine gB_det (s_muchOf st_now g3 hb2 hu) ⟨_, rfl, ih (b + 1) (nI b) _ (by omega) ?_ (Or.inr ⟨b, by omega, rfl, rfl, ?_⟩)⟩
        · rw [hm]
          rcases hy with ⟨y1, y2⟩ | ⟨z, z1, z2, z3, z4⟩
          · rw [y2] at c
            rw [if_neg c, if_pos y1]
          · have w : ¬ S 0 (8 * b + u) ≤ 0 := fun q => c (by rw [i_le] at q ⊢; rw [i_le] at z4; omega)
            rw [if_neg w, if_neg (by rw [z2]; exact nI_ne_m1 (by omega)), z2, i_cl (show z < 2 ^ 31 by omega), ← z3, if_neg c]
        · intro q
          rcases hy with ⟨y1, y2⟩ | ⟨z, z1, z2, z3, z4⟩
          · rw [y2] at c; exact c q
          · exact c (by rw [i_le] at q ⊢; rw [i_le] at z4; omega)
  exact key (NB τ) 0 (-1) 0 (by omega) rfl (Or.inl ⟨rfl, rfl⟩)
