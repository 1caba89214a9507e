/-- an answer of the model that changes nothing told -/
def QM (τ σ : gw_S) (A : Int32) : Option Value → gw_S → Prop := fun v σ' => v = some (.int A) ∧ TM τ σ' ∧ FSc σ σ'
theorem lt_m1 {x : Int32} : (-1 ≤ x ∧ x ≤ 7) ↔ (x = -1 ∨ okE x) := by
  have e1 : (-1 : Int32).toInt = -1 := by decide
  have e7 : (7 : Int32).toInt = 7 := by decide
  have e8 : (8 : Int32).toInt = 8 := by decide
  have e0 : (0 : Int32).toInt = 0 := by decide
  rw [i_le, i_le, okE, i_le, i_lt, e1, e7, e8, e0, ← Int32.toInt_inj, e1]
  omega
theorem s_in5 {d : Nat} {x : Int32} {σ : gw_S} : gB d mX9_in [.int x, .int 0, .int 5] σ (fun v σ' => v = some (.int (bi (okO x))) ∧ σ' = σ) := gB_det s_in ⟨bi_sm (by rw [lt_k (c := 5) (c' := 6) (by decide)]), rfl⟩
theorem s_inE1 {d : Nat} {x : Int32} {σ : gw_S} : gB d mX9_in [.int x, .int (-1), .int 7] σ (fun v σ' => v = some (.int (bi (x = -1 ∨ okE x))) ∧ σ' = σ) := gB_det s_in ⟨bi_sm lt_m1, rfl⟩
theorem QM.bad {τ σ σ' : gw_S} {A : Int32} (h : TM τ σ') (hf : FSc σ σ') (e : A = -2) : QM τ σ A (some (.int (-2))) σ' := ⟨by rw [e], h, hf⟩
theorem m_holds {d : Nat} {day b v : Int32} {τ σ : gw_S} (hw : WF τ) (h : TM τ σ) : gB (d + 8) mX9_holds [.ref 1, .int day, .int b, .int v] σ (QM τ σ (A_holds τ day b v)) := by
  have bad : ¬ (okD day ∧ okB τ b ∧ (v = -1 ∨ okE v)) → A_holds τ day b v = -2 := fun c => by rw [A_holds, if_neg c]
  refine eX9_holds (gB_det s_isDay2 ⟨_, rfl, br_bj (fun h1 => ?_) (fun h1 => QM.bad h FM.rf (bad (fun q => h1 q.1)))⟩)
  refine (s_isBottleM hw h).mono ?_
  rintro _ σ1 ⟨rfl, -, k2, k3⟩
  refine ⟨_, rfl, br_bj (fun h2 => ?_) (fun h2 => QM.bad k2 k3 (bad (fun q => h2 q.2.1)))⟩
  refine gB_det s_inE1 ⟨_, rfl, br_bj (fun h3 => ?_) (fun h3 => QM.bad k2 k3 (bad (fun q => h3 q.2.2)))⟩
  obtain ⟨D, hD, rfl⟩ := okD_n h1
  obtain ⟨B, hB, rfl⟩ := okB_n hw h2
  have hn := NB_le hw
  refine (s_holdsOf hw k2 hD (by omega) h3).mono ?_
  rintro _ σ2 ⟨rfl, g1, g2⟩
  exact ⟨_, rfl, by rw [A_holds, if_pos ⟨h1, h2, h3⟩, i_cl (show D < 2 ^ 31 by omega), i_cl (show B < 2 ^ 31 by omega)], g1, k3.tr g2⟩
theorem m_who {d : Nat} {day b : Int32} {τ σ : gw_S} (hw : WF τ) (h : TM τ σ) : gB (d + 8) mX9_who [.ref 1, .int day, .int b] σ (QM τ σ (A_who τ day b)) := by
  have bad : ¬ (okD day ∧ okB τ b) → A_who τ day b = -2 := fun c => by rw [A_who, if_neg c]
  refine eX9_who (gB_det s_isDay2 ⟨_, rfl, br_bj (fun h1 => ?_) (fun h1 => QM.bad h FM.rf (bad (fun q => h1 q.1)))⟩)
  refine (s_isBottleM hw h).mono ?_
  rintro _ σ1 ⟨rfl, -, k2, k3⟩
  refine ⟨_, rfl, br_bj (fun h2 => ?_) (fun h2 => QM.bad k2 k3 (bad (fun q => h2 q.2)))⟩
  obtain ⟨D, hD, rfl⟩ := okD_n h1
  obtain ⟨B, hB, rfl⟩ := okB_n hw h2
  have hn := NB_le hw
  refine (s_whoOf hw k2 hD (show B < 8 by omega)).mono ?_
  rintro _ σ2 ⟨rfl, g1, g2⟩
  exact ⟨_, rfl, by rw [A_who, if_pos ⟨h1, h2⟩, i_cl (show D < 2 ^ 31 by omega), i_cl (show B < 2 ^ 31 by omega)], g1, k3.tr g2⟩
theorem m_whole {d : Nat} {day b : Int32} {τ σ : gw_S} (hw : WF τ) (h : TM τ σ) : gB (d + 8) mX9_whole [.ref 1, .int day, .int b] σ (QM τ σ (A_whole τ day b)) := by
  have bad : ¬ (okD day ∧ okB τ b) → A_whole τ day b = -2 := fun c => by rw [A_whole, if_neg c]
  refine eX9_whole (gB_det s_isDay2 ⟨_, rfl, br_bj (fun h1 => ?_) (fun h1 => QM.bad h FM.rf (bad (fun q => h1 q.1)))⟩)
  refine (s_isBottleM hw h).mono ?_
  rintro _ σ1 ⟨rfl, -, k2, k3⟩
  refine ⟨_, rfl, br_bj (fun h2 => ?_) (fun h2 => QM.bad k2 k3 (bad (fun q => h2 q.2)))⟩
  obtain ⟨D, hD, rfl⟩ := okD_n h1
  obtain ⟨B, hB, rfl⟩ := okB_n hw h2
  have hn := NB_le hw
  refine (s_wholeOf hw k2 hD (show B < 8 by omega)).mono ?_
  rintro _ σ2 ⟨rfl, g1, g2⟩
  exact ⟨_, rfl, by rw [A_whole, if_pos ⟨h1, h2⟩, i_cl (show D < 2 ^ 31 by omega), i_cl (show B < 2 ^ 31 by omega)], g1, k3.tr g2⟩
theorem m_has {d : Nat} {day o : Int32} {τ σ : gw_S} (hw : WF τ) (h : TM τ σ) : gB (d + 8) mX9_has [.ref 1, .int day, .int o] σ (QM τ σ (A_has τ day o)) := by
  have bad : ¬ (okD day ∧ okO o) → A_has τ day o = -2 := fun c => by rw [A_has, if_neg c]
  refine eX9_has (gB_det s_isDay2 ⟨_, rfl, br_bj (fun h1 => ?_) (fun h1 => QM.bad h FM.rf (bad (fun q => h1 q.1)))⟩)
  refine gB_det s_in5 ⟨_, rfl, br_bj (fun h2 => ?_) (fun h2 => QM.bad h FM.rf (bad (fun q => h2 q.2)))⟩
  obtain ⟨D, hD, rfl⟩ := okD_n h1
  refine (s_hasOf hw h hD).mono ?_
  rintro _ σ2 ⟨rfl, g1, g2⟩
  exact ⟨_, rfl, by rw [A_has, if_pos ⟨h1, h2⟩, i_cl (show D < 2 ^ 31 by omega)], g1, g2⟩
theorem m_heard {d : Nat} {day v : Int32} {τ σ : gw_S} (hw : WF τ) (h : TM τ σ) : gB (d + 8) mX9_heard [.ref 1, .int day, .int v] σ (QM τ σ (A_heard τ day v)) := by
  have bad : ¬ (okD day ∧ okE v) → A_heard τ day v = -2 := fun c => by rw [A_heard, if_neg c]
  refine eX9_heard (gB_det s_isDay2 ⟨_, rfl, br_bj (fun h1 => ?_) (fun h1 => QM.bad h FM.rf (bad (fun q => h1 q.1)))⟩)
  refine gB_det s_isEight2 ⟨_, rfl, br_bj (fun h2 => ?_) (fun h2 => QM.bad h FM.rf (bad (fun q => h2 q.2)))⟩
  obtain ⟨D, hD, rfl⟩ := okD_n h1
  obtain ⟨u, hu, rfl⟩ := okE_n h2
  refine (s_heardOf hw h hD hu).mono ?_
  rintro _ σ2 ⟨rfl, g1, g2⟩
  exact ⟨_, rfl, by rw [A_heard, if_pos ⟨h1, h2⟩, i_cl (show D < 2 ^ 31 by omega), i_cl (show u < 2 ^ 31 by omega)], g1, g2⟩
theorem m_spilled {d : Nat} {day v : Int32} {τ σ : gw_S} (hw : WF τ) (h : TM τ σ) : gB (d + 8) mX9_spilled [.ref 1, .int day, .int v] σ (QM τ σ (A_spilled τ day v)) := by
  have bad : ¬ (okD day ∧ okE v) → A_spilled τ day v = -2 := fun c => by rw [A_spilled, if_neg c]
  refine eX9_spilled (gB_det s_isDay2 ⟨_, rfl, br_bj (fun h1 => ?_) (fun h1 => QM.bad h FM.rf (bad (fun q => h1 q.1)))⟩)
  refine gB_det s_isEight2 ⟨_, rfl, br_bj (fun h2 => ?_) (fun h2 => QM.bad h FM.rf (bad (fun q => h2 q.2)))⟩
  obtain ⟨D, hD, rfl⟩ := okD_n h1
  obtain ⟨u, hu, rfl⟩ := okE_n h2
  refine (s_spilledOf hw h hD hu).mono ?_
  rintro _ σ2 ⟨rfl, g1, g2⟩
  exact ⟨_, rfl, by rw [A_spilled, if_pos ⟨h1, h2⟩, i_cl (show D < 2 ^ 31 by omega), i_cl (show u < 2 ^ 31 by omega)], g1, g2⟩
theorem m_most {d : Nat} {day v : Int32} {τ σ : gw_S} (hw : WF τ) (h : TM τ σ) : gB (d + 8) mX9_most [.ref 1, .int day, .int v] σ (QM τ σ (A_most τ day v)) := by
  have bad : ¬ (okD day ∧ okE v) → A_most τ day v = -2 := fun c => by rw [A_most, if_neg c]
  refine eX9_most (gB_det s_isDay2 ⟨_, rfl, br_bj (fun h1 => ?_) (fun h1 => QM.bad h FM.rf (bad (fun q => h1 q.1)))⟩)
  refine gB_det s_isEight2 ⟨_, rfl, br_bj (fun h2 => ?_) (fun h2 => QM.bad h FM.rf (bad (fun q => h2 q.2)))⟩
  obtain ⟨D, hD, rfl⟩ := okD_n h1
  obtain ⟨u, hu, rfl⟩ := okE_n h2
  refine (s_mostOf hw h hD hu).mono ?_
  rintro _ σ2 ⟨rfl, g1, g2⟩
  exact ⟨_, rfl, by rw [A_most, if_pos ⟨h1, h2⟩, i_cl (show D < 2 ^ 31 by omega), i_cl (show u < 2 ^ 31 by omega)], g1, g2⟩
theorem m_leaked {d : Nat} {day : Int32} {τ σ : gw_S} (hw : WF τ) (h : TM τ σ) : gB (d + 8) mX9_leaked [.ref 1, .int day] σ (QM τ σ (A_leaked τ day)) := by
  refine eX9_leaked (gB_det s_isDay2 ⟨_, rfl, br_bj (fun h1 => ?_) (fun h1 => QM.bad h FM.rf (by rw [A_leaked, if_neg h1]))⟩)
  obtain ⟨D, hD, rfl⟩ := okD_n h1
  refine (s_leakedOf hw h hD).mono ?_
  rintro _ σ2 ⟨rfl, g1, g2⟩
  exact ⟨_, rfl, by rw [A_leaked, if_pos h1, i_cl (show D < 2 ^ 31 by omega)], g1, g2⟩
theorem m_lost {d : Nat} {day : Int32} {τ σ : gw_S} (hw : WF τ) (h : TM τ σ) : gB (d + 8) mX9_lost [.ref 1, .int day] σ (QM τ σ (A_lost τ day)) := by
  refine eX9_lost (gB_det s_isDay2 ⟨_, rfl, br_bj (fun h1 => ?_) (fun h1 => QM.bad h FM.rf (by rw [A_lost, if_neg h1]))⟩)
  obtain ⟨D, hD, rfl⟩ := okD_n h1
  refine (s_lostOf hw h hD).mono ?_
  rintro _ σ2 ⟨rfl, g1, g2⟩
  exact ⟨_, rfl, by rw [A_lost, if_pos h1, i_cl (show D < 2 ^ 31 by omega)], g1, g2⟩
theorem m_works {d : Nat} {a : Int32} {τ σ : gw_S} (hw : WF τ) (h : TM τ σ) : gB (d + 8) mX9_works [.ref 1, .int a] σ (QM τ σ (A_works τ a)) := by
  have hA := hw.2.2.2.1.2.1
  refine eX9_works ?_
  rw [h.2 12 (by decide), hw.2.2.2.1.1]
  refine gB_det s_in ?_
  rw [bi_congr (by rw [lt_pred (show nA τ < 2 ^ 31 by omega)] : (0 ≤ a ∧ a ≤ nI (nA τ) - 1) ↔ (0 ≤ a ∧ a < nI (nA τ)))]
  refine ⟨_, rfl, br_bj (fun h1 => ?_) (fun h1 => QM.bad h FM.rf (by rw [A_works, if_neg h1]))⟩
  obtain ⟨x, hx, rfl⟩ := i_in (n := nA τ) (by omega) h1.1 (by have := i_lt.mp h1.2; rw [nI_toInt (by omega)] at this; exact this)
  refine (s_worksOf hw h (show x < 16 by omega)).mono ?_
  rintro _ σ2 ⟨rfl, g1, g2⟩
  exact ⟨_, rfl, by rw [A_works, if_pos h1, i_cl (show x < 2 ^ 31 by omega)], g1, g2⟩
