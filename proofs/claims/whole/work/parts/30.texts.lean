/-! the calls that tell something: the class's posts and the model's -/
def FCl (σ σ' : gw_S) : Prop := ∀ k, (k = 1 ∨ 140 ≤ k) → σ' k = σ k
def FMo (σ σ' : gw_S) : Prop := ∀ k, k ≠ 1 → k < 140 → σ' k = σ k
def KP (σ σ' : gw_S) : Prop := σ' 0 10 = σ 0 10 ∧ σ' 0 11 = σ 0 11 ∧ σ' 0 12 = σ 0 12 ∧ ∀ m, 36 ≤ m → m < 44 → σ' m = σ m
def FG (σ' : gw_S) : Prop := σ' 0 10 = 1 ∧ σ' 0 11 = -1
def SD (τ τ' : gw_S) : Prop := (∀ k ∈ [140, 141, 147, 148, 149, 150, 151], τ' k = τ k) ∧ ∀ j ∈ [9, 10, 12], τ' 1 j = τ 1 j
def QU (τ τ' σ : gw_S) (A : Int32) : Option Value → gw_S → Prop := fun v σ' => v = some (.int A) ∧ TC τ' σ' ∧ (SD τ τ' ∧ KP σ σ' ∨ FG σ') ∧ FCl σ σ'
def QN (τ' σ : gw_S) (A : Int32) : Option Value → gw_S → Prop := fun v σ' => v = some (.int A) ∧ TM τ' σ' ∧ FMo σ σ'
theorem SD.rf {τ : gw_S} : SD τ τ := ⟨fun _ _ => rfl, fun _ _ => rfl⟩
theorem KP.rf {σ : gw_S} : KP σ σ := ⟨rfl, rfl, rfl, fun _ _ _ => rfl⟩
theorem FCl.rf {σ : gw_S} : FCl σ σ := fun _ _ => rfl
theorem FMo.rf {σ : gw_S} : FMo σ σ := fun _ _ _ => rfl
theorem FCl.tr {σ σ1 σ2 : gw_S} (h : FCl σ σ1) (h2 : FCl σ1 σ2) : FCl σ σ2 := fun k a => (h2 k a).trans (h k a)
theorem FMo.tr {σ σ1 σ2 : gw_S} (h : FMo σ σ1) (h2 : FMo σ1 σ2) : FMo σ σ2 := fun k a b => (h2 k a b).trans (h k a b)
theorem FCl.u {σ : gw_S} {k j : Nat} {v : Int32} (h : k ≠ 1 ∧ k < 140) : FCl σ (gw_u σ k j v) := fun m hm => gw_ne (by omega)
theorem FMo.u {σ : gw_S} {k j : Nat} {v : Int32} (h : k = 1 ∨ 140 ≤ k) : FMo σ (gw_u σ k j v) := fun m h1 h2 => gw_ne (by omega)
theorem FSc.mo {σ σ' : gw_S} (h : FSc σ σ') : FMo σ σ' := fun k h1 h2 => h.1 k h1 (by simp only [scL, List.mem_cons, List.not_mem_nil, or_false]; omega)
theorem QU.no {τ τ' σ : gw_S} {A r : Int32} (h : TC τ σ) (et : τ' = τ) (e : A = r) : QU τ τ' σ A (some (.int r)) σ := by
  subst et
  exact ⟨by rw [e], h, Or.inl ⟨SD.rf, KP.rf⟩, FCl.rf⟩
theorem QN.no {τ τ' σ : gw_S} {A r : Int32} (h : TM τ σ) (et : τ' = τ) (e : A = r) : QN τ' σ A (some (.int r)) σ := by
  subst et
  exact ⟨by rw [e], h, FMo.rf⟩
theorem TM.u {τ σ : gw_S} {k j : Nat} {v : Int32} (h : TM τ σ) : TM (gw_u τ k j v) (gw_u σ k j v) := by
  refine ⟨fun m hm => ?_, fun i hi => ?_⟩
  · by_cases e : m = k
    · subst e
      funext z
      rw [gw_at, gw_at, h.1 m hm]
    · rw [gw_ne e, gw_ne e, h.1 m hm]
  · rw [gw_at, gw_at, h.2 i hi]
theorem TCa.ct {τ τ' σ : gw_S} (h : TCa τ σ) (e : ∀ k ∈ [147, 148, 149, 150, 151], τ' k = τ k) (e1 : ∀ j ∈ [9, 10, 12], τ' 1 j = τ 1 j) : TCa τ' σ := by
  unfold TCa nA nH at *
  rw [e1 9 (by decide), e1 10 (by decide), e1 12 (by decide), e 147 (by decide), e 148 (by decide), e 149 (by decide), e 150 (by decide), e 151 (by decide)]
  exact h
theorem TCw.ct {τ τ' σ : gw_S} (h : TCw τ σ) (e : ∀ k ∈ [164, 165, 166], τ' k = τ k) (e1 : τ' 1 36 = τ 1 36) : TCw τ' σ := by
  unfold TCw nW at *
  rw [e1, e 164 (by decide), e 165 (by decide), e 166 (by decide)]
  exact h
theorem TCs.ct {τ τ' σ : gw_S} (h : TCs τ σ) (e : ∀ k ∈ [168, 169, 170, 171], τ' k = τ k) (e1 : τ' 1 46 = τ 1 46) : TCs τ' σ := by
  unfold TCs at *
  rw [e1, e 168 (by decide), e 169 (by decide), e 170 (by decide), e 171 (by decide)]
  exact h
theorem TCt.ct {τ τ' σ : gw_S} (h : TCt τ σ) (e : ∀ k ∈ [140, 141], τ' k = τ k) : TCt τ' σ := by
  unfold TCt g0 f0 n0 n1 at *
  rw [e 140 (by decide), e 141 (by decide)]
  exact h
theorem WF.txt {τ τ' : gw_S} {a b : Nat} (hw : WF τ) (e : ∀ k, k ≠ 140 → k ≠ 141 → τ' k = τ k) (h0 : τ' 140 0 = nI a) (ha : a ≤ 47) (h1 : τ' 140 1 = nI b) (hb : b ≤ 8) : WF τ' ∧ n0 τ' = a ∧ n1 τ' = b := by
  have e0 : n0 τ' = a := by unfold n0; rw [h0, i_cl (show a < 2 ^ 31 by omega)]
  have e1 : n1 τ' = b := by unfold n1; rw [h1, i_cl (show b < 2 ^ 31 by omega)]
  refine ⟨?_, e0, e1⟩
  unfold WF at hw ⊢
  rw [e0, e1]
  unfold nH nA nW okAct at *
  rw [e 1 (by decide) (by decide), e 147 (by decide) (by decide), e 148 (by decide) (by decide), e 149 (by decide) (by decide), e 150 (by decide) (by decide), e 151 (by decide) (by decide), e 164 (by decide) (by decide), e 165 (by decide) (by decide), e 166 (by decide) (by decide), e 168 (by decide) (by decide), e 169 (by decide) (by decide), e 170 (by decide) (by decide)]
  exact ⟨⟨h0, ha, h1, hb⟩, hw.2⟩
theorem SC.cg {f g : Nat → Int32} {n : Nat} {σ : gw_S} (hn : n ≤ 47) (h : SC f n σ) (e : ∀ j, j < n → f j = g j) : SC g n σ := by
  unfold SC at h ⊢
  rw [← nBo_congr e]
  refine ⟨h.1, fun b hb => ?_, ?_⟩
  · have := (nBo_in hn hb).1
    unfold pV pM pC
    rw [← e _ (show 6 * b < n by omega), ← e _ (show 6 * b + 1 < n by omega), ← e _ (show 6 * b + 2 < n by omega), ← e _ (show 6 * b + 3 < n by omega)]
    exact h.2.1 b hb
  · rw [h.2.2]
    refine bm_congr _ (fun b hb => ?_)
    have := (nBo_in hn hb).1
    unfold pS
    rw [e _ (show 6 * b + 4 < n by omega)]
theorem SG.cg {f g : Nat → Int32} {n : Nat} {σ : gw_S} (h : SG f n σ) (e : ∀ j, j < n → f j = g j) : SG g n σ := by
  have en : nLe f n = nLe g n := by unfold nLe; rw [fauS_congr e]
  unfold SG at h ⊢
  rw [← en]
  refine ⟨h.1, fun i hi => ?_⟩
  rw [← e i (by unfold nLe at hi; split at hi <;> omega)]
  exact h.2 i hi
theorem s_take {d : Nat} {τ τ' σ s : gw_S} (hw : WF τ') (e : ∀ k, k ≠ 140 → k ≠ 141 → τ' k = τ k) (h : TC τ σ) (hs : ∀ k, k ≠ 2 → k ≠ 3 → k ≠ 4 → k ≠ 5 → s k = σ k) (h21 : s 2 1 = 47) (h41 : s 4 1 = 8) (h22 : s 2 2 = nI (n0 τ')) (h42 : s 4 2 = nI (n1 τ')) (h3 : ∀ j, j < n0 τ' → s 3 j = τ' 141 j) (h5 : ∀ j, j < n1 τ' → s 5 j = τ' 141 (47 + j)) : gB (d + 4) mX8_takeTexts [.ref 0] s (fun v σ' => v = none ∧ TC τ' σ' ∧ FG σ' ∧ FCl σ σ' ∧ σ' 2 2 = nI (n0 τ') ∧ σ' 4 2 = nI (n1 τ')) := by
  refine (s_takeTexts hw.1.2.1 h22 hw.1.2.2.2 h42).mono ?_
  rintro v σ' ⟨rfl, g1, g2, g3, g4, g5, g6, g7⟩
  have k2 : σ' 2 = s 2 := g5 2 (by decide) (by decide) (by decide) (by decide) (by decide) (by decide) (by decide)
  have k3 : σ' 3 = s 3 := g5 3 (by decide) (by decide) (by decide) (by decide) (by decide) (by decide) (by decide)
  have k4 : σ' 4 = s 4 := g5 4 (by decide) (by decide) (by decide) (by decide) (by decide) (by decide) (by decide)
  have k5 : σ' 5 = s 5 := g5 5 (by decide) (by decide) (by decide) (by decide) (by decide) (by decide) (by decide)
  have kk : ∀ k, k ≠ 0 → k ≠ 2 → k ≠ 3 → k ≠ 4 → k ≠ 5 → k ≠ 7 → k ≠ 8 → k ≠ 9 → k ≠ 10 → k ≠ 17 → k ≠ 18 → σ' k = σ k := fun k a0 a2 a3 a4 a5 a7 a8 a9 a10 a17 a18 => (g5 k a0 a7 a8 a9 a10 a17 a18).trans (hs k a2 a3 a4 a5)
  refine ⟨rfl, ⟨⟨?_, ?_, ?_, ?_, ?_, ?_, ?_, ?_⟩, ?_, ?_, ?_⟩, ⟨g3, g4⟩, ?_, ?_, ?_⟩
  · rw [k2]; exact h21
  · rw [k4]; exact h41
  · rw [k2]; exact h22
  · rw [k4]; exact h42
  · rw [k3]; exact h3
  · rw [k5]; exact h5
  · exact g1.cg hw.1.2.1 h3
  · exact g2.cg h5
  · refine (h.2.1.fr (fun k hk => kk k ?_ ?_ ?_ ?_ ?_ ?_ ?_ ?_ ?_ ?_ ?_)).ct (fun k hk => e k ?_ ?_) (fun j _ => by rw [e 1 (by decide) (by decide)]) <;> (revert hk; simp only [List.mem_cons, List.not_mem_nil, or_false]; omega)
  · have w := h.2.2.1
    unfold TCw nW at w ⊢
    rw [e 1 (by decide) (by decide), e 164 (by decide) (by decide), e 165 (by decide) (by decide), e 166 (by decide) (by decide), kk 22, kk 23, kk 24, kk 25] <;> first | exact w | decide
  · have w := h.2.2.2
    unfold TCs at w ⊢
    rw [e 1 (by decide) (by decide), e 168 (by decide) (by decide), e 169 (by decide) (by decide), e 170 (by decide) (by decide), e 171 (by decide) (by decide), kk 32, kk 33, g6 13 (by decide) (by decide), hs 0 (by decide) (by decide) (by decide) (by decide)]
    · refine ⟨fun q hq => ?_, w.2⟩
      rw [kk (28 + q)]
      · exact w.1 q hq
      all_goals omega
    all_goals decide
  · intro k hk
    exact kk k (by omega) (by omega) (by omega) (by omega) (by omega) (by omega) (by omega) (by omega) (by omega) (by omega) (by omega)
  · rw [k2]; exact h22
  · rw [k4]; exact h42
abbrev okT (x : Int32) : Prop := 0 ≤ x ∧ x < 2
abbrev okY (x : Int32) : Prop := 0 ≤ x ∧ x < 256
theorem okT_n {x : Int32} (h : okT x) : x = 0 ∨ x = 1 := by
  obtain ⟨j, hj, rfl⟩ := i_in (n := 2) (by decide) h.1 (by have := i_lt.mp h.2; rw [show (2 : Int32).toInt = 2 from by decide] at this; exact this)
  have : j = 0 ∨ j = 1 := by omega
  rcases this with rfl | rfl
  · exact Or.inl rfl
  · exact Or.inr rfl
def mxT (t : Int32) : Int32 := if t = 0 then 47 else 8
def A_type (τ : gw_S) (t b : Int32) : Int32 := if okT t ∧ okY b then (if τ 140 t.toNatClampNeg = mxT t then -4 else τ 140 t.toNatClampNeg + 1) else -2
def U_type (τ : gw_S) (t b : Int32) : gw_S := if okT t ∧ okY b ∧ ¬ τ 140 t.toNatClampNeg = mxT t then gw_u (gw_u τ 141 (47 * t.toNatClampNeg + (τ 140 t.toNatClampNeg).toNatClampNeg) b) 140 t.toNatClampNeg (τ 140 t.toNatClampNeg + 1) else τ
theorem c0 : (0 : Int32).toNatClampNeg = 0 := rfl
theorem c1 : (1 : Int32).toNatClampNeg = 1 := rfl
theorem n0_e {τ : gw_S} (hw : WF τ) : τ 140 0 = nI (n0 τ) := hw.1.1
theorem n1_e {τ : gw_S} (hw : WF τ) : τ 140 1 = nI (n1 τ) := hw.1.2.2.1
theorem w_type {τ : gw_S} {t b : Int32} (hw : WF τ) : WF (U_type τ t b) := by
  unfold U_type
  split
  · rename_i c
    have e0 := n0_e hw
    have e1 := n1_e hw
    have l0 := hw.1.2.1
    have l1 := hw.1.2.2.2
    rcases okT_n c.1 with rfl | rfl
    · have hne : n0 τ ≠ 47 := fun q => c.2.2 (by rw [c0, e0, q]; rfl)
      refine (hw.txt (a := n0 τ + 1) (b := n1 τ) (fun k h1 h2 => by rw [gw_ne h1, gw_ne h2]) ?_ (by omega) ?_ l1).1
      · rw [c0, gw_self, e0, nI_1]
      · rw [c0, gw_nj (by decide), gw_ne (by decide), e1]
    · have hne : n1 τ ≠ 8 := fun q => c.2.2 (by rw [c1, e1, q]; rfl)
      refine (hw.txt (a := n0 τ) (b := n1 τ + 1) (fun k h1 h2 => by rw [gw_ne h1, gw_ne h2]) ?_ l0 ?_ (by omega)).1
      · rw [c1, gw_nj (by decide), gw_ne (by decide), e0]
      · rw [c1, gw_self, e1, nI_1]
  · exact hw
theorem x_type {τ : gw_S} {t b : Int32} : ∀ k, k ≠ 140 → k ≠ 141 → U_type τ t b k = τ k := by
  intro k h1 h2
  by_cases c : okT t ∧ okY b ∧ ¬ τ 140 t.toNatClampNeg = mxT t
  · rw [U_type, if_pos c, gw_ne h1, gw_ne h2]
  · rw [U_type, if_neg c]
theorem c_type {d : Nat} {t b : Int32} {τ σ : gw_S} (hw : WF τ) (h : TC τ σ) : gB (d + 5) mX8_type [.ref 0, .int t, .int b] σ (QU τ (U_type τ t b) σ (A_type τ t b)) := by
  have bad : ¬ (okT t ∧ okY b) → QU τ (U_type τ t b) σ (A_type τ t b) (some (.int (-2))) σ := fun c => QU.no h (by rw [U_type, if_neg (fun q => c ⟨q.1, q.2.1⟩)]) (by rw [A_type, if_neg c])
  refine eX8_type (gB_det s_isWithin ⟨_, rfl, br_bj (fun h1 => ?_) (fun h1 => bad (fun q => h1 q.1))⟩)
  refine gB_det s_isWithin ⟨_, rfl, br_bi (fun h2 => gB_det s_textOf ⟨_, rfl, ?_⟩) (fun h2 => bad (fun q => h2 q.2))⟩
  have e0 := n0_e hw
  have e1 := n1_e hw
  have l0 := hw.1.2.1
  have l1 := hw.1.2.2.2
  obtain ⟨⟨t1, t2, t3, t4, t5, t6, t7, t8⟩, -⟩ := id h
  have hw' := w_type (t := t) (b := b) hw
  have sp := fun s => s_take (d := d) (s := s) (τ' := U_type τ t b) (σ := σ) (τ := τ) hw' x_type h
  rcases okT_n h1 with rfl | rfl
  · rw [if_pos rfl]
    refine ⟨tx_2, fun c => ?_, fun c => ?_⟩
    · rw [t3, t1, i_lt, nI_toInt (by omega), show (47 : Int32).toInt = 47 from by decide] at c
      have c' : n0 τ < 47 := by omega
      have hne : ¬ τ 140 0 = mxT 0 := by rw [e0, show mxT 0 = nI 47 from rfl, nI_eq (by omega) (by omega)]; omega
      have eU : U_type τ 0 b = gw_u (gw_u τ 141 (n0 τ) b) 140 0 (nI (n0 τ + 1)) := by rw [U_type, if_pos ⟨h1, h2, by rw [c0]; exact hne⟩, c0, e0, i_cl (show n0 τ < 2 ^ 31 by omega), nI_1]; simp
      have en0 : n0 (U_type τ 0 b) = n0 τ + 1 := by rw [eU]; unfold n0; rw [gw_self, i_cl (by unfold n0 at c'; omega)]
      have en1 : n1 (U_type τ 0 b) = n1 τ := by rw [eU]; unfold n1; rw [gw_nj (by decide), gw_ne (by decide)]
      rw [t3, i_cl (show n0 τ < 2 ^ 31 by omega)]
      refine ⟨vp_in_nI c' (by decide), fun s8 q8 s9 q9 => (sp s9 ?_ ?_ ?_ ?_ ?_ ?_ ?_).mono ?_⟩
      · intro k a2 a3 a4 a5
        rw [q9, gw_ne a2, q8, gw_ne a3]
      · rw [q9, gw_nj (by decide), q8, gw_ne (by decide), t1]
      · rw [q9, gw_ne (by decide), q8, gw_ne (by decide), t2]
      · rw [q9, gw_self, q8, gw_ne (by decide), t3, nI_1, en0]
      · rw [q9, gw_ne (by decide), q8, gw_ne (by decide), t4, en1]
      · rw [en0, eU, q9, gw_ne (by decide), gw_ne (by decide), q8]
        intro j hj
        rw [gw_at, gw_at]
        by_cases ej : j = n0 τ
        · simp [ej]
        · simp [ej, t5 j (by omega)]
      · rw [en1, eU, q9, gw_ne (by decide), gw_ne (by decide), q8, gw_ne (by decide)]
        intro j hj
        rw [t6 j hj, gw_nj (by omega)]
      · rintro _ σ2 ⟨rfl, g1, g2, g3, g4, g5⟩
        refine ⟨rfl, ?_, g1, Or.inr g2, g3⟩
        rw [g4, en0, A_type, if_pos ⟨h1, h2⟩, c0, if_neg hne, e0, nI_1]
    · rw [t3, t1, i_lt, nI_toInt (by omega), show (47 : Int32).toInt = 47 from by decide] at c
      have hne : τ 140 0 = mxT 0 := by rw [e0, show n0 τ = 47 by omega]; rfl
      exact QU.no h (by rw [U_type, if_neg (fun q => q.2.2 (by rw [c0]; exact hne))]) (by rw [A_type, if_pos ⟨h1, h2⟩, c0, if_pos hne])
  · rw [if_neg (by decide)]
    refine ⟨tx_4, fun c => ?_, fun c => ?_⟩
    · rw [t4, t2, i_lt, nI_toInt (by omega), show (8 : Int32).toInt = 8 from by decide] at c
      have c' : n1 τ < 8 := by omega
      have hne : ¬ τ 140 1 = mxT 1 := by rw [e1, show mxT 1 = nI 8 from rfl, nI_eq (by omega) (by omega)]; omega
      have eU : U_type τ 1 b = gw_u (gw_u τ 141 (47 + n1 τ) b) 140 1 (nI (n1 τ + 1)) := by rw [U_type, if_pos ⟨h1, h2, by rw [c1]; exact hne⟩, c1, e1, i_cl (show n1 τ < 2 ^ 31 by omega), nI_1]
      have en1 : n1 (U_type τ 1 b) = n1 τ + 1 := by rw [eU]; unfold n1; rw [gw_self, i_cl (by unfold n1 at c'; omega)]
      have en0 : n0 (U_type τ 1 b) = n0 τ := by rw [eU]; unfold n0; rw [gw_nj (by decide), gw_ne (by decide)]
      rw [t4, i_cl (show n1 τ < 2 ^ 31 by omega)]
      refine ⟨vp_in_nI (show n1 τ < 47 by omega) (by decide), fun s8 q8 s9 q9 => (sp s9 ?_ ?_ ?_ ?_ ?_ ?_ ?_).mono ?_⟩
      · intro k a2 a3 a4 a5
        rw [q9, gw_ne a4, q8, gw_ne a5]
      · rw [q9, gw_ne (by decide), q8, gw_ne (by decide), t1]
      · rw [q9, gw_nj (by decide), q8, gw_ne (by decide), t2]
      · rw [q9, gw_ne (by decide), q8, gw_ne (by decide), t3, en0]
      · rw [q9, gw_self, q8, gw_ne (by decide), t4, nI_1, en1]
      · rw [en0, eU, q9, gw_ne (by decide), gw_ne (by decide), q8, gw_ne (by decide)]
        intro j hj
        rw [t5 j hj, gw_nj (by omega)]
      · rw [en1, eU, q9, gw_ne (by decide), gw_ne (by decide), q8]
        intro j hj
        rw [gw_at, gw_at]
        by_cases ej : j = n1 τ
        · simp [ej]
        · have : ¬ 47 + j = 47 + n1 τ := by omega
          simp [ej, t6 j (by omega)]
      · rintro _ σ2 ⟨rfl, g1, g2, g3, g4, g5⟩
        refine ⟨rfl, ?_, g1, Or.inr g2, g3⟩
        rw [g5, en1, A_type, if_pos ⟨h1, h2⟩, c1, if_neg hne, e1, nI_1]
    · rw [t4, t2, i_lt, nI_toInt (by omega), show (8 : Int32).toInt = 8 from by decide] at c
      have hne : τ 140 1 = mxT 1 := by rw [e1, show n1 τ = 8 by omega]; rfl
      exact QU.no h (by rw [U_type, if_neg (fun q => q.2.2 (by rw [c1]; exact hne))]) (by rw [A_type, if_pos ⟨h1, h2⟩, c1, if_pos hne])
theorem m_type {d : Nat} {t b : Int32} {τ σ : gw_S} (hw : WF τ) (h : TM τ σ) : gB (d + 2) mX9_type [.ref 1, .int t, .int b] σ (QN (U_type τ t b) σ (A_type τ t b)) := by
  have bad : ¬ (okT t ∧ okY b) → QN (U_type τ t b) σ (A_type τ t b) (some (.int (-2))) σ := fun c => QN.no h (by rw [U_type, if_neg (fun q => c ⟨q.1, q.2.1⟩)]) (by rw [A_type, if_neg c])
  refine eX9_type (gB_det s_isText ?_)
  rw [bi_congr (by rw [lt_k (c := 1) (c' := 2) (by decide)] : (0 ≤ t ∧ t ≤ 1) ↔ okT t)]
  refine ⟨_, rfl, br_bj (fun h1 => ?_) (fun h1 => bad (fun q => h1 q.1))⟩
  refine gB_det s_in ?_
  rw [bi_congr (by rw [lt_k (c := 255) (c' := 256) (by decide)] : (0 ≤ b ∧ b ≤ 255) ↔ okY b)]
  refine ⟨_, rfl, br_bi (fun h2 => ?_) (fun h2 => bad (fun q => h2 q.2))⟩
  have e0 := n0_e hw
  have e1 := n1_e hw
  have l0 := hw.1.2.1
  have l1 := hw.1.2.2.2
  have k0 : σ 140 = τ 140 := h.1 140 (by decide)
  rcases okT_n h1 with rfl | rfl
  · have v0 : vp_in 0 2 := vp_in_nI (show 0 < 2 by decide) (by decide)
    refine ⟨v0, fun c => absurd rfl c, fun _ => ?_⟩
    rw [c0, k0, e0, show (47 : Int32) * 0 + nI (n0 τ) = nI (n0 τ) by simp, i_cl (show n0 τ < 2 ^ 31 by omega)]
    refine ⟨fun c => ⟨v0, vp_in_nI (by omega) (by decide), fun s7 q7 => ⟨v0, v0, fun s8 q8 => ⟨v0, ?_⟩⟩⟩, fun c => QN.no h (by rw [U_type, if_neg (fun q => q.2.2 (by rw [c0, e0]; exact c))]) (by rw [A_type, if_pos ⟨h1, h2⟩, c0, e0, if_pos (show nI (n0 τ) = mxT 0 from c)])⟩
    have eU : U_type τ 0 b = gw_u (gw_u τ 141 (n0 τ) b) 140 0 (nI (n0 τ) + 1) := by rw [U_type, if_pos ⟨h1, h2, by rw [c0, e0]; exact c⟩, c0, e0, i_cl (show n0 τ < 2 ^ 31 by omega)]; simp
    have e8 : s8 140 0 = nI (n0 τ) + 1 := by rw [q8, gw_self, q7, gw_ne (by decide), k0, e0]
    refine ⟨?_, ?_, ?_⟩
    · rw [A_type, if_pos ⟨h1, h2⟩, c0, e0, if_neg (show ¬ nI (n0 τ) = mxT 0 from c), e8]
    · rw [eU, q8, q7, gw_ne (show (140 : Nat) ≠ 141 by decide), k0, e0]
      exact h.u.u
    · rw [q8, q7]
      exact (FMo.u (by decide)).tr (FMo.u (by decide))
  · have v0 : vp_in 1 2 := vp_in_nI (show 1 < 2 by decide) (by decide)
    refine ⟨v0, fun _ => ?_, fun c => absurd c (by decide)⟩
    rw [c1, k0, e1, show (47 : Int32) * 1 + nI (n1 τ) = nI (47 + n1 τ) by rw [← nI_add]; rfl, i_cl (show 47 + n1 τ < 2 ^ 31 by omega)]
    refine ⟨fun c => ⟨v0, vp_in_nI (by omega) (by decide), fun s7 q7 => ⟨v0, v0, fun s8 q8 => ⟨v0, ?_⟩⟩⟩, fun c => QN.no h (by rw [U_type, if_neg (fun q => q.2.2 (by rw [c1, e1]; exact c))]) (by rw [A_type, if_pos ⟨h1, h2⟩, c1, e1, if_pos (show nI (n1 τ) = mxT 1 from c)])⟩
    have eU : U_type τ 1 b = gw_u (gw_u τ 141 (47 + n1 τ) b) 140 1 (nI (n1 τ) + 1) := by rw [U_type, if_pos ⟨h1, h2, by rw [c1, e1]; exact c⟩, c1, e1, i_cl (show n1 τ < 2 ^ 31 by omega)]
    have e8 : s8 140 1 = nI (n1 τ) + 1 := by rw [q8, gw_self, q7, gw_ne (by decide), k0, e1]
    refine ⟨?_, ?_, ?_⟩
    · rw [A_type, if_pos ⟨h1, h2⟩, c1, e1, if_neg (show ¬ nI (n1 τ) = mxT 1 from c), e8]
    · rw [eU, q8, q7, gw_ne (show (140 : Nat) ≠ 141 by decide), k0, e1]
      exact h.u.u
    · rw [q8, q7]
      exact (FMo.u (by decide)).tr (FMo.u (by decide))
/-! wipe, undo -/
def A_wipe (τ : gw_S) (t : Int32) : Int32 := if okT t then τ 140 t.toNatClampNeg else -2
def U_wipe (τ : gw_S) (t : Int32) : gw_S := if okT t then gw_u τ 140 t.toNatClampNeg 0 else τ
theorem x_140 {τ : gw_S} {j : Nat} {v : Int32} : ∀ k, k ≠ 140 → k ≠ 141 → gw_u τ 140 j v k = τ k := fun k h1 _ => gw_ne h1
theorem w_140 {τ : gw_S} {t : Int32} {n : Nat} (hw : WF τ) (ht : okT t) (hn : nI n = 0 ∧ n = 0 ∨ nI n + 1 = τ 140 t.toNatClampNeg ∧ n < 47 ∧ (t = 1 → n < 8)) : WF (gw_u τ 140 t.toNatClampNeg (nI n)) ∧ n0 (gw_u τ 140 t.toNatClampNeg (nI n)) = (if t = 0 then n else n0 τ) ∧ n1 (gw_u τ 140 t.toNatClampNeg (nI n)) = (if t = 0 then n1 τ else n) := by
  have e0 := n0_e hw
  have e1 := n1_e hw
  have l0 := hw.1.2.1
  have l1 := hw.1.2.2.2
  rcases okT_n ht with rfl | rfl
  · rw [if_pos rfl, if_pos rfl]
    exact hw.txt x_140 (by rw [c0, gw_self]) (by omega) (by rw [c0, gw_nj (by decide), e1]) l1
  · rw [if_neg (by decide), if_neg (by decide)]
    exact hw.txt x_140 (by rw [c1, gw_nj (by decide), e0]) l0 (by rw [c1, gw_self]) (hn.elim (fun q => by omega) (fun q => Nat.le_of_lt (q.2.2 rfl)))
theorem s_take2 {d : Nat} {τ σ s : gw_S} {t : Int32} {n : Nat} (hw : WF τ) (h : TC τ σ) (ht : okT t) (hn : nI n = 0 ∧ n = 0 ∨ nI n + 1 = τ 140 t.toNatClampNeg ∧ n < 47 ∧ (t = 1 → n < 8)) (hs : s = gw_u σ (if t = 0 then 2 else 4) 2 (nI n)) : gB (d + 4) mX8_takeTexts [.ref 0] s (fun v σ' => v = none ∧ TC (gw_u τ 140 t.toNatClampNeg (nI n)) σ' ∧ FG σ' ∧ FCl σ σ' ∧ σ' (if t = 0 then 2 else 4) 2 = nI n) := by
  have e0 := n0_e hw
  have e1 := n1_e hw
  have l0 := hw.1.2.1
  have l1 := hw.1.2.2.2
  obtain ⟨⟨t1, t2, t3, t4, t5, t6, t7, t8⟩, -⟩ := id h
  obtain ⟨w1, w2, w3⟩ := w_140 hw ht hn
  have sp := s_take (d := d) (s := s) (σ := σ) w1 x_140 h
  rw [w2, w3] at sp
  rcases okT_n ht with rfl | rfl
  · rw [if_pos rfl] at hs sp ⊢
    rw [if_pos rfl] at sp
    refine (sp ?_ ?_ ?_ ?_ ?_ ?_ ?_).mono ?_
    · intro k a2 a3 a4 a5
      rw [hs, gw_ne a2]
    · rw [hs, gw_nj (by decide), t1]
    · rw [hs, gw_ne (by decide), t2]
    · rw [hs, gw_self]
    · rw [hs, gw_ne (by decide), t4]
    · intro j hj
      rw [hs, gw_ne (by decide), gw_ne (by decide)]
      refine t5 j ?_
      rcases hn with q | q
      · omega
      · have := q.1
        rw [c0, e0, nI_1, nI_eq (by omega) (by omega)] at this
        omega
    · intro j hj
      rw [hs, gw_ne (by decide), gw_ne (by decide)]
      exact t6 j hj
    · rintro _ σ2 ⟨rfl, g1, g2, g3, g4, g5⟩
      exact ⟨rfl, g1, g2, g3, g4⟩
  · rw [if_neg (by decide)] at hs sp ⊢
    rw [if_neg (by decide)] at sp
    refine (sp ?_ ?_ ?_ ?_ ?_ ?_ ?_).mono ?_
    · intro k a2 a3 a4 a5
      rw [hs, gw_ne a4]
    · rw [hs, gw_ne (by decide), t1]
    · rw [hs, gw_nj (by decide), t2]
    · rw [hs, gw_ne (by decide), t3]
    · rw [hs, gw_self]
    · intro j hj
      rw [hs, gw_ne (by decide), gw_ne (by decide)]
      exact t5 j hj
    · intro j hj
      rw [hs, gw_ne (by decide), gw_ne (by decide)]
      refine t6 j ?_
      rcases hn with q | q
      · omega
      · have := q.1
        rw [c1, e1, nI_1, nI_eq (by omega) (by omega)] at this
        omega
    · rintro _ σ2 ⟨rfl, g1, g2, g3, g4, g5⟩
      exact ⟨rfl, g1, g2, g3, g5⟩
theorem t_sz {τ σ : gw_S} {t : Int32} (hw : WF τ) (h : TC τ σ) (ht : okT t) : σ (if t = 0 then 2 else 4) 2 = τ 140 t.toNatClampNeg := by
  obtain ⟨⟨t1, t2, t3, t4, t5, t6, t7, t8⟩, -⟩ := h
  rcases okT_n ht with rfl | rfl
  · rw [if_pos rfl, c0, t3, n0_e hw]
  · rw [if_neg (by decide), c1, t4, n1_e hw]
theorem t_tx {t : Int32} : gw_tx (if t = 0 then 2 else 4) := by
  split
  · exact tx_2
  · exact tx_4
theorem c_wipe {d : Nat} {t : Int32} {τ σ : gw_S} (hw : WF τ) (h : TC τ σ) : gB (d + 5) mX8_wipe [.ref 0, .int t] σ (QU τ (U_wipe τ t) σ (A_wipe τ t)) := by
  refine eX8_wipe (gB_det s_isWithin ⟨_, rfl, br_bi (fun h1 => ?_) (fun h1 => QU.no h (by rw [U_wipe, if_neg h1]) (by rw [A_wipe, if_neg h1]))⟩)
  refine gB_det s_textOf ⟨_, rfl, t_tx, fun s6 q6 => (s_take2 (n := 0) hw h h1 (Or.inl ⟨rfl, rfl⟩) q6).mono ?_⟩
  rintro _ σ2 ⟨rfl, g1, g2, g3, g4⟩
  refine ⟨rfl, ?_, ?_, Or.inr g2, g3⟩
  · rw [A_wipe, if_pos h1, t_sz hw h h1]
  · rw [U_wipe, if_pos h1]; exact g1
theorem w_wipe {τ : gw_S} {t : Int32} (hw : WF τ) : WF (U_wipe τ t) := by
  by_cases c : okT t
  · rw [U_wipe, if_pos c]; exact (w_140 (n := 0) hw c (Or.inl ⟨rfl, rfl⟩)).1
  · rw [U_wipe, if_neg c]; exact hw
theorem okT_v {t : Int32} (h : okT t) : vp_in t 2 := by
  rcases okT_n h with rfl | rfl
  · exact vp_in_nI (show 0 < 2 by decide) (by decide)
  · exact vp_in_nI (show 1 < 2 by decide) (by decide)
theorem s_isText2 {d : Nat} {x : Int32} {σ : gw_S} : gB (d + 1) mX9_isText [.int x] σ (fun v σ' => v = some (.int (bi (okT x))) ∧ σ' = σ) := gB_det s_isText ⟨bi_sm (by rw [lt_k (c := 1) (c' := 2) (by decide)]), rfl⟩
theorem m_wipe {d : Nat} {t : Int32} {τ σ : gw_S} (h : TM τ σ) : gB (d + 2) mX9_wipe [.ref 1, .int t] σ (QN (U_wipe τ t) σ (A_wipe τ t)) := by
  refine eX9_wipe (gB_det s_isText2 ⟨_, rfl, br_bi (fun h1 => ⟨okT_v h1, okT_v h1, fun s3 q3 => ?_⟩) (fun h1 => QN.no h (by rw [U_wipe, if_neg h1]) (by rw [A_wipe, if_neg h1]))⟩)
  refine ⟨by rw [A_wipe, if_pos h1, h.1 140 (by decide)], ?_, by rw [q3]; exact FMo.u (by decide)⟩
  rw [U_wipe, if_pos h1, q3]
  exact h.u
def A_undo (τ : gw_S) (t : Int32) : Int32 := if okT t then (if τ 140 t.toNatClampNeg = 0 then -3 else τ 140 t.toNatClampNeg - 1) else -2
def U_undo (τ : gw_S) (t : Int32) : gw_S := if okT t ∧ ¬ τ 140 t.toNatClampNeg = 0 then gw_u τ 140 t.toNatClampNeg (τ 140 t.toNatClampNeg - 1) else τ
theorem undo_n {τ : gw_S} {t : Int32} (hw : WF τ) (h1 : okT t) (hz : ¬ τ 140 t.toNatClampNeg = 0) : ∃ n, τ 140 t.toNatClampNeg - 1 = nI n ∧ (nI n + 1 = τ 140 t.toNatClampNeg ∧ n < 47 ∧ (t = 1 → n < 8)) := by
  have e0 := n0_e hw
  have e1 := n1_e hw
  have l0 := hw.1.2.1
  have l1 := hw.1.2.2.2
  rcases okT_n h1 with rfl | rfl
  · rw [c0, e0] at hz ⊢
    have : n0 τ ≠ 0 := fun q => hz (by rw [q]; rfl)
    refine ⟨n0 τ - 1, by rw [← nI_sub (by omega)]; rfl, ?_, by omega, fun q => absurd q (by decide)⟩
    rw [nI_1]
    congr 1
    omega
  · rw [c1, e1] at hz ⊢
    have : n1 τ ≠ 0 := fun q => hz (by rw [q]; rfl)
    refine ⟨n1 τ - 1, by rw [← nI_sub (by omega)]; rfl, ?_, by omega, fun q => by omega⟩
    rw [nI_1]
    congr 1
    omega
theorem w_undo {τ : gw_S} {t : Int32} (hw : WF τ) : WF (U_undo τ t) := by
  by_cases c : okT t ∧ ¬ τ 140 t.toNatClampNeg = 0
  · obtain ⟨n, e, hn⟩ := undo_n hw c.1 c.2
    rw [U_undo, if_pos c, e]; exact (w_140 hw c.1 (Or.inr hn)).1
  · rw [U_undo, if_neg c]; exact hw
theorem c_undo {d : Nat} {t : Int32} {τ σ : gw_S} (hw : WF τ) (h : TC τ σ) : gB (d + 5) mX8_undo [.ref 0, .int t] σ (QU τ (U_undo τ t) σ (A_undo τ t)) := by
  refine eX8_undo (gB_det s_isWithin ⟨_, rfl, br_bi (fun h1 => ?_) (fun h1 => QU.no h (by rw [U_undo, if_neg (fun q => h1 q.1)]) (by rw [A_undo, if_neg h1]))⟩)
  refine gB_det s_textOf ⟨_, rfl, t_tx, ?_⟩
  rw [t_sz hw h h1]
  refine ⟨fun hz s6 q6 => ?_, fun hz => QU.no h (by rw [U_undo, if_neg (fun q => q.2 hz)]) (by rw [A_undo, if_pos h1, if_pos hz])⟩
  obtain ⟨n, e, hn⟩ := undo_n hw h1 hz
  rw [e] at q6
  refine (s_take2 (n := n) hw h h1 (Or.inr hn) q6).mono ?_
  rintro _ σ2 ⟨rfl, g1, g2, g3, g4⟩
  refine ⟨rfl, ?_, ?_, Or.inr g2, g3⟩
  · rw [A_undo, if_pos h1, if_neg hz, g4, e]
  · rw [U_undo, if_pos ⟨h1, hz⟩, e]; exact g1
theorem m_undo {d : Nat} {t : Int32} {τ σ : gw_S} (h : TM τ σ) : gB (d + 2) mX9_undo [.ref 1, .int t] σ (QN (U_undo τ t) σ (A_undo τ t)) := by
  refine eX9_undo (gB_det s_isText2 ⟨_, rfl, br_bi (fun h1 => ⟨okT_v h1, ?_⟩) (fun h1 => QN.no h (by rw [U_undo, if_neg (fun q => h1 q.1)]) (by rw [A_undo, if_neg h1]))⟩)
  rw [h.1 140 (by decide)]
  refine ⟨fun hz => ⟨okT_v h1, okT_v h1, fun s3 q3 => ⟨okT_v h1, ?_⟩⟩, fun hz => QN.no h (by rw [U_undo, if_neg (fun q => q.2 hz)]) (by rw [A_undo, if_pos h1, if_pos hz])⟩
  refine ⟨by rw [A_undo, if_pos h1, if_neg hz, q3, gw_self], ?_, by rw [q3]; exact FMo.u (by decide)⟩
  rw [U_undo, if_pos ⟨h1, hz⟩, q3]
  exact h.u
