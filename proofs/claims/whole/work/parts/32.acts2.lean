/-! act -/
def mxA (k : Int32) : Int32 := if k = 0 then 6 else if k = 1 then 8 else 1
abbrev okA (D k b t : Int32) : Prop := okD D ∧ (0 ≤ k ∧ k < 4) ∧ okE b ∧ 0 ≤ t ∧ t < mxA k
def A_act (τ : gw_S) (D k b t : Int32) : Int32 := if okA D k b t then (if τ 1 12 = 16 then -4 else τ 1 12 + 1) else -2
def V_act (τ : gw_S) (n : Nat) (D k b t : Int32) : gw_S := gw_u (gw_u (gw_u (gw_u (gw_u τ 148 n D) 149 n k) 150 n b) 151 n t) 1 12 (nI (n + 1))
def U_act (τ : gw_S) (D k b t : Int32) : gw_S := if okA D k b t ∧ ¬ τ 1 12 = 16 then V_act τ (nA τ) D k b t else τ
theorem act_n {τ : gw_S} (hw : WF τ) (h : ¬ τ 1 12 = 16) : nA τ < 16 := by
  have h1 := hw.2.2.2.1.1
  have h2 := hw.2.2.2.1.2.1
  have : nA τ ≠ 16 := fun q => h (by rw [h1, q]; rfl)
  omega
theorem V_ne {τ : gw_S} {n : Nat} {D k b t : Int32} {m : Nat} (h1 : m ≠ 1) (h2 : m < 148 ∨ 151 < m) : V_act τ n D k b t m = τ m := by
  unfold V_act
  rw [gw_ne h1, gw_ne (by omega), gw_ne (by omega), gw_ne (by omega), gw_ne (by omega)]
theorem V_1 {τ : gw_S} {n : Nat} {D k b t : Int32} {j : Nat} (h : j ≠ 12) : V_act τ n D k b t 1 j = τ 1 j := by
  unfold V_act
  rw [gw_nj h, gw_ne (by decide), gw_ne (by decide), gw_ne (by decide), gw_ne (by decide)]
theorem V_12 {τ : gw_S} {n : Nat} {D k b t : Int32} : V_act τ n D k b t 1 12 = nI (n + 1) := gw_self
theorem V_nA {τ : gw_S} {n : Nat} {D k b t : Int32} (hn : n < 16) : nA (V_act τ n D k b t) = n + 1 := by
  unfold nA; rw [V_12, i_cl (show n + 1 < 2 ^ 31 by omega)]
theorem V_at {τ : gw_S} {n : Nat} {D k b t : Int32} {a : Nat} : V_act τ n D k b t 148 a = (if a = n then D else τ 148 a) ∧ V_act τ n D k b t 149 a = (if a = n then k else τ 149 a) ∧ V_act τ n D k b t 150 a = (if a = n then b else τ 150 a) ∧ V_act τ n D k b t 151 a = (if a = n then t else τ 151 a) := by
  unfold V_act
  simp [gw_at]
theorem mxA_n {k t : Int32} (h1 : 0 ≤ t) (h : t < mxA k) : ∃ x, x < 8 ∧ t = nI x := by
  refine i_in (by decide) h1 ?_
  have := i_lt.mp h
  have m : (mxA k).toInt ≤ 8 := by
    unfold mxA
    split
    · decide
    · split <;> decide
  show t.toInt < 8
  omega
theorem w_act {τ : gw_S} {D k b t : Int32} (hw : WF τ) : WF (U_act τ D k b t) := by
  by_cases c : okA D k b t ∧ ¬ τ 1 12 = 16
  · rw [U_act, if_pos c]
    have hn := act_n hw c.2
    obtain ⟨w1, w2, w3, w4, w5, w6⟩ := hw
    refine ⟨?_, ?_, ?_, ⟨?_, ?_, ?_⟩, ?_, ?_⟩
    · unfold n0 n1 at *
      rw [V_ne (by decide) (by decide)]; exact w1
    · unfold nH at *
      rw [V_1 (by decide), V_ne (by decide) (by decide)]; exact w2
    · rw [V_1 (by decide)]; exact w3
    · rw [V_nA hn, V_12]
    · rw [V_nA hn]; omega
    · rw [V_nA hn]
      intro a ha
      unfold okAct
      rw [V_at.1, V_at.2.1, V_at.2.2.1, V_at.2.2.2]
      by_cases e : a = nA τ
      · simp only [e, if_true]
        refine ⟨okD_n c.1.1, i_in (by decide) c.1.2.1.1 (i_lt.mp c.1.2.1.2), okE_n c.1.2.2.1, mxA_n c.1.2.2.2.1 c.1.2.2.2.2⟩
      · simp only [e, if_false]
        exact w4.2.2 a (by omega)
    · unfold nW at *
      rw [V_1 (by decide), V_ne (by decide) (by decide), V_ne (by decide) (by decide), V_ne (by decide) (by decide)]; exact w5
    · rw [V_ne (by decide) (by decide), V_ne (by decide) (by decide), V_ne (by decide) (by decide)]; exact w6
  · rw [U_act, if_neg c]; exact hw
theorem s_mayBe {d : Nat} {D k b t : Int32} {σ : gw_S} : gB (d + 1) mX8_mayBeAct [.int D, .int k, .int b, .int t] σ (fun v σ' => v = some (.int (bi (okA D k b t))) ∧ σ' = σ) := by
  refine eX8_mayBeAct (gB_det s_isWithin ⟨_, rfl, br_bj (fun h1 => ?_) (fun h1 => ⟨by rw [bi_f (fun q => h1 q.1)], rfl⟩)⟩)
  refine gB_det s_isWithin ⟨_, rfl, br_bj (fun h2 => ?_) (fun h2 => ⟨by rw [bi_f (fun q => h2 q.2.1)], rfl⟩)⟩
  refine gB_det s_isWithin ⟨_, rfl, br_bi (fun h3 => ?_) (fun h3 => ⟨by rw [bi_f (fun q => h3 q.2.2.1)], rfl⟩)⟩
  refine ⟨fun c => ⟨fun c2 => gB_det s_isWithin ⟨_, rfl, bi_nar, bi_sm ?_, rfl⟩, fun c2 => gB_det s_isWithin ⟨_, rfl, bi_nar, bi_sm ?_, rfl⟩⟩, fun c => gB_det s_isWithin ⟨_, rfl, bi_nar, bi_sm ?_, rfl⟩⟩
  · have e : mxA k = 1 := by rw [mxA, if_neg c, if_neg c2]
    exact ⟨fun q => ⟨h1, h2, h3, by rw [e]; exact q⟩, fun q => by have := q.2.2.2; rw [e] at this; exact this⟩
  · have e : mxA k = 8 := by rw [mxA, if_neg c, if_pos c2]
    exact ⟨fun q => ⟨h1, h2, h3, by rw [e]; exact q⟩, fun q => by have := q.2.2.2; rw [e] at this; exact this⟩
  · have e : mxA k = 6 := by rw [mxA, if_pos c]
    exact ⟨fun q => ⟨h1, h2, h3, by rw [e]; exact q⟩, fun q => by have := q.2.2.2; rw [e] at this; exact this⟩
theorem c_act {d : Nat} {D k b t : Int32} {τ σ : gw_S} (hw : WF τ) (h : TC τ σ) : gB (d + 2) mX8_act [.ref 0, .int D, .int k, .int b, .int t] σ (QU τ (U_act τ D k b t) σ (A_act τ D k b t)) := by
  refine eX8_act (gB_det s_mayBe ⟨_, rfl, br_bi (fun h1 => ?_) (fun h1 => QU.no h (by rw [U_act, if_neg (fun q => h1 q.1)]) (by rw [A_act, if_neg h1]))⟩)
  have e12 := hw.2.2.2.1.1
  have l16 := hw.2.2.2.1.2.1
  obtain ⟨a1, a2, a3, a4, a5⟩ := h.2.1
  rw [a1, i_lt, nI_toInt (by omega), show (16 : Int32).toInt = 16 from by decide, i_cl (show nA τ < 2 ^ 31 by omega)]
  refine ⟨fun c => ?_, fun c => ?_⟩
  · have hn : nA τ < 16 := by omega
    have hne : ¬ τ 1 12 = 16 := by rw [e12, show (16 : Int32) = nI 16 from rfl, nI_eq (by omega) (by omega)]; omega
    have vi : vp_in (nI (nA τ)) 16 := vp_in_nI hn (by decide)
    refine ⟨vi, fun s3 q3 => ⟨vi, fun s4 q4 => ⟨vi, fun s5 q5 => ⟨vi, fun s6 q6 s7 q7 => gB_det s_forgetDays ⟨rfl, ?_⟩⟩⟩⟩⟩
    have kk : ∀ m, m ≠ 0 → m ≠ 11 → m ≠ 12 → m ≠ 13 → m ≠ 14 → m ≠ 15 → gw_u (gw_u s7 0 10 1) 0 11 (-1) m = σ m := fun m b0 b1 b2 b3 b4 b5 => by rw [gw_ne b0, gw_ne b0, q7, gw_ne b1, q6, gw_ne b5, q5, gw_ne b4, q4, gw_ne b3, q3, gw_ne b2]
    have k4 : gw_u (gw_u s7 0 10 1) 0 11 (-1) 11 4 = nI (nA τ + 1) := by rw [gw_ne (by decide), gw_ne (by decide), q7, gw_self, q6, gw_ne (by decide), q5, gw_ne (by decide), q4, gw_ne (by decide), q3, gw_ne (by decide), a1, nI_1]
    refine ⟨?_, ?_, Or.inr ⟨by rw [gw_nj (by decide), gw_self], gw_self⟩, fun m hm => kk m (by omega) (by omega) (by omega) (by omega) (by omega) (by omega)⟩
    · rw [k4, A_act, if_pos h1, if_neg hne, e12, nI_1]
    · rw [U_act, if_pos ⟨h1, hne⟩]
      refine h.acts (fun m hm => V_ne ?_ ?_) (fun j hj => V_1 ?_) (fun m b0 _ b1 b2 b3 b4 b5 _ => kk m b0 b1 b2 b3 b4 b5) (by rw [gw_nj (by decide), gw_nj (by decide), q7, gw_ne (by decide), q6, gw_ne (by decide), q5, gw_ne (by decide), q4, gw_ne (by decide), q3, gw_ne (by decide)]) ?_
      · rintro rfl; revert hm; decide
      · revert hm; simp only [List.mem_cons, List.not_mem_nil, or_false]; omega
      · rintro rfl; revert hj; decide
      · have nh : nH (V_act τ (nA τ) D k b t) = nH τ := by unfold nH; rw [V_1 (by decide)]
        unfold TCa
        rw [V_nA hn, nh, k4, kk 6 (by decide) (by decide) (by decide) (by decide) (by decide) (by decide), kk 16 (by decide) (by decide) (by decide) (by decide) (by decide) (by decide), V_1 (show (9 : Nat) ≠ 12 by decide), V_ne (show (147 : Nat) ≠ 1 by decide) (by decide)]
        refine ⟨rfl, fun a ha => ?_, a3, a4, a5⟩
        rw [V_at.1, V_at.2.1, V_at.2.2.1, V_at.2.2.2, q7, q6, q5, q4, q3]
        by_cases e : a = nA τ
        · simp [gw_at, e]
        · have := a2 a (by omega)
          simp [gw_at, e, this.1, this.2.1, this.2.2.1, this.2.2.2]
  · have hne : τ 1 12 = 16 := by rw [e12, show nA τ = 16 by omega]; rfl
    exact QU.no h (by rw [U_act, if_neg (fun q => q.2 hne)]) (by rw [A_act, if_pos h1, if_pos hne])
theorem m_act {d : Nat} {D k b t : Int32} {τ σ : gw_S} (hw : WF τ) (h : TM τ σ) : gB (d + 2) mX9_act [.ref 1, .int D, .int k, .int b, .int t] σ (QN (U_act τ D k b t) σ (A_act τ D k b t)) := by
  have bad : ¬ okA D k b t → QN (U_act τ D k b t) σ (A_act τ D k b t) (some (.int (-2))) σ := fun h1 => QN.no h (by rw [U_act, if_neg (fun q => h1 q.1)]) (by rw [A_act, if_neg h1])
  have go : ∀ s0 : Int32, (∀ x : Int32, x ≤ s0 ↔ x < mxA k) → gG (d + 2) mX9_act 19 [some (.ref 1), some (.int D), some (.int k), some (.int b), some (.int t), none] [.int s0] σ (QN (U_act τ D k b t) σ (A_act τ D k b t)) := by
    intro s0 hs
    refine bX9_act_19 (gB_det s_isDay2 ⟨_, rfl, br_bj (fun h1 => ?_) (fun h1 => bad (fun q => h1 q.1))⟩)
    refine gB_det s_in ?_
    rw [bi_congr (by rw [lt_k (c := 3) (c' := 4) (by decide)] : (0 ≤ k ∧ k ≤ 3) ↔ (0 ≤ k ∧ k < 4))]
    refine ⟨_, rfl, br_bj (fun h2 => ?_) (fun h2 => bad (fun q => h2 q.2.1))⟩
    refine gB_det s_isEight2 ⟨_, rfl, br_bj (fun h3 => ?_) (fun h3 => bad (fun q => h3 q.2.2.1))⟩
    refine gB_det s_in ?_
    rw [bi_congr (by rw [hs] : (0 ≤ t ∧ t ≤ s0) ↔ (0 ≤ t ∧ t < mxA k))]
    refine ⟨_, rfl, br_bi (fun h4 => ?_) (fun h4 => bad (fun q => h4 q.2.2.2))⟩
    have ok : okA D k b t := ⟨h1, h2, h3, h4⟩
    have k1 : σ 1 12 = τ 1 12 := h.2 12 (by decide)
    rw [k1]
    refine ⟨fun c => ?_, fun c => QN.no h (by rw [U_act, if_neg (fun q => q.2 c)]) (by rw [A_act, if_pos ok, if_pos c])⟩
    have hn := act_n hw c
    have e12 := hw.2.2.2.1.1
    have vi : vp_in (nI (nA τ)) 16 := vp_in_nI hn (by decide)
    have ic : (nI (nA τ)).toNatClampNeg = nA τ := i_cl (show nA τ < 2 ^ 31 by omega)
    rw [e12, ic]
    refine ⟨vi, fun s9 q9 => ?_⟩
    have e9 : s9 1 12 = nI (nA τ) := by rw [q9, gw_ne (by decide), k1, e12]
    rw [e9, ic]
    refine ⟨vi, fun s10 q10 => ?_⟩
    have e10 : s10 1 12 = nI (nA τ) := by rw [q10, gw_ne (by decide), e9]
    rw [e10, ic]
    refine ⟨vi, fun s11 q11 => ?_⟩
    have e11 : s11 1 12 = nI (nA τ) := by rw [q11, gw_ne (by decide), e10]
    rw [e11, ic]
    refine ⟨vi, fun s12 q12 s13 q13 => ?_⟩
    have e12' : s12 1 12 = nI (nA τ) := by rw [q12, gw_ne (by decide), e11]
    rw [e12', nI_1] at q13
    refine ⟨?_, ?_, ?_⟩
    · rw [q13, gw_self, A_act, if_pos ok, if_neg c, e12, nI_1]
    · rw [U_act, if_pos ⟨ok, c⟩, q13, q12, q11, q10, q9]
      exact h.u.u.u.u.u
    · rw [q13, q12, q11, q10, q9]
      exact ((((FMo.u (by decide)).tr (FMo.u (by decide))).tr (FMo.u (by decide))).tr (FMo.u (by decide))).tr (FMo.u (by decide))
  refine eX9_act ⟨fun c => ⟨fun c2 => go 0 (fun x => ?_), fun c2 => go 7 (fun x => ?_)⟩, fun c => go 5 (fun x => ?_)⟩
  · rw [mxA, if_neg c, if_neg c2, lt_k (c := 0) (c' := 1) (by decide)]
  · rw [mxA, if_neg c, if_pos c2, lt_k (c := 7) (c' := 8) (by decide)]
  · rw [mxA, if_pos c, lt_k (c := 5) (c' := 6) (by decide)]
/-! back -/
def A_back (τ : gw_S) (w : Int32) : Int32 := if okT w then (if τ 1 (if w = 0 then 12 else 10) = 0 then -3 else τ 1 (if w = 0 then 12 else 10) - 1) else -2
def U_back (τ : gw_S) (w : Int32) : gw_S := if okT w ∧ ¬ τ 1 (if w = 0 then 12 else 10) = 0 then gw_u τ 1 (if w = 0 then 12 else 10) (τ 1 (if w = 0 then 12 else 10) - 1) else τ
theorem back_A {τ : gw_S} (hw : WF τ) (h : ¬ τ 1 12 = 0) : ∃ n, nA τ = n + 1 ∧ τ 1 12 - 1 = nI n ∧ n < 16 := by
  have h1 := hw.2.2.2.1.1
  have h2 := hw.2.2.2.1.2.1
  have : nA τ ≠ 0 := fun q => h (by rw [h1, q]; rfl)
  refine ⟨nA τ - 1, by omega, ?_, by omega⟩
  rw [h1, ← nI_sub (by omega)]; rfl
theorem back_H {τ : gw_S} (hw : WF τ) (h : ¬ τ 1 10 = 0) : ∃ n, nH τ = n + 1 ∧ τ 1 10 - 1 = nI n ∧ n < 8 := by
  have h1 := hw.2.1.1
  have h2 := hw.2.1.2.1
  have : nH τ ≠ 0 := fun q => h (by rw [h1, q]; rfl)
  refine ⟨nH τ - 1, by omega, ?_, by omega⟩
  rw [h1, ← nI_sub (by omega)]; rfl
theorem w_12 {τ : gw_S} {n : Nat} (hw : WF τ) (hn : n ≤ nA τ) : WF (gw_u τ 1 12 (nI n)) ∧ nA (gw_u τ 1 12 (nI n)) = n := by
  have l16 := hw.2.2.2.1.2.1
  have en : nA (gw_u τ 1 12 (nI n)) = n := by unfold nA; rw [gw_self, i_cl (show n < 2 ^ 31 by omega)]
  obtain ⟨w1, w2, w3, w4, w5, w6⟩ := hw
  refine ⟨⟨?_, ?_, ?_, ⟨?_, ?_, ?_⟩, ?_, ?_⟩, en⟩
  · unfold n0 n1 at *
    rw [gw_ne (by decide)]; exact w1
  · unfold nH at *
    rw [gw_nj (by decide), gw_ne (by decide)]; exact w2
  · rw [gw_nj (by decide)]; exact w3
  · rw [en, gw_self]
  · rw [en]; omega
  · rw [en]
    intro a ha
    unfold okAct
    rw [gw_ne (by decide), gw_ne (by decide), gw_ne (by decide), gw_ne (by decide)]
    exact w4.2.2 a (by omega)
  · unfold nW at *
    rw [gw_nj (by decide), gw_ne (by decide), gw_ne (by decide), gw_ne (by decide)]; exact w5
  · rw [gw_ne (by decide), gw_ne (by decide), gw_ne (by decide)]; exact w6
theorem w_10 {τ : gw_S} {n : Nat} (hw : WF τ) (hn : n ≤ nH τ) : WF (gw_u τ 1 10 (nI n)) ∧ nH (gw_u τ 1 10 (nI n)) = n := by
  have l8 := hw.2.1.2.1
  have en : nH (gw_u τ 1 10 (nI n)) = n := by unfold nH; rw [gw_self, i_cl (show n < 2 ^ 31 by omega)]
  obtain ⟨w1, w2, w3, w4, w5, w6⟩ := hw
  refine ⟨⟨?_, ⟨?_, ?_, ?_⟩, ?_, ?_, ?_, ?_⟩, en⟩
  · unfold n0 n1 at *
    rw [gw_ne (by decide)]; exact w1
  · rw [en, gw_self]
  · rw [en]; omega
  · rw [en, gw_ne (by decide)]
    exact fun j hj => w2.2.2 j (by omega)
  · rw [gw_nj (by decide)]; exact w3
  · unfold nA okAct at *
    rw [gw_nj (by decide), gw_ne (by decide), gw_ne (by decide), gw_ne (by decide), gw_ne (by decide)]; exact w4
  · unfold nW at *
    rw [gw_nj (by decide), gw_ne (by decide), gw_ne (by decide), gw_ne (by decide)]; exact w5
  · rw [gw_ne (by decide), gw_ne (by decide), gw_ne (by decide)]; exact w6
theorem w_back {τ : gw_S} {w : Int32} (hw : WF τ) : WF (U_back τ w) := by
  by_cases c : okT w ∧ ¬ τ 1 (if w = 0 then 12 else 10) = 0
  · rw [U_back, if_pos c]
    by_cases e : w = 0
    · have c2 := c.2
      rw [if_pos e] at c2 ⊢
      obtain ⟨n, h1, h2, h3⟩ := back_A hw c2
      rw [h2]; exact (w_12 hw (by omega)).1
    · have c2 := c.2
      rw [if_neg e] at c2 ⊢
      obtain ⟨n, h1, h2, h3⟩ := back_H hw c2
      rw [h2]; exact (w_10 hw (by omega)).1
  · rw [U_back, if_neg c]; exact hw
theorem c_back {d : Nat} {w : Int32} {τ σ : gw_S} (hw : WF τ) (h : TC τ σ) : gB (d + 1) mX8_back [.ref 0, .int w] σ (QU τ (U_back τ w) σ (A_back τ w)) := by
  obtain ⟨a1, a2, a3, a4, a5⟩ := h.2.1
  have e12 := hw.2.2.2.1.1
  have e10 := hw.2.1.1
  refine eX8_back (gB_det s_isWithin ⟨_, rfl, br_bi (fun h1 => ⟨fun c => bX8_back_35 ?_, fun c => bX8_back_35 ?_⟩) (fun h1 => QU.no h (by rw [U_back, if_neg (fun q => h1 q.1)]) (by rw [A_back, if_neg h1]))⟩)
  · rw [a3, ← e10]
    refine ⟨fun hz => ⟨fun _ s3 q3 => gB_det s_forgetDays ⟨rfl, ?_⟩, fun q => absurd q c⟩, fun hz => QU.no h (by rw [U_back, if_neg (fun q => q.2 (by rw [if_neg c]; exact hz))]) (by rw [A_back, if_pos h1, if_neg c, if_pos hz])⟩
    obtain ⟨n, g1, g2, g3⟩ := back_H hw hz
    rw [g2] at q3
    have k : ∀ k, k ≠ 0 → k ≠ 6 → gw_u (gw_u s3 0 10 1) 0 11 (-1) k = σ k := fun k a b => by rw [gw_ne a, gw_ne a, q3, gw_ne b]
    refine ⟨by rw [A_back, if_pos h1, if_neg c, if_neg hz], ?_, Or.inr ⟨by rw [gw_nj (by decide), gw_self], gw_self⟩, fun m hm => k m (by omega) (by omega)⟩
    rw [U_back, if_pos ⟨h1, by rw [if_neg c]; exact hz⟩, if_neg c, g2]
    refine h.acts (fun m hm => gw_ne ?_) (fun j hj => gw_nj ?_) (fun m a b _ _ _ _ _ _ => k m a b) (by rw [gw_nj (by decide), gw_nj (by decide), q3, gw_ne (by decide)]) ?_
    · rintro rfl; revert hm; decide
    · rintro rfl; revert hj; decide
    · have n1 : nA (gw_u τ 1 10 (nI n)) = nA τ := by unfold nA; rw [gw_nj (by decide)]
      unfold TCa
      rw [n1, (w_10 hw (show n ≤ nH τ by omega)).2, k 11 (by decide) (by decide), k 12 (by decide) (by decide), k 13 (by decide) (by decide), k 14 (by decide) (by decide), k 15 (by decide) (by decide), k 16 (by decide) (by decide), gw_nj (show (9 : Nat) ≠ 10 by decide), gw_ne (show (147 : Nat) ≠ 1 by decide), gw_ne (show (148 : Nat) ≠ 1 by decide), gw_ne (show (149 : Nat) ≠ 1 by decide), gw_ne (show (150 : Nat) ≠ 1 by decide), gw_ne (show (151 : Nat) ≠ 1 by decide)]
      refine ⟨a1, a2, ?_, fun j hj => a4 j (by omega), ?_⟩
      · rw [gw_ne (by decide), gw_ne (by decide), q3, gw_self]
      · rw [gw_ne (by decide), gw_ne (by decide), q3, gw_nj (by decide)]; exact a5
  · rw [a1, ← e12]
    refine ⟨fun hz => ⟨fun q => absurd c q, fun _ s3 q3 => gB_det s_forgetDays ⟨rfl, ?_⟩⟩, fun hz => QU.no h (by rw [U_back, if_neg (fun q => q.2 (by rw [if_pos c]; exact hz))]) (by rw [A_back, if_pos h1, if_pos c, if_pos hz])⟩
    obtain ⟨n, g1, g2, g3⟩ := back_A hw hz
    rw [g2] at q3
    have k : ∀ k, k ≠ 0 → k ≠ 11 → gw_u (gw_u s3 0 10 1) 0 11 (-1) k = σ k := fun k a b => by rw [gw_ne a, gw_ne a, q3, gw_ne b]
    refine ⟨by rw [A_back, if_pos h1, if_pos c, if_neg hz], ?_, Or.inr ⟨by rw [gw_nj (by decide), gw_self], gw_self⟩, fun m hm => k m (by omega) (by omega)⟩
    rw [U_back, if_pos ⟨h1, by rw [if_pos c]; exact hz⟩, if_pos c, g2]
    refine h.acts (fun m hm => gw_ne ?_) (fun j hj => gw_nj ?_) (fun m a _ b _ _ _ _ _ => k m a b) (by rw [gw_nj (by decide), gw_nj (by decide), q3, gw_ne (by decide)]) ?_
    · rintro rfl; revert hm; decide
    · rintro rfl; revert hj; decide
    · have n1 : nH (gw_u τ 1 12 (nI n)) = nH τ := by unfold nH; rw [gw_nj (by decide)]
      unfold TCa
      rw [n1, (w_12 hw (show n ≤ nA τ by omega)).2, k 6 (by decide) (by decide), k 12 (by decide) (by decide), k 13 (by decide) (by decide), k 14 (by decide) (by decide), k 15 (by decide) (by decide), k 16 (by decide) (by decide), gw_nj (show (9 : Nat) ≠ 12 by decide), gw_ne (show (147 : Nat) ≠ 1 by decide), gw_ne (show (148 : Nat) ≠ 1 by decide), gw_ne (show (149 : Nat) ≠ 1 by decide), gw_ne (show (150 : Nat) ≠ 1 by decide), gw_ne (show (151 : Nat) ≠ 1 by decide)]
      refine ⟨?_, fun a ha => a2 a (by omega), a3, a4, a5⟩
      rw [gw_ne (by decide), gw_ne (by decide), q3, gw_self]
theorem gw_sub0 {σ : gw_S} {k j : Nat} : gw_u σ k j (σ k j - 0) = σ := by
  funext a b
  rw [gw_at]
  split
  · rename_i q
    rw [q.1, q.2]
    simp
  · rfl
theorem m_back {d : Nat} {w : Int32} {τ σ : gw_S} (h : TM τ σ) : gB (d + 2) mX9_back [.ref 1, .int w] σ (QN (U_back τ w) σ (A_back τ w)) := by
  have k12 : σ 1 12 = τ 1 12 := h.2 12 (by decide)
  have k10 : σ 1 10 = τ 1 10 := h.2 10 (by decide)
  refine eX9_back (gB_det s_in ?_)
  rw [bi_congr (by rw [lt_k (c := 1) (c' := 2) (by decide)] : (0 ≤ w ∧ w ≤ 1) ↔ okT w)]
  refine ⟨_, rfl, br_bi (fun h1 => ⟨fun c => bX9_back_27 ?_, fun c => bX9_back_27 ?_⟩) (fun h1 => QN.no h (by rw [U_back, if_neg (fun q => h1 q.1)]) (by rw [A_back, if_neg h1]))⟩
  · rw [k10]
    have w1 : w = 1 := (okT_n h1).resolve_left c
    refine ⟨fun hz => ⟨fun _ s3 q3 => ⟨fun q => absurd w1 q, fun _ s5 q5 => ?_⟩, fun q => absurd q c⟩, fun hz => QN.no h (by rw [U_back, if_neg (fun q => q.2 (by rw [if_neg c]; exact hz))]) (by rw [A_back, if_pos h1, if_neg c, if_pos hz])⟩
    rw [gw_sub0] at q3
    have m3 : TM τ s3 := by rw [q3]; exact h
    refine ⟨by rw [A_back, if_pos h1, if_neg c, if_neg hz], ?_, by rw [q5, q3]; exact FMo.u (by decide)⟩
    rw [U_back, if_pos ⟨h1, by rw [if_neg c]; exact hz⟩, if_neg c, q5, m3.2 10 (by decide)]
    exact m3.u
  · rw [k12]
    refine ⟨fun hz => ⟨fun q => absurd c q, fun _ s6 q6 => ⟨fun _ s7 q7 => by
    rw [gw_sub0] at q7
    exact ⟨by rw [A_back, if_pos h1, if_pos c, if_neg hz], by rw [U_back, if_pos ⟨h1, by rw [if_pos c]; exact hz⟩, if_pos c, q7, q6]; exact h.u, by rw [q7, q6]; exact FMo.u (by decide)⟩, fun q => absurd (c.symm.trans q) (by decide)⟩⟩, fun hz => QN.no h (by rw [U_back, if_neg (fun q => q.2 (by rw [if_pos c]; exact hz))]) (by rw [A_back, if_pos h1, if_pos c, if_pos hz])⟩
