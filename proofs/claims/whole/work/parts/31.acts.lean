theorem TCt.fr {τ σ σ' : gw_S} (h : TCt τ σ) (hf : ∀ k ∈ [2, 3, 4, 5, 7, 8, 9, 10, 17, 18], σ' k = σ k) : TCt τ σ' := by
  obtain ⟨t1, t2, t3, t4, t5, t6, t7, t8⟩ := h
  refine ⟨?_, ?_, ?_, ?_, ?_, ?_, t7.fr (fun k hk => hf k (by revert hk; simp only [List.mem_cons, List.not_mem_nil, or_false]; omega)), ?_⟩
  · rw [hf 2 (by decide)]; exact t1
  · rw [hf 4 (by decide)]; exact t2
  · rw [hf 2 (by decide)]; exact t3
  · rw [hf 4 (by decide)]; exact t4
  · rw [hf 3 (by decide)]; exact t5
  · rw [hf 5 (by decide)]; exact t6
  · unfold SG at t8 ⊢
    rw [hf 17 (by decide), hf 18 (by decide)]; exact t8
theorem TCw.fr {τ σ σ' : gw_S} (h : TCw τ σ) (hf : ∀ k ∈ [22, 23, 24, 25], σ' k = σ k) : TCw τ σ' := by
  unfold TCw at h ⊢
  rw [hf 22 (by decide), hf 23 (by decide), hf 24 (by decide), hf 25 (by decide)]; exact h
theorem TCs.fr {τ σ σ' : gw_S} (h : TCs τ σ) (hf : ∀ k, 28 ≤ k → k < 34 → σ' k = σ k) (h0 : σ' 0 13 = σ 0 13) : TCs τ σ' := by
  unfold TCs at h ⊢
  rw [hf 32 (by decide) (by decide), hf 33 (by decide) (by decide), h0]
  refine ⟨fun s hs => ?_, h.2⟩
  rw [hf (28 + s) (by omega) (by omega)]
  exact h.1 s hs
/-- the class forgets its days: texts, weighings and sheets stand -/
theorem TC.acts {τ τ' σ σ' : gw_S} (h : TC τ σ) (e : ∀ k ∈ [140, 141, 164, 165, 166, 168, 169, 170, 171], τ' k = τ k) (e1 : ∀ j ∈ [36, 46], τ' 1 j = τ 1 j) (hf : ∀ k, k ≠ 0 → k ≠ 6 → k ≠ 11 → k ≠ 12 → k ≠ 13 → k ≠ 14 → k ≠ 15 → k ≠ 16 → σ' k = σ k) (h0 : σ' 0 13 = σ 0 13) (ha : TCa τ' σ') : TC τ' σ' := by
  refine ⟨(h.1.fr (fun k hk => hf k ?_ ?_ ?_ ?_ ?_ ?_ ?_ ?_)).ct (fun k hk => e k ?_), ha, (h.2.2.1.fr (fun k hk => hf k ?_ ?_ ?_ ?_ ?_ ?_ ?_ ?_)).ct (fun k hk => e k ?_) (e1 36 (by decide)), (h.2.2.2.fr (fun k h1 h2 => hf k ?_ ?_ ?_ ?_ ?_ ?_ ?_ ?_) h0).ct (fun k hk => e k ?_) (e1 46 (by decide))⟩
  all_goals first | omega | (revert hk; simp only [List.mem_cons, List.not_mem_nil, or_false]; omega)
/-! burst -/
abbrev okV (x : Int32) : Prop := 1 ≤ x ∧ x ≤ 200
def A_burst (τ : gw_S) (v : Int32) : Int32 := if okV v then τ 1 9 else -2
def U_burst (τ : gw_S) (v : Int32) : gw_S := if okV v then gw_u τ 1 9 v else τ
theorem w_burst {τ : gw_S} {v : Int32} (hw : WF τ) : WF (U_burst τ v) := by
  by_cases c : okV v
  · rw [U_burst, if_pos c]
    obtain ⟨w1, w2, w3, w4, w5, w6⟩ := hw
    unfold WF n0 n1 nH nA nW okAct at *
    simp only [gw_at] at *
    simp at *
    exact ⟨w1, w2, c, w4, w5, w6⟩
  · rw [U_burst, if_neg c]; exact hw
theorem gw_2 {σ : gw_S} {k i j : Nat} {v : Int32} (h : j ≠ i) : gw_u σ k i v k j = σ k j := gw_nj h
theorem c_burst {d : Nat} {v : Int32} {τ σ : gw_S} (h : TC τ σ) : gB (d + 1) mX8_burst [.ref 0, .int v] σ (QU τ (U_burst τ v) σ (A_burst τ v)) := by
  have bad : ¬ okV v → QU τ (U_burst τ v) σ (A_burst τ v) (some (.int (-2))) σ := fun c => QU.no h (by rw [U_burst, if_neg c]) (by rw [A_burst, if_neg c])
  refine eX8_burst ⟨fun c => bad (fun q => ?_), fun c => ⟨fun c2 s1 q1 => gB_det s_forgetDays ⟨rfl, ?_⟩, fun c2 => bad (fun q => c2 q.2)⟩⟩
  · rw [i_lt] at c
    have := i_le.mp q.1
    omega
  · have hv : okV v := ⟨by rw [i_lt] at c; rw [i_le]; omega, c2⟩
    have k : ∀ k, k ≠ 0 → k ≠ 6 → gw_u (gw_u s1 0 10 1) 0 11 (-1) k = σ k := fun k a b => by rw [gw_ne a, gw_ne a, q1, gw_ne b]
    have k6 : ∀ j, j ≠ 4 → gw_u (gw_u s1 0 10 1) 0 11 (-1) 6 j = σ 6 j := fun j a => by rw [gw_ne (by decide), gw_ne (by decide), q1, gw_nj a]
    refine ⟨?_, ?_, Or.inr ⟨by rw [gw_nj (by decide), gw_self], gw_self⟩, fun m hm => k m (by omega) (by omega)⟩
    · rw [A_burst, if_pos hv, h.2.1.2.2.2.2]
    · rw [U_burst, if_pos hv]
      refine h.acts (fun k hk => gw_ne ?_) (fun j hj => gw_nj ?_) (fun m a b _ _ _ _ _ _ => k m a b) (by rw [gw_nj (by decide), gw_nj (by decide), q1, gw_ne (by decide)]) ?_
      · rintro rfl; revert hk; decide
      · rintro rfl; revert hj; decide
      · obtain ⟨a1, a2, a3, a4, a5⟩ := h.2.1
        have n1 : nA (gw_u τ 1 9 v) = nA τ := by unfold nA; rw [gw_nj (by decide)]
        have n2 : nH (gw_u τ 1 9 v) = nH τ := by unfold nH; rw [gw_nj (by decide)]
        unfold TCa
        have k64 : gw_u (gw_u s1 0 10 1) 0 11 (-1) 6 4 = v := by rw [gw_ne (by decide), gw_ne (by decide), q1, gw_self]
        rw [n1, n2, k 11 (by decide) (by decide), k 12 (by decide) (by decide), k 13 (by decide) (by decide), k 14 (by decide) (by decide), k 15 (by decide) (by decide), k 16 (by decide) (by decide), k6 3 (by decide), k64, gw_self, gw_ne (show (147 : Nat) ≠ 1 by decide), gw_ne (show (148 : Nat) ≠ 1 by decide), gw_ne (show (149 : Nat) ≠ 1 by decide), gw_ne (show (150 : Nat) ≠ 1 by decide), gw_ne (show (151 : Nat) ≠ 1 by decide)]
        exact ⟨a1, a2, a3, a4, rfl⟩
theorem m_burst {d : Nat} {v : Int32} {τ σ : gw_S} (h : TM τ σ) : gB (d + 1) mX9_burst [.ref 1, .int v] σ (QN (U_burst τ v) σ (A_burst τ v)) := by
  refine eX9_burst (gB_det s_in ⟨_, rfl, br_bi (fun c s3 q3 => ⟨?_, ?_, ?_⟩) (fun c => QN.no h (by rw [U_burst, if_neg c]) (by rw [A_burst, if_neg c]))⟩)
  · rw [A_burst, if_pos c, h.2 9 (by decide)]
  · rw [U_burst, if_pos c, q3]; exact h.u
  · rw [q3]; exact FMo.u (by decide)
/-! hot -/
def A_hot (τ : gw_S) (x : Int32) : Int32 := if okD x then (if τ 1 10 = 8 then -4 else τ 1 10 + 1) else -2
def U_hot (τ : gw_S) (x : Int32) : gw_S := if okD x ∧ ¬ τ 1 10 = 8 then gw_u (gw_u τ 147 (nH τ) x) 1 10 (nI (nH τ + 1)) else τ
theorem hot_n {τ : gw_S} (hw : WF τ) (h : ¬ τ 1 10 = 8) : nH τ < 8 := by
  have h1 := hw.2.1.1
  have h2 := hw.2.1.2.1
  have : nH τ ≠ 8 := fun q => h (by rw [h1, q]; rfl)
  omega
theorem nH_u {τ : gw_S} {j n : Nat} {x : Int32} (hn : n < 8) : nH (gw_u (gw_u τ 147 j x) 1 10 (nI (n + 1))) = n + 1 := by
  unfold nH; rw [gw_self, i_cl (show n + 1 < 2 ^ 31 by omega)]
theorem w_hot {τ : gw_S} {x : Int32} (hw : WF τ) : WF (U_hot τ x) := by
  by_cases c : okD x ∧ ¬ τ 1 10 = 8
  · rw [U_hot, if_pos c]
    have hn := hot_n hw c.2
    obtain ⟨w1, w2, w3, w4, w5, w6⟩ := hw
    refine ⟨?_, ⟨?_, ?_, ?_⟩, ?_, ?_, ?_, ?_⟩
    · unfold n0 n1 at *
      rw [gw_ne (by decide), gw_ne (by decide)]; exact w1
    · rw [nH_u hn, gw_self]
    · rw [nH_u hn]; omega
    · rw [nH_u hn, gw_ne (by decide)]
      intro j hj
      rw [gw_at]
      by_cases e : j = nH τ
      · obtain ⟨D, hD, rfl⟩ := okD_n c.1
        exact ⟨D, hD, by simp [e]⟩
      · simp only [e, and_false, if_false]
        exact w2.2.2 j (by omega)
    · rw [gw_nj (by decide), gw_ne (by decide)]; exact w3
    · unfold nA okAct at *
      rw [gw_nj (by decide)]
      simp only [gw_ne (show (148 : Nat) ≠ 1 by decide), gw_ne (show (149 : Nat) ≠ 1 by decide), gw_ne (show (150 : Nat) ≠ 1 by decide), gw_ne (show (151 : Nat) ≠ 1 by decide), gw_ne (show (148 : Nat) ≠ 147 by decide), gw_ne (show (149 : Nat) ≠ 147 by decide), gw_ne (show (150 : Nat) ≠ 147 by decide), gw_ne (show (151 : Nat) ≠ 147 by decide), gw_ne (show (1 : Nat) ≠ 147 by decide)]
      exact w4
    · unfold nW at *
      rw [gw_nj (by decide)]
      simp only [gw_ne (show (164 : Nat) ≠ 1 by decide), gw_ne (show (165 : Nat) ≠ 1 by decide), gw_ne (show (166 : Nat) ≠ 1 by decide), gw_ne (show (164 : Nat) ≠ 147 by decide), gw_ne (show (165 : Nat) ≠ 147 by decide), gw_ne (show (166 : Nat) ≠ 147 by decide), gw_ne (show (1 : Nat) ≠ 147 by decide)]
      exact w5
    · simp only [gw_ne (show (168 : Nat) ≠ 1 by decide), gw_ne (show (169 : Nat) ≠ 1 by decide), gw_ne (show (170 : Nat) ≠ 1 by decide), gw_ne (show (168 : Nat) ≠ 147 by decide), gw_ne (show (169 : Nat) ≠ 147 by decide), gw_ne (show (170 : Nat) ≠ 147 by decide)]
      exact w6
  · rw [U_hot, if_neg c]; exact hw
theorem c_hot {d : Nat} {x : Int32} {τ σ : gw_S} (hw : WF τ) (h : TC τ σ) : gB (d + 1) mX8_hot [.ref 0, .int x] σ (QU τ (U_hot τ x) σ (A_hot τ x)) := by
  refine eX8_hot (gB_det s_isWithin ⟨_, rfl, br_bi (fun h1 => ?_) (fun h1 => QU.no h (by rw [U_hot, if_neg (fun q => h1 q.1)]) (by rw [A_hot, if_neg h1]))⟩)
  have e10 := hw.2.1.1
  have l8 := hw.2.1.2.1
  obtain ⟨a1, a2, a3, a4, a5⟩ := h.2.1
  rw [a3, i_lt, nI_toInt (by omega), show (8 : Int32).toInt = 8 from by decide, i_cl (show nH τ < 2 ^ 31 by omega)]
  refine ⟨fun c => ⟨vp_in_nI (by omega) (by decide), fun s3 q3 s4 q4 => gB_det s_forgetDays ⟨rfl, ?_⟩⟩, fun c => ?_⟩
  · have hn : nH τ < 8 := by omega
    have hne : ¬ τ 1 10 = 8 := by rw [e10, show (8 : Int32) = nI 8 from rfl, nI_eq (by omega) (by omega)]; omega
    have k : ∀ k, k ≠ 0 → k ≠ 6 → k ≠ 16 → gw_u (gw_u s4 0 10 1) 0 11 (-1) k = σ k := fun k a b c => by rw [gw_ne a, gw_ne a, q4, gw_ne b, q3, gw_ne c]
    have k6 : gw_u (gw_u s4 0 10 1) 0 11 (-1) 6 3 = nI (nH τ + 1) := by rw [gw_ne (by decide), gw_ne (by decide), q4, gw_self, q3, gw_ne (by decide), a3, nI_1]
    have k64 : gw_u (gw_u s4 0 10 1) 0 11 (-1) 6 4 = σ 6 4 := by rw [gw_ne (by decide), gw_ne (by decide), q4, gw_nj (by decide), q3, gw_ne (by decide)]
    refine ⟨?_, ?_, Or.inr ⟨by rw [gw_nj (by decide), gw_self], gw_self⟩, fun m hm => k m (by omega) (by omega) (by omega)⟩
    · rw [k6, A_hot, if_pos h1, if_neg hne, e10, nI_1]
    · rw [U_hot, if_pos ⟨h1, hne⟩]
      refine h.acts (fun k hk => ?_) (fun j hj => ?_) (fun m a b _ _ _ _ _ c => k m a b c) (by rw [gw_nj (by decide), gw_nj (by decide), q4, gw_ne (by decide), q3, gw_ne (by decide)]) ?_
      · rw [gw_ne (by rintro rfl; revert hk; decide), gw_ne (by rintro rfl; revert hk; decide)]
      · rw [gw_nj (by rintro rfl; revert hj; decide), gw_ne (by decide)]
      · have n1 : nA (gw_u (gw_u τ 147 (nH τ) x) 1 10 (nI (nH τ + 1))) = nA τ := by unfold nA; rw [gw_nj (by decide), gw_ne (by decide)]
        unfold TCa
        rw [n1, nH_u hn, k 11 (by decide) (by decide) (by decide), k 12 (by decide) (by decide) (by decide), k 13 (by decide) (by decide) (by decide), k 14 (by decide) (by decide) (by decide), k 15 (by decide) (by decide) (by decide), k6, k64, gw_nj (show (9 : Nat) ≠ 10 by decide), gw_ne (show (1 : Nat) ≠ 147 by decide), gw_ne (show (16 : Nat) ≠ 0 by decide), gw_ne (show (16 : Nat) ≠ 0 by decide), q4, gw_ne (show (16 : Nat) ≠ 6 by decide), q3]
        refine ⟨a1, fun a ha => ?_, rfl, fun j hj => ?_, a5⟩
        · rw [gw_ne (by decide), gw_ne (by decide), gw_ne (by decide), gw_ne (by decide), gw_ne (by decide), gw_ne (by decide), gw_ne (by decide), gw_ne (by decide)]
          exact a2 a ha
        · rw [gw_ne (show (147 : Nat) ≠ 1 by decide), gw_at, gw_at]
          by_cases e : j = nH τ
          · simp [e]
          · simp [e, a4 j (by omega)]
  · have hne : τ 1 10 = 8 := by rw [e10, show nH τ = 8 by omega]; rfl
    exact QU.no h (by rw [U_hot, if_neg (fun q => q.2 hne)]) (by rw [A_hot, if_pos h1, if_pos hne])
theorem m_hot {d : Nat} {x : Int32} {τ σ : gw_S} (hw : WF τ) (h : TM τ σ) : gB (d + 2) mX9_hot [.ref 1, .int x] σ (QN (U_hot τ x) σ (A_hot τ x)) := by
  refine eX9_hot (gB_det s_isDay2 ⟨_, rfl, br_bi (fun h1 => ?_) (fun h1 => QN.no h (by rw [U_hot, if_neg (fun q => h1 q.1)]) (by rw [A_hot, if_neg h1]))⟩)
  rw [h.2 10 (by decide)]
  refine ⟨fun c => ?_, fun c => QN.no h (by rw [U_hot, if_neg (fun q => q.2 c)]) (by rw [A_hot, if_pos h1, if_pos c])⟩
  have hn := hot_n hw c
  have e10 := hw.2.1.1
  rw [e10, i_cl (show nH τ < 2 ^ 31 by omega)]
  refine ⟨vp_in_nI hn (by decide), fun s3 q3 s4 q4 => ⟨?_, ?_, ?_⟩⟩
  · rw [q4, gw_self, q3, gw_ne (by decide), h.2 10 (by decide), A_hot, if_pos h1, if_neg c]
  · rw [U_hot, if_pos ⟨h1, c⟩, q4, q3, gw_ne (show (1 : Nat) ≠ 147 by decide), h.2 10 (by decide), e10, nI_1]
    exact h.u.u
  · rw [q4, q3]
    exact (FMo.u (by decide)).tr (FMo.u (by decide))
