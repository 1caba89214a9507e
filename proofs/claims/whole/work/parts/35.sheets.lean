/-! what the days know of what was told -/
theorem NB_sd {τ τ' : gw_S} (h : SD τ τ') : NB τ' = NB τ ∧ NL τ' = NL τ ∧ f0 τ' = f0 τ ∧ g0 τ' = g0 τ ∧ nA τ' = nA τ := by
  unfold NB NL g0 f0 n0 n1 nA
  rw [h.1 140 (by decide), h.1 141 (by decide), h.2 12 (by decide)]
  exact ⟨rfl, rfl, rfl, rfl, rfl⟩
theorem sActs_sd {τ τ' : gw_S} (h : SD τ τ') {n : Nat} {w D : Int32} {m : Nat} {S : gw_S} : sActs n τ' w D m S = sActs n τ w D m S := by
  unfold sActs
  refine itN_congr m S (fun i hi T => ?_)
  unfold sAct
  rw [h.1 148 (by decide), h.1 149 (by decide), h.1 150 (by decide), h.1 151 (by decide)]
theorem hotF_sd {τ τ' : gw_S} (h : SD τ τ') : hotF τ' = hotF τ := by
  unfold hotF nH
  rw [h.1 147 (by decide), h.2 10 (by decide)]
theorem simG_sd {τ τ' : gw_S} (h : SD τ τ') {w o t : Int32} : ∀ k, simG τ' w o t k = simG τ w o t k
  | 0 => by
    obtain ⟨e1, -, e2, -⟩ := NB_sd h
    show sBegin (NB τ') (Vt τ' o t) (Mt τ' o t) (Ct τ' o t) = sBegin (NB τ) (Vt τ o t) (Mt τ o t) (Ct τ o t)
    unfold Vt Mt Ct
    rw [e1, e2]
  | k + 1 => by
    obtain ⟨e1, -, e2, -, e3⟩ := NB_sd h
    rw [simG_s, simG_s, simG_sd h k]
    unfold cDay
    rw [e1, e2, e3, hotF_sd h, sActs_sd h, h.2 9 (by decide)]
theorem CN.sd {τ τ' σ : gw_S} (hc : CN τ σ) (h : SD τ τ') : CN τ' σ := by
  intro q
  obtain ⟨K, h1, h2, h3⟩ := hc q
  obtain ⟨e1, -, e2, -, e3⟩ := NB_sd h
  refine ⟨K, h1, h2, ?_⟩
  rw [e1, e2, simT_G, simG_sd h]
  exact h3
theorem Rp.eqv {n : Nat} {So : Nat → Bool} {S c c' : gw_S} (h : Rp n So S c) (e : ∀ i, i < 8 → c' i = c i) : Rp n So S c' := by
  unfold Rp RpA RpU RpV RpW RpO RpS pcl at *
  rw [e 0 (by decide), e 1 (by decide), e 2 (by decide), e 3 (by decide), e 4 (by decide), e 5 (by decide), e 6 (by decide), e 7 (by decide)]
  exact h
theorem CN.kp {τ σ σ' : gw_S} (hc : CN τ σ) (h : KP σ σ') : CN τ σ' := by
  intro q
  rw [h.1] at q
  obtain ⟨K, h1, h2, h3⟩ := hc q
  refine ⟨K, h1, by rw [h.2.2.2 36 (by decide) (by decide)]; exact h2, ?_⟩
  exact h3.eqv (fun i hi => h.2.2.2 (36 + i) (by omega) (by omega))
theorem SD.tr {τ τ1 τ2 : gw_S} (h : SD τ τ1) (h2 : SD τ1 τ2) : SD τ τ2 := ⟨fun k hk => (h2.1 k hk).trans (h.1 k hk), fun k hk => (h2.2 k hk).trans (h.2 k hk)⟩
theorem SD.u {τ : gw_S} {k j : Nat} {v : Int32} (h : k = 1 ∧ j = 36 ∨ k = 1 ∧ j = 46 ∨ 160 ≤ k) : SD τ (gw_u τ k j v) := by
  refine ⟨fun m hm => gw_ne ?_, fun i hi => ?_⟩
  · revert hm; simp only [List.mem_cons, List.not_mem_nil, or_false]; omega
  · rw [gw_at, if_neg]
    revert hi; simp only [List.mem_cons, List.not_mem_nil, or_false]; omega
theorem KP.u {σ : gw_S} {k j : Nat} {v : Int32} (h : k = 0 ∧ j = 13 ∨ 1 ≤ k ∧ k < 36) : KP σ (gw_u σ k j v) := by
  refine ⟨?_, ?_, ?_, fun m h1 h2 => gw_ne (by omega)⟩ <;> (rw [gw_at, if_neg]; omega)
theorem KP.tr {σ σ1 σ2 : gw_S} (h : KP σ σ1) (h2 : KP σ1 σ2) : KP σ σ2 := ⟨h2.1.trans h.1, h2.2.1.trans h.2.1, h2.2.2.1.trans h.2.2.1, fun m a b => (h2.2.2.2 m a b).trans (h.2.2.2 m a b)⟩
/-! weighed, forget -/
abbrev okM (x : Int32) : Prop := 0 ≤ x ∧ x < 1000
abbrev okW (D b m : Int32) : Prop := okD D ∧ okE b ∧ okM m
def A_weighed (τ : gw_S) (D b m : Int32) : Int32 := if okW D b m then (if τ 1 36 = 8 then -4 else τ 1 36 + 1) else -2
def V_wei (τ : gw_S) (n : Nat) (D b m : Int32) : gw_S := gw_u (gw_u (gw_u (gw_u τ 164 n D) 165 n b) 166 n m) 1 36 (nI (n + 1))
def U_weighed (τ : gw_S) (D b m : Int32) : gw_S := if okW D b m ∧ ¬ τ 1 36 = 8 then V_wei τ (nW τ) D b m else τ
theorem VW_nW {τ : gw_S} {n : Nat} {D b m : Int32} (hn : n < 8) : nW (V_wei τ n D b m) = n + 1 := by
  unfold nW V_wei; rw [gw_self, i_cl (show n + 1 < 2 ^ 31 by omega)]
theorem VW_at {τ : gw_S} {n : Nat} {D b m : Int32} {a : Nat} : V_wei τ n D b m 164 a = (if a = n then D else τ 164 a) ∧ V_wei τ n D b m 165 a = (if a = n then b else τ 165 a) ∧ V_wei τ n D b m 166 a = (if a = n then m else τ 166 a) := by
  unfold V_wei
  simp [gw_at]
theorem VW_ne {τ : gw_S} {n : Nat} {D b m : Int32} {k : Nat} (h1 : k ≠ 1) (h2 : k < 164 ∨ 166 < k) : V_wei τ n D b m k = τ k := by
  unfold V_wei
  rw [gw_ne h1, gw_ne (by omega), gw_ne (by omega), gw_ne (by omega)]
theorem VW_1 {τ : gw_S} {n : Nat} {D b m : Int32} {j : Nat} (h : j ≠ 36) : V_wei τ n D b m 1 j = τ 1 j := by
  unfold V_wei
  rw [gw_nj h, gw_ne (by decide), gw_ne (by decide), gw_ne (by decide)]
theorem wei_n {τ : gw_S} (hw : WF τ) (h : ¬ τ 1 36 = 8) : nW τ < 8 := by
  have h1 := hw.2.2.2.2.1.1
  have h2 := hw.2.2.2.2.1.2.1
  have : nW τ ≠ 8 := fun q => h (by rw [h1, q]; rfl)
  omega
theorem w_weighed {τ : gw_S} {D b m : Int32} (hw : WF τ) : WF (U_weighed τ D b m) := by
  by_cases c : okW D b m ∧ ¬ τ 1 36 = 8
  · rw [U_weighed, if_pos c]
    have hn := wei_n hw c.2
    obtain ⟨w1, w2, w3, w4, w5, w6⟩ := hw
    refine ⟨?_, ?_, ?_, ?_, ⟨?_, ?_, ?_⟩, ?_⟩
    · unfold n0 n1 at *
      rw [VW_ne (by decide) (by decide)]; exact w1
    · unfold nH at *
      rw [VW_1 (by decide), VW_ne (by decide) (by decide)]; exact w2
    · rw [VW_1 (by decide)]; exact w3
    · unfold nA okAct at *
      rw [VW_1 (by decide), VW_ne (by decide) (by decide), VW_ne (by decide) (by decide), VW_ne (by decide) (by decide), VW_ne (by decide) (by decide)]; exact w4
    · rw [VW_nW hn]; unfold V_wei; rw [gw_self]
    · rw [VW_nW hn]; omega
    · rw [VW_nW hn]
      intro a ha
      rw [VW_at.1, VW_at.2.1, VW_at.2.2]
      by_cases e : a = nW τ
      · simp only [e, if_true]
        exact ⟨okD_n c.1.1, okE_n c.1.2.1, i_in (by decide) c.1.2.2.1 (i_lt.mp c.1.2.2.2)⟩
      · simp only [e, if_false]
        exact w5.2.2 a (by omega)
    · rw [VW_ne (by decide) (by decide), VW_ne (by decide) (by decide), VW_ne (by decide) (by decide)]; exact w6
  · rw [U_weighed, if_neg c]; exact hw
theorem TC.wei {τ τ' σ σ' : gw_S} (h : TC τ σ) (e : ∀ k ∈ [140, 141, 147, 148, 149, 150, 151, 168, 169, 170, 171], τ' k = τ k) (e1 : ∀ j ∈ [9, 10, 12, 46], τ' 1 j = τ 1 j) (hf : ∀ k, k < 22 ∨ 26 ≤ k → σ' k = σ k) (ha : TCw τ' σ') : TC τ' σ' := by
  refine ⟨(h.1.fr (fun k hk => hf k ?_)).ct (fun k hk => e k ?_), (h.2.1.fr (fun k hk => hf k ?_)).ct (fun k hk => e k ?_) (fun k hk => e1 k ?_), ha, (h.2.2.2.fr (fun k h1 h2 => hf k ?_) (by rw [hf 0 (by decide)])).ct (fun k hk => e k ?_) (e1 46 (by decide))⟩
  all_goals first | omega | (revert hk; simp only [List.mem_cons, List.not_mem_nil, or_false]; omega)
theorem c_weighed {d : Nat} {D b m : Int32} {τ σ : gw_S} (hw : WF τ) (h : TC τ σ) : gB (d + 1) mX8_weighed [.ref 0, .int D, .int b, .int m] σ (QU τ (U_weighed τ D b m) σ (A_weighed τ D b m)) := by
  have bad : ¬ okW D b m → QU τ (U_weighed τ D b m) σ (A_weighed τ D b m) (some (.int (-2))) σ := fun h1 => QU.no h (by rw [U_weighed, if_neg (fun q => h1 q.1)]) (by rw [A_weighed, if_neg h1])
  refine eX8_weighed (gB_det s_isWithin ⟨_, rfl, br_bj (fun h1 => ?_) (fun h1 => bad (fun q => h1 q.1))⟩)
  refine gB_det s_isWithin ⟨_, rfl, br_bj (fun h2 => ?_) (fun h2 => bad (fun q => h2 q.2.1))⟩
  refine gB_det s_isWithin ⟨_, rfl, br_bi (fun h3 => ?_) (fun h3 => bad (fun q => h3 q.2.2))⟩
  have ok : okW D b m := ⟨h1, h2, h3⟩
  have e36 := hw.2.2.2.2.1.1
  have l8 := hw.2.2.2.2.1.2.1
  obtain ⟨a1, a2⟩ := h.2.2.1
  rw [a1, i_lt, nI_toInt (by omega), show (8 : Int32).toInt = 8 from by decide, i_cl (show nW τ < 2 ^ 31 by omega)]
  refine ⟨fun c => ?_, fun c => ?_⟩
  · have hn : nW τ < 8 := by omega
    have hne : ¬ τ 1 36 = 8 := by rw [e36, show (8 : Int32) = nI 8 from rfl, nI_eq (by omega) (by omega)]; omega
    have vi : vp_in (nI (nW τ)) 8 := vp_in_nI hn (by decide)
    refine ⟨vi, fun s7 q7 => ⟨vi, fun s8 q8 => ⟨vi, fun s9 q9 s10 q10 => ?_⟩⟩⟩
    have k4 : s10 22 3 = nI (nW τ + 1) := by rw [q10, gw_self, q9, gw_ne (by decide), q8, gw_ne (by decide), q7, gw_ne (by decide), a1, nI_1]
    refine ⟨?_, ?_, Or.inl ⟨?_, ?_⟩, ?_⟩
    · rw [k4, A_weighed, if_pos ok, if_neg hne, e36, nI_1]
    · rw [U_weighed, if_pos ⟨ok, hne⟩]
      refine h.wei (fun k hk => VW_ne ?_ ?_) (fun j hj => VW_1 ?_) (fun k hk => ?_) ?_
      · rintro rfl; revert hk; decide
      · revert hk; simp only [List.mem_cons, List.not_mem_nil, or_false]; omega
      · rintro rfl; revert hj; decide
      · rw [q10, gw_ne (by omega), q9, gw_ne (by omega), q8, gw_ne (by omega), q7, gw_ne (by omega)]
      · unfold TCw
        rw [VW_nW hn, k4]
        refine ⟨rfl, fun a ha => ?_⟩
        rw [VW_at.1, VW_at.2.1, VW_at.2.2, q10, q9, q8, q7]
        by_cases e : a = nW τ
        · simp [gw_at, e]
        · have := a2 a (by omega)
          simp [gw_at, e, this.1, this.2.1, this.2.2]
    · rw [U_weighed, if_pos ⟨ok, hne⟩]
      exact (((SD.u (by omega)).tr (SD.u (by omega))).tr (SD.u (by omega))).tr (SD.u (by omega))
    · rw [q10, q9, q8, q7]
      exact (((KP.u (by omega)).tr (KP.u (by omega))).tr (KP.u (by omega))).tr (KP.u (by omega))
    · rw [q10, q9, q8, q7]
      exact (((FCl.u (by decide)).tr (FCl.u (by decide))).tr (FCl.u (by decide))).tr (FCl.u (by decide))
  · have hne : τ 1 36 = 8 := by rw [e36, show nW τ = 8 by omega]; rfl
    exact QU.no h (by rw [U_weighed, if_neg (fun q => q.2 hne)]) (by rw [A_weighed, if_pos ok, if_pos hne])
theorem m_weighed {d : Nat} {D b m : Int32} {τ σ : gw_S} (hw : WF τ) (h : TM τ σ) : gB (d + 2) mX9_weighed [.ref 1, .int D, .int b, .int m] σ (QN (U_weighed τ D b m) σ (A_weighed τ D b m)) := by
  have bad : ¬ okW D b m → QN (U_weighed τ D b m) σ (A_weighed τ D b m) (some (.int (-2))) σ := fun h1 => QN.no h (by rw [U_weighed, if_neg (fun q => h1 q.1)]) (by rw [A_weighed, if_neg h1])
  refine eX9_weighed (gB_det s_isDay2 ⟨_, rfl, br_bj (fun h1 => ?_) (fun h1 => bad (fun q => h1 q.1))⟩)
  refine gB_det s_isEight2 ⟨_, rfl, br_bj (fun h2 => ?_) (fun h2 => bad (fun q => h2 q.2.1))⟩
  refine gB_det s_in ?_
  rw [bi_congr (by rw [lt_k (c := 999) (c' := 1000) (by decide)] : (0 ≤ m ∧ m ≤ 999) ↔ okM m)]
  refine ⟨_, rfl, br_bi (fun h3 => ?_) (fun h3 => bad (fun q => h3 q.2.2))⟩
  have ok : okW D b m := ⟨h1, h2, h3⟩
  have k1 : σ 1 36 = τ 1 36 := h.2 36 (by decide)
  rw [k1]
  refine ⟨fun c => ?_, fun c => QN.no h (by rw [U_weighed, if_neg (fun q => q.2 c)]) (by rw [A_weighed, if_pos ok, if_pos c])⟩
  have hn := wei_n hw c
  have e36 := hw.2.2.2.2.1.1
  have vi : vp_in (nI (nW τ)) 8 := vp_in_nI hn (by decide)
  have ic : (nI (nW τ)).toNatClampNeg = nW τ := i_cl (show nW τ < 2 ^ 31 by omega)
  rw [e36, ic]
  refine ⟨vi, fun s7 q7 => ?_⟩
  have e7 : s7 1 36 = nI (nW τ) := by rw [q7, gw_ne (by decide), k1, e36]
  rw [e7, ic]
  refine ⟨vi, fun s8 q8 => ?_⟩
  have e8 : s8 1 36 = nI (nW τ) := by rw [q8, gw_ne (by decide), e7]
  rw [e8, ic]
  refine ⟨vi, fun s9 q9 s10 q10 => ?_⟩
  have e9 : s9 1 36 = nI (nW τ) := by rw [q9, gw_ne (by decide), e8]
  rw [e9, nI_1] at q10
  refine ⟨?_, ?_, ?_⟩
  · rw [q10, gw_self, A_weighed, if_pos ok, if_neg c, e36, nI_1]
  · rw [U_weighed, if_pos ⟨ok, c⟩, q10, q9, q8, q7]
    exact h.u.u.u.u
  · rw [q10, q9, q8, q7]
    exact (((FMo.u (by decide)).tr (FMo.u (by decide))).tr (FMo.u (by decide))).tr (FMo.u (by decide))
def U_forget (τ : gw_S) : gw_S := gw_u τ 1 36 0
theorem w_forget {τ : gw_S} (hw : WF τ) : WF (U_forget τ) := by
  unfold U_forget
  have en : nW (gw_u τ 1 36 0) = 0 := by unfold nW; rw [gw_self]; rfl
  obtain ⟨w1, w2, w3, w4, w5, w6⟩ := hw
  refine ⟨?_, ?_, ?_, ?_, ⟨?_, ?_, ?_⟩, ?_⟩
  · unfold n0 n1 at *
    rw [gw_ne (by decide)]; exact w1
  · unfold nH at *
    rw [gw_nj (by decide), gw_ne (by decide)]; exact w2
  · rw [gw_nj (by decide)]; exact w3
  · unfold nA okAct at *
    rw [gw_nj (by decide), gw_ne (by decide), gw_ne (by decide), gw_ne (by decide), gw_ne (by decide)]; exact w4
  · rw [en, gw_self]; rfl
  · rw [en]; omega
  · rw [en]; omega
  · rw [gw_ne (by decide), gw_ne (by decide), gw_ne (by decide)]; exact w6
theorem c_forget {d : Nat} {τ σ : gw_S} (hw : WF τ) (h : TC τ σ) : gB d mX8_forget [.ref 0] σ (QU τ (U_forget τ) σ (τ 1 36)) := by
  refine eX8_forget (fun s1 q1 => ⟨by rw [h.2.2.1.1, ← hw.2.2.2.2.1.1], ?_, Or.inl ⟨SD.u (by decide), by rw [q1]; exact KP.u (by decide)⟩, by rw [q1]; exact FCl.u (by decide)⟩)
  unfold U_forget
  refine h.wei (fun k hk => gw_ne ?_) (fun j hj => gw_nj ?_) (fun k hk => by rw [q1, gw_ne (by omega)]) ?_
  · rintro rfl; revert hk; decide
  · rintro rfl; revert hj; decide
  · have en : nW (gw_u τ 1 36 0) = 0 := by unfold nW; rw [gw_self]; rfl
    unfold TCw
    rw [en, q1, gw_self]
    exact ⟨rfl, fun w hw => by omega⟩
theorem m_forget {d : Nat} {τ σ : gw_S} (h : TM τ σ) : gB d mX9_forget [.ref 1] σ (QN (U_forget τ) σ (τ 1 36)) :=
  eX9_forget (fun s1 q1 => ⟨by rw [h.2 36 (by decide)], by rw [q1]; exact h.u, by rw [q1]; exact FMo.u (by decide)⟩)
