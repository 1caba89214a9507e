theorem sActs_7n {n : Nat} {τ : gw_S} {w D : Int32} : ∀ (m : Nat) (S : gw_S) (a : Nat), m ≤ a → sActs n τ w D m S 7 a = S 7 a
  | 0, _, _, _ => rfl
  | m + 1, S, a, h => by
    show sAct n τ w D m (sActs n τ w D m S) 7 a = S 7 a
    have ih := sActs_7n (n := n) (τ := τ) (w := w) (D := D) m S a (by omega)
    unfold sAct
    split
    · rw [gw_nj (by omega), aS_7]; exact ih
    · exact ih
theorem simG_7n {τ : gw_S} {w o t : Int32} {a : Nat} (h : nA τ ≤ a) : ∀ k, simG τ w o t k 7 a = 0
  | 0 => rfl
  | k + 1 => by
    rw [simG_s]
    unfold cDay
    rw [sEnds_7, sActs_7n _ _ _ h]
    exact simG_7n h k
theorem pc_cn {S : gw_S} {y : Nat} : ∀ m, (∀ a, a < m → ((y >>> a) % 2 = 1 ↔ ¬ S 7 a = 0)) → nI (pcN y m) = cnN S m
  | 0, _ => rfl
  | m + 1, h => by
    show nI (pcN y m + (y >>> m) % 2) = cnN S m + bi (¬ S 7 m = 0)
    rw [← nI_add, pc_cn m (fun a ha => h a (by omega))]
    congr 1
    by_cases c : S 7 m = 0
    · rw [bi_f (not_not_intro c)]
      have : ¬ (y >>> m) % 2 = 1 := fun q => ((h m (by omega)).mp q) c
      rw [show (y >>> m) % 2 = 0 by omega]; rfl
    · rw [bi_t c, (h m (by omega)).mpr c]; rfl
theorem cn_more {S : gw_S} {n : Nat} : ∀ m, (∀ a, n ≤ a → S 7 a = 0) → cnN S (n + m) = cnN S n
  | 0, _ => rfl
  | m + 1, h => by
    show cnN S (n + m) + bi (¬ S 7 (n + m) = 0) = cnN S n
    rw [bi_f (not_not_intro (h _ (by omega))), cn_more m h, Int32.add_zero]
def A_count (τ : gw_S) (w : Int32) : Int32 := if w = 0 then nI (NB τ) else if w = 1 then nI (NL τ) else if w = 2 then τ 140 0 else if w = 3 then τ 140 1 else if w = 4 then τ 1 12 else if w = 5 then cnN (simT τ 40) (nA τ) else if w = 6 then τ 1 10 else if w = 7 then τ 1 36 else if w = 8 then τ 1 46 else -2
theorem c_count {d : Nat} {w : Int32} {τ σ : gw_S} (hw : WF τ) (h : TC τ σ) (hc : CN τ σ) : gB (d + 5) mX8_count [.ref 0, .int w] σ (QC τ σ (A_count τ w)) := by
  obtain ⟨⟨t1, t2, t3, t4, t5, t6, t7, t8⟩, ⟨a1, a2, a3, a4, a5⟩, hW, hS⟩ := id h
  refine eX8_count ⟨?_, ?_, ?_, ?_, ?_, ?_, ?_, ?_, ?_, ?_⟩
  · rintro rfl; exact ⟨by rw [t7.1]; rfl, hc, FB.rf⟩
  · rintro rfl; exact ⟨by rw [t8.1]; rfl, hc, FB.rf⟩
  · rintro rfl; exact ⟨by rw [t3, ← n0_e hw]; rfl, hc, FB.rf⟩
  · rintro rfl; exact ⟨by rw [t4, ← n1_e hw]; rfl, hc, FB.rf⟩
  · rintro rfl; exact ⟨by rw [a1, ← hw.2.2.2.1.1]; rfl, hc, FB.rf⟩
  · rintro rfl
    refine (s_behind (D := 39) hw h hc (by decide)).mono ?_
    rintro r σ5 ⟨rfl, g1, g2, g3, g4⟩
    have o4 : ∀ a, a < 32 → (tb (σ5 36 11) a ↔ ¬ simT τ 40 7 a = 0) := g3.2.2.2.2.1.2.2.2
    have z : ∀ a, nA τ ≤ a → simT τ 40 7 a = 0 := fun a ha => simG_7n ha 40
    have l16 := hw.2.2.2.1.2.1
    obtain ⟨y, hy, ey⟩ := tb_nat (x := σ5 36 11) (n := 16) (by decide) (fun b h1 h2 => by rw [o4 b h2]; exact not_not_intro (z b (by omega)))
    refine ⟨rfl, ?_⟩
    rw [ey] at o4 ⊢
    refine gB_det (s_bitCount hy) ⟨_, rfl, ?_, CN.of (D := 39) (by decide) g2 g3, g4⟩
    rw [pc_cn (S := simT τ 40) 16 (fun a ha => by rw [← o4 a (by omega), tb_nI (by omega) (by omega)]), show 16 = nA τ + (16 - nA τ) by omega, cn_more _ z]
    rfl
  · rintro rfl; exact ⟨by rw [a3, ← hw.2.1.1]; rfl, hc, FB.rf⟩
  · rintro rfl; exact ⟨by rw [hW.1, ← hw.2.2.2.2.1.1]; rfl, hc, FB.rf⟩
  · rintro rfl; exact ⟨by rw [hS.2]; rfl, hc, FB.rf⟩
  · intro b0 b1 b2 b3 b4 b5 b6 b7 b8
    refine ⟨?_, hc, FB.rf⟩
    rw [A_count, if_neg b0, if_neg b1, if_neg b2, if_neg b3, if_neg b4, if_neg b5, if_neg b6, if_neg b7, if_neg b8]
theorem m_count {d : Nat} {w : Int32} {τ σ : gw_S} (hw : WF τ) (h : TM τ σ) : gB (d + 8) mX9_count [.ref 1, .int w] σ (QM τ σ (A_count τ w)) := by
  have v0 : vp_in 0 2 := vp_in_nI (show 0 < 2 by decide) (by decide)
  have v1 : vp_in 1 2 := vp_in_nI (show 1 < 2 by decide) (by decide)
  refine eX9_count ⟨?_, ?_, ?_, ?_, ?_, ?_, ?_, ?_, ?_, ?_⟩
  · rintro rfl
    refine (s_sumOf hw h).mono ?_
    rintro _ σ1 ⟨rfl, -, g2, g3⟩
    exact ⟨_, rfl, rfl, g2, g3⟩
  · rintro rfl
    refine (s_sumOf hw h).mono ?_
    rintro _ σ1 ⟨rfl, -, g2, g3⟩
    exact ⟨_, rfl, rfl, g2, g3⟩
  · rintro rfl; exact ⟨v0, by rw [h.1 140 (by decide)]; rfl, h, FM.rf⟩
  · rintro rfl; exact ⟨v1, by rw [h.1 140 (by decide)]; rfl, h, FM.rf⟩
  · rintro rfl; exact ⟨by rw [h.2 12 (by decide)]; rfl, h, FM.rf⟩
  · rintro rfl
    refine (s_sumOf hw h).mono ?_
    rintro _ σ1 ⟨rfl, -, g2, g3⟩
    exact ⟨_, rfl, rfl, g2, g3⟩
  · rintro rfl; exact ⟨by rw [h.2 10 (by decide)]; rfl, h, FM.rf⟩
  · rintro rfl; exact ⟨by rw [h.2 36 (by decide)]; rfl, h, FM.rf⟩
  · rintro rfl; exact ⟨by rw [h.2 46 (by decide)]; rfl, h, FM.rf⟩
  · intro b0 b1 b2 b3 b4 b5 b6 b7 b8
    refine ⟨?_, h, FM.rf⟩
    rw [A_count, if_neg b0, if_neg b1, if_neg b2, if_neg b3, if_neg b4, if_neg b5, if_neg b6, if_neg b7, if_neg b8]
/-! fault, bottle, note -/
def A_fault (τ : gw_S) (t : Int32) : Int32 := if okT t then (if t = 0 then fauB (f0 τ) (n0 τ) else fauS (g0 τ) (n1 τ)) else -2
theorem c_fault {d : Nat} {t : Int32} {τ σ : gw_S} (hw : WF τ) (h : TC τ σ) (hc : CN τ σ) : gB (d + 3) mX8_fault [.ref 0, .int t] σ (QC τ σ (A_fault τ t)) := by
  obtain ⟨t1, t2, t3, t4, t5, t6, t7, t8⟩ := h.1
  have l1 := hw.1.2.2.2
  refine eX8_fault (gB_det s_isWithin ⟨_, rfl, br_bi (fun h1 => ⟨fun c => ?_, fun c => ?_⟩) (fun h1 => ⟨by rw [A_fault, if_neg h1], hc, FB.rf⟩)⟩)
  · refine gB_det (s_faultS tx_4 (by omega) t4) ⟨_, rfl, ?_, hc, FB.rf⟩
    rw [A_fault, if_pos h1, if_neg c]
    exact congrArg (fun x => some (Value.int x)) (fauS_congr t6)
  · refine gB_det (s_faultB tx_2 hw.1.2.1 t3) ⟨_, rfl, ?_, hc, FB.rf⟩
    rw [A_fault, if_pos h1, if_pos c]
    exact congrArg (fun x => some (Value.int x)) (fauB_congr t5)
theorem FRd.sc {σ σ' : gw_S} (h : FRd σ σ') : FSc σ σ' := h.fm.wk (by decide) (by decide)
theorem s_faultT {d : Nat} {t : Int32} {τ σ : gw_S} (hw : WF τ) (h : TM τ σ) : gB (d + 3) mX9_faultOf [.ref 1, .int t] σ (fun v σ' => v = some (.int (if t = 0 then fauB (f0 τ) (n0 τ) else fauS (g0 τ) (n1 τ))) ∧ PMt τ σ' ∧ TM τ σ' ∧ FSc σ σ') := by
  refine (s_faultOf (n := n0 τ) (m := n1 τ) (f := f0 τ) (g := g0 τ) hw.1.2.1 ?_ hw.1.2.2.2 ?_ (h.1 141 (by decide)) (fun j hj => rfl)).mono ?_
  · rw [h.1 140 (by decide)]; exact hw.1.1
  · rw [h.1 140 (by decide)]; exact hw.1.2.2.1
  · rintro v σ1 ⟨rfl, k1, k2⟩
    exact ⟨rfl, k1, h.fr k2.sc, k2.sc⟩
theorem m_fault {d : Nat} {t : Int32} {τ σ : gw_S} (hw : WF τ) (h : TM τ σ) : gB (d + 4) mX9_fault [.ref 1, .int t] σ (QM τ σ (A_fault τ t)) := by
  refine eX9_fault (gB_det s_isText2 ⟨_, rfl, br_bj (fun h1 => ?_) (fun h1 => QM.bad h FM.rf (by rw [A_fault, if_neg h1]))⟩)
  refine (s_faultT hw h).mono ?_
  rintro _ σ1 ⟨rfl, -, g2, g3⟩
  exact ⟨_, rfl, by rw [A_fault, if_pos h1], g2, g3⟩
abbrev ok4 (x : Int32) : Prop := 0 ≤ x ∧ x < 4
theorem ok4_n {x : Int32} (h : ok4 x) : x = 0 ∨ x = 1 ∨ x = 2 ∨ x = 3 := by
  obtain ⟨j, hj, rfl⟩ := i_in (n := 4) (by decide) h.1 (i_lt.mp h.2)
  have : j = 0 ∨ j = 1 ∨ j = 2 ∨ j = 3 := by omega
  rcases this with rfl | rfl | rfl | rfl
  · exact Or.inl rfl
  · exact Or.inr (Or.inl rfl)
  · exact Or.inr (Or.inr (Or.inl rfl))
  · exact Or.inr (Or.inr (Or.inr rfl))
def aBot (τ : gw_S) (b : Nat) (w : Int32) : Int32 := if w = 0 then pV (f0 τ) b else if w = 1 then pM (f0 τ) b else if w = 2 then pC (f0 τ) b else bi (pS (f0 τ) b = true)
def A_bottle (τ : gw_S) (b w : Int32) : Int32 := if okB τ b ∧ ok4 w then aBot τ b.toNatClampNeg w else -2
theorem c_bottle {d : Nat} {b w : Int32} {τ σ : gw_S} (hw : WF τ) (h : TC τ σ) (hc : CN τ σ) : gB (d + 2) mX8_bottle [.ref 0, .int b, .int w] σ (QC τ σ (A_bottle τ b w)) := by
  have e74 : σ 7 4 = nI (NB τ) := h.1.2.2.2.2.2.2.1.1
  have sc := h.1.2.2.2.2.2.2.1
  have bad : ¬ (okB τ b ∧ ok4 w) → QC τ σ (A_bottle τ b w) (some (.int (-2))) σ := fun c => by rw [A_bottle, if_neg c]; exact ⟨rfl, hc, FB.rf⟩
  refine eX8_bottle (gB_det s_isBottleC ?_)
  rw [e74]
  refine ⟨_, rfl, br_bi (fun h1 => ?_) (fun h1 => bad (fun q => h1 q.1))⟩
  obtain ⟨B, hB, rfl⟩ := okB_n hw h1
  have hn := NB_le hw
  have vi : vp_in (nI B) 8 := vp_in_nI (by omega) (by decide)
  have ic : (nI B).toNatClampNeg = B := i_cl (show B < 2 ^ 31 by omega)
  have s := sc.2.1 B hB
  rw [ic]
  refine ⟨?_, ?_, ?_, ?_, fun b0 b1 b2 b3 => bad (fun q => ?_)⟩
  · rintro rfl; exact ⟨vi, by rw [A_bottle, if_pos ⟨h1, by decide⟩, ic, s.1]; rfl, hc, FB.rf⟩
  · rintro rfl; exact ⟨vi, by rw [A_bottle, if_pos ⟨h1, by decide⟩, ic, s.2.1]; rfl, hc, FB.rf⟩
  · rintro rfl; exact ⟨vi, by rw [A_bottle, if_pos ⟨h1, by decide⟩, ic, s.2.2]; rfl, hc, FB.rf⟩
  · rintro rfl
    refine ⟨?_, hc, FB.rf⟩
    rw [A_bottle, if_pos ⟨h1, by decide⟩, ic, sc.2.2, bit_bi (by omega)]
    exact bi_sm ((tb_bm _ _ (by unfold NB at hn; omega) (by omega)).trans ⟨fun q => q.2, fun q => ⟨hB, q⟩⟩)
  · rcases ok4_n q.2 with e | e | e | e
    · exact b0 e
    · exact b1 e
    · exact b2 e
    · exact b3 e
theorem m_bottle {d : Nat} {b w : Int32} {τ σ : gw_S} (hw : WF τ) (h : TM τ σ) : gB (d + 6) mX9_bottle [.ref 1, .int b, .int w] σ (QM τ σ (A_bottle τ b w)) := by
  have bad : ¬ (okB τ b ∧ ok4 w) → A_bottle τ b w = -2 := fun c => by rw [A_bottle, if_neg c]
  refine eX9_bottle ((s_isBottleM hw h).mono ?_)
  rintro _ σ1 ⟨rfl, k1, k2, k3⟩
  refine ⟨_, rfl, br_bj (fun h1 => ?_) (fun h1 => QM.bad k2 k3 (bad (fun q => h1 q.1)))⟩
  refine gB_det s_in ?_
  rw [bi_congr (by rw [lt_k (c := 3) (c' := 4) (by decide)] : (0 ≤ w ∧ w ≤ 3) ↔ ok4 w)]
  refine ⟨_, rfl, br_bj (fun h2 => ?_) (fun h2 => QM.bad k2 k3 (bad (fun q => h2 q.2)))⟩
  obtain ⟨B, hB, rfl⟩ := okB_n hw h1
  have hn := NB_le hw
  have vi : vp_in (nI B) 9 := vp_in_nI (by omega) (by decide)
  have ic : (nI B).toNatClampNeg = B := i_cl (show B < 2 ^ 31 by omega)
  have s := k1.2.1 B hB
  have eA : A_bottle τ (nI B) w = aBot τ B w := by rw [A_bottle, if_pos ⟨h1, h2⟩, ic]
  refine eX9_bottleOf ?_
  rw [ic]
  refine ⟨fun b0 => ⟨fun b1 => ⟨fun b2 => ⟨vi, _, rfl, ?_, k2, k3⟩, fun b2 => ⟨vi, _, rfl, ?_, k2, k3⟩⟩, fun b1 => ⟨vi, _, rfl, ?_, k2, k3⟩⟩, fun b0 => ⟨vi, _, rfl, ?_, k2, k3⟩⟩
  · rw [eA, aBot, if_neg b0, if_neg b1, if_neg b2, s.2.2.2]
    exact bi_sm decide_eq_true_iff.symm
  · rw [eA, aBot, if_neg b0, if_neg b1, if_pos b2, s.2.2.1]
  · rw [eA, aBot, if_neg b0, if_pos b1, s.2.1]
  · rw [eA, aBot, if_pos b0, s.1]
def A_note (τ : gw_S) (i : Int32) : Int32 := if okE i then (if nI (NL τ) ≤ i then -1 else g0 τ i.toNatClampNeg - 97) else -2
theorem NL_le {τ : gw_S} (hw : WF τ) : NL τ ≤ 8 := by
  have := hw.1.2.2.2
  unfold NL nLe
  split <;> omega
theorem c_note {d : Nat} {i : Int32} {τ σ : gw_S} (hw : WF τ) (h : TC τ σ) (hc : CN τ σ) : gB (d + 1) mX8_note [.ref 0, .int i] σ (QC τ σ (A_note τ i)) := by
  have t8 := h.1.2.2.2.2.2.2.2
  refine eX8_note (gB_det s_isWithin ⟨_, rfl, br_bi (fun h1 => ?_) (fun h1 => ⟨by rw [A_note, if_neg h1], hc, FB.rf⟩)⟩)
  rw [show σ 17 4 = nI (NL τ) from t8.1]
  refine ⟨fun c => ⟨by rw [A_note, if_pos h1, if_pos c], hc, FB.rf⟩, fun c => ?_⟩
  obtain ⟨x, hx, rfl⟩ := okE_n h1
  have hl := NL_le hw
  have hx2 : x < NL τ := by
    rw [nI_leI (by omega) (by omega)] at c
    omega
  rw [i_cl (show x < 2 ^ 31 by omega)]
  exact ⟨vp_in_nI hx (by decide), by rw [A_note, if_pos h1, if_neg c, i_cl (show x < 2 ^ 31 by omega), t8.2 x hx2], hc, FB.rf⟩
theorem s_noteOf {d x : Nat} {τ σ : gw_S} (hw : WF τ) (h : TM τ σ) (hx : x < 8) : gB (d + 5) mX9_noteOf [.ref 1, .int (nI x)] σ (QM τ σ (A_note τ (nI x))) := by
  refine eX9_noteOf ((s_readsT hw h).mono ?_)
  rintro _ σ1 ⟨rfl, k1, k2⟩
  have kt := h.frL k2 (by decide) (by decide)
  have ks : FSc σ σ1 := k2.wk (by decide) (by decide)
  have h1 : okE (nI x) := ⟨nI_pos' (by omega), nI_lt hx (by decide)⟩
  have hl := NL_le hw
  rw [show σ1 1 7 = nI (NL τ) from k1.2.2.1, i_cl (show x < 2 ^ 31 by omega)]
  refine ⟨rfl, fun c => ⟨by rw [A_note, if_pos h1, if_pos c], kt, ks⟩, fun c => ⟨vp_in_nI hx (by decide), ?_, kt, ks⟩⟩
  have hx2 : x < NL τ := by
    rw [nI_leI (by omega) (by omega)] at c
    omega
  rw [A_note, if_pos h1, if_neg c, i_cl (show x < 2 ^ 31 by omega), k1.2.2.2 x hx2]
theorem m_note {d : Nat} {i : Int32} {τ σ : gw_S} (hw : WF τ) (h : TM τ σ) : gB (d + 6) mX9_note [.ref 1, .int i] σ (QM τ σ (A_note τ i)) := by
  refine eX9_note (gB_det s_isEight2 ⟨_, rfl, br_bj (fun h1 => ?_) (fun h1 => QM.bad h FM.rf (by rw [A_note, if_neg h1]))⟩)
  obtain ⟨x, hx, rfl⟩ := okE_n h1
  refine (s_noteOf hw h hx).mono ?_
  rintro _ σ1 ⟨rfl, g2, g3⟩
  exact ⟨_, rfl, rfl, g2, g3⟩
