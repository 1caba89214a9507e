def simG (τ : gw_S) (w o t : Int32) (k : Nat) : gw_S := sRun (Pt τ w o t) (Vt τ o t) (Mt τ o t) (Ct τ o t) k
theorem simT_G {τ : gw_S} {k : Nat} : simT τ k = simG τ (-1) (-1) (-1) k := rfl
theorem sDay_c {τ : gw_S} {w o t : Int32} {D : Nat} {S : gw_S} : sDay (Pt τ w o t) D S = cDay (NB τ) (fun b => pS (f0 τ) (swp o t b)) τ w D S := by
  unfold sDay sMorn cDay
  have e : (if D = 0 then sAhead (rN (Pt τ w o t)) (rC (Pt τ w o t)) (rK (Pt τ w o t)) S else S) = S := by
    split <;> rfl
  rw [e]
  rfl
theorem simG_s {τ : gw_S} {w o t : Int32} {k : Nat} : simG τ w o t (k + 1) = cDay (NB τ) (fun b => pS (f0 τ) (swp o t b)) τ w k (simG τ w o t k) := sDay_c
theorem sBegin_congr {n : Nat} {V M C V' M' C' : Nat → Int32} (h : ∀ b, b < n → V b = V' b ∧ M b = M' b ∧ C b = C' b) : sBegin n V M C = sBegin n V' M' C' := by
  funext k j
  unfold sBegin
  by_cases h0 : j / 8 < n
  · rw [(h _ h0).1, (h _ h0).2.1]
    by_cases h1 : j < n
    · rw [(h _ h1).2.2]
    · simp [h1]
  · by_cases h1 : j < n
    · rw [(h _ h1).2.2]
      simp [h0]
    · simp [h0, h1]
theorem itN_congr {F G : Nat → gw_S → gw_S} : ∀ (n : Nat) (S : gw_S), (∀ i, i < n → ∀ T, F i T = G i T) → itN F n S = itN G n S
  | 0, _, _ => rfl
  | n + 1, S, h => by
    unfold itN
    rw [itN_congr n S (fun i hi => h i (by omega)), h n (by omega)]
theorem cDay_congr {n : Nat} {So So' : Nat → Bool} {τ : gw_S} {w : Int32} {D : Nat} {S : gw_S} (h : ∀ b, b < n → So b = So' b) : cDay n So τ w D S = cDay n So' τ w D S := by
  unfold cDay sEnds
  exact itN_congr n _ (fun i hi T => by rw [h i hi])
theorem simG_0 {τ : gw_S} (hw : WF τ) {w : Int32} : ∀ k, simG τ w (nI 0) (nI 0) k = simG τ w (-1) (-1) k
  | 0 => by
    show sBegin (NB τ) _ _ _ = sBegin (NB τ) _ _ _
    refine sBegin_congr (fun b hb => ?_)
    have := NB_le hw
    simp [Vt, Mt, Ct, swp_id (show b < 2 ^ 31 by omega), swp_m1 (show b < 2 ^ 31 by omega)]
  | k + 1 => by
    rw [simG_s, simG_s, simG_0 hw k]
    refine cDay_congr (fun b hb => ?_)
    have := NB_le hw
    simp only [swp_id (show b < 2 ^ 31 by omega), swp_m1 (show b < 2 ^ 31 by omega)]
/-- what a day leaves of the acts that work -/
theorem sEnds_7 {hot : Bool} {So : Nat → Bool} {bu : Int32} : ∀ (n : Nat) (S : gw_S), sEnds hot So bu n S 7 = S 7
  | 0, _ => rfl
  | n + 1, S => by
    show (if sEnds hot So bu n S 3 n = 0 then sEnds hot So bu n S else sEnd hot (So n) bu n (sEnds hot So bu n S)) 7 = S 7
    have ih := sEnds_7 (hot := hot) (So := So) (bu := bu) n S
    have e : ∀ T : gw_S, sEnd hot (So n) bu n T 7 = T 7 := fun T => by
      unfold sEnd
      split <;> (funext z; simp [sBu, sLk])
    split
    · exact ih
    · rw [e]; exact ih
theorem sActs_7 {n : Nat} {τ : gw_S} {w : Int32} {D : Int32} : ∀ (m : Nat) (S : gw_S) (a : Nat), ¬ τ 148 a = D → sActs n τ w D m S 7 a = S 7 a
  | 0, _, _, _ => rfl
  | m + 1, S, a, h => by
    show sAct n τ w D m (sActs n τ w D m S) 7 a = S 7 a
    have ih := sActs_7 (n := n) (w := w) m S a h
    unfold sAct
    split
    · rename_i q
      have : a ≠ m := fun e => h (by rw [e]; exact q.1)
      rw [gw_nj this, aS_7]
      exact ih
    · exact ih
theorem cDay_7 {n : Nat} {So : Nat → Bool} {τ : gw_S} {w : Int32} {D a : Nat} {S : gw_S} (h : ¬ τ 148 a = nI D) : cDay n So τ w D S 7 a = S 7 a := by
  unfold cDay
  rw [sEnds_7, sActs_7 _ _ _ h]
theorem simG_7 {τ : gw_S} {w o t : Int32} {a : Nat} : ∀ k, (∀ D, D < k → ¬ τ 148 a = nI D) → simG τ w o t k 7 a = 0
  | 0, _ => rfl
  | k + 1, h => by
    rw [simG_s, cDay_7 (h k (by omega))]
    exact simG_7 k (fun D hD => h D (by omega))
theorem simG_7k {τ : gw_S} {w o t : Int32} {a D : Nat} (hD : D < 40) (h : τ 148 a = nI D) : ∀ m, D + 1 + m ≤ 40 → simG τ w o t (D + 1 + m) 7 a = simG τ w o t (D + 1) 7 a
  | 0, _ => rfl
  | m + 1, hm => by
    rw [← Nat.add_assoc, simG_s, cDay_7, simG_7k hD h m (by omega)]
    rw [h, nI_eq (by omega) (by omega)]
    omega
theorem simG_z {τ : gw_S} {w o t : Int32} {K : Nat} (hK : K < 40) : ∀ a, a < nA τ → τ 148 a = nI K → simG τ w o t K 7 a = 0 := fun a _ h => simG_7 K (fun D hD => by rw [h, nI_eq (by omega) (by omega)]; omega)
/-! the class's whole told state -/
def TCt (τ σ : gw_S) : Prop := σ 2 1 = 47 ∧ σ 4 1 = 8 ∧ σ 2 2 = nI (n0 τ) ∧ σ 4 2 = nI (n1 τ) ∧ (∀ j, j < n0 τ → σ 3 j = τ 141 j) ∧ (∀ j, j < n1 τ → σ 5 j = τ 141 (47 + j)) ∧ SC (f0 τ) (n0 τ) σ ∧ SG (g0 τ) (n1 τ) σ
def TCw (τ σ : gw_S) : Prop := σ 22 3 = nI (nW τ) ∧ ∀ w, w < nW τ → σ 23 w = τ 164 w ∧ σ 24 w = τ 165 w ∧ σ 25 w = τ 166 w
def TCs (τ σ : gw_S) : Prop := (∀ s, s < 4 → (τ 168 s = 0 → σ 32 s = -1) ∧ (τ 168 s = 1 → σ 32 s = τ 169 s ∧ σ 33 s = τ 170 s) ∧ ∀ j, j < 60 → σ (28 + s) j = τ 171 (60 * s + j)) ∧ σ 0 13 = τ 1 46
def TC (τ σ : gw_S) : Prop := TCt τ σ ∧ TCa τ σ ∧ TCw τ σ ∧ TCs τ σ
theorem SC.fr {f : Nat → Int32} {n : Nat} {σ σ' : gw_S} (h : SC f n σ) (hf : ∀ k ∈ [7, 8, 9, 10], σ' k = σ k) : SC f n σ' := by
  unfold SC at h ⊢
  rw [hf 7 (by decide), hf 8 (by decide), hf 9 (by decide), hf 10 (by decide)]
  exact h
/-- the told cells of the class are as they were -/
def FTc (σ σ' : gw_S) : Prop := (∀ k, 2 ≤ k → k < 34 → k ≠ 17 → k ≠ 19 → k ≠ 20 → k ≠ 21 → σ' k = σ k) ∧ (∀ j, j ≠ 5 → σ' 17 j = σ 17 j) ∧ σ' 0 13 = σ 0 13
theorem FTc.rf {σ : gw_S} : FTc σ σ := ⟨fun _ _ _ _ _ _ _ => rfl, fun _ _ => rfl, rfl⟩
theorem FTc.tr {σ σ1 σ2 : gw_S} (h : FTc σ σ1) (h2 : FTc σ1 σ2) : FTc σ σ2 := ⟨fun k a b c d e f => (h2.1 k a b c d e f).trans (h.1 k a b c d e f), fun j hj => (h2.2.1 j hj).trans (h.2.1 j hj), h2.2.2.trans h.2.2⟩
theorem TC.fr {τ σ σ' : gw_S} (h : TC τ σ) (hf : FTc σ σ') : TC τ σ' := by
  have k : ∀ x, 2 ≤ x → x < 34 → x ≠ 17 → x ≠ 19 → x ≠ 20 → x ≠ 21 → σ' x = σ x := hf.1
  have K : ∀ x, x ∈ [2, 3, 4, 5, 6, 7, 8, 9, 10, 11, 12, 13, 14, 15, 16, 18, 22, 23, 24, 25, 26, 27, 28, 29, 30, 31, 32, 33] → σ' x = σ x := fun x hx => by
    refine k x ?_ ?_ ?_ ?_ ?_ ?_ <;> (revert hx; simp only [List.mem_cons, List.not_mem_nil, or_false]; omega)
  obtain ⟨⟨t1, t2, t3, t4, t5, t6, t7, t8⟩, ha, hw, hs⟩ := h
  refine ⟨⟨?_, ?_, ?_, ?_, ?_, ?_, ?_, ?_⟩, ha.fr (fun x hx => K x ?_), ?_, ?_⟩
  · rw [K 2 (by decide)]; exact t1
  · rw [K 4 (by decide)]; exact t2
  · rw [K 2 (by decide)]; exact t3
  · rw [K 4 (by decide)]; exact t4
  · rw [K 3 (by decide)]; exact t5
  · rw [K 5 (by decide)]; exact t6
  · exact t7.fr (fun x hx => K x (by revert hx; simp only [List.mem_cons, List.not_mem_nil, or_false]; omega))
  · exact ⟨by rw [hf.2.1 4 (by decide)]; exact t8.1, by rw [K 18 (by decide)]; exact t8.2⟩
  · revert hx; simp only [List.mem_cons, List.not_mem_nil, or_false]; omega
  · unfold TCw at hw ⊢
    rw [K 22 (by decide), K 23 (by decide), K 24 (by decide), K 25 (by decide)]
    exact hw
  · refine ⟨fun s hs4 => ?_, by rw [hf.2.2]; exact hs.2⟩
    rw [K 32 (by decide), K 33 (by decide), K (28 + s) (by simp only [List.mem_cons, List.not_mem_nil, or_false]; omega)]
    exact hs.1 s hs4
/-- the state that the class goes on from -/
def CN (τ σ : gw_S) : Prop := σ 0 10 = 0 → ∃ K, K ≤ 40 ∧ σ 36 12 + 1 = nI K ∧ Rp (NB τ) (fun b => pS (f0 τ) (swp (-1) (-1) b)) (simT τ K) (vw 36 σ)
/-- only the State that was asked for has changed -/
def FB (σ σ' : gw_S) : Prop := (∀ m, m ≠ 0 → (m < 36 ∨ 44 ≤ m) → σ' m = σ m) ∧ ∀ j, j ≠ 10 → σ' 0 j = σ 0 j
theorem FB.tc {σ σ' : gw_S} (h : FB σ σ') : FTc σ σ' := ⟨fun k a b _ _ _ _ => h.1 k (by omega) (by omega), fun j _ => by rw [h.1 17 (by decide) (by decide)], h.2 13 (by decide)⟩
theorem Rp.congrS {n : Nat} {So So' : Nat → Bool} {S c : gw_S} (h : Rp n So S c) (e : ∀ b, b < n → So b = So' b) : Rp n So' S c := by
  obtain ⟨h1, h2, h3, h4, h5, h6⟩ := h
  exact ⟨h1, h2, h3, h4, h5, fun b hb => by rw [← e b hb]; exact h6 b hb⟩
theorem s_begin0 {d k : Nat} {τ σ : gw_S} (hw : WF τ) (hk : gw_st k) (hk36 : 36 ≤ k) (h : TC τ σ) : gB (d + 1) mX3_begin [.ref k, .ref 7, .int 0, .int 0] σ (fun v σ' => v = none ∧ Rp (NB τ) (fun b => pS (f0 τ) (swp (-1) (-1) b)) (simT τ 0) (vw k σ') ∧ σ' k 12 = -1 ∧ FS k σ σ') := by
  refine (s_beginC (x := 0) (y := 0) (n := NB τ) hk hk36 hw.1.2.1 rfl (fun b hb => pV_ok hw hb) (Or.inr ⟨rfl, rfl⟩) h.1.2.2.2.2.2.2.1).mono ?_
  rintro v σ' ⟨rfl, g1, g2, g3⟩
  refine ⟨rfl, ?_, g2, g3⟩
  have e := simG_0 (w := -1) hw 0
  have hn := NB_le hw
  have g1' : Rp (NB τ) (fun b => pS (f0 τ) (swp (nI 0) (nI 0) b)) (simG τ (-1) (nI 0) (nI 0) 0) (vw k σ') := g1
  rw [e] at g1'
  refine g1'.congrS (fun b hb => ?_)
  simp only [swp_id (show b < 2 ^ 31 by omega), swp_m1 (show b < 2 ^ 31 by omega)]
theorem s_behind {d D : Nat} {τ σ : gw_S} (hw : WF τ) (h : TC τ σ) (hc : CN τ σ) (hD : D < 40) : gB (d + 4) mX8_behind [.ref 0, .int (nI D)] σ (fun v σ' => v = some (.ref 36) ∧ σ' 0 10 = 0 ∧ σ' 36 12 = nI D ∧ Rp (NB τ) (fun b => pS (f0 τ) (swp (-1) (-1) b)) (simT τ (D + 1)) (vw 36 σ') ∧ FB σ σ') := by
  have key : ∀ m K (s : gw_S), K + m = D + 1 → s 0 10 = 0 → s 36 12 + 1 = nI K → Rp (NB τ) (fun b => pS (f0 τ) (swp (-1) (-1) b)) (simT τ K) (vw 36 s) → FB σ s → gG (d + 3 + 1) mX8_behind 49 [some (.ref 0), some (.int (nI D)), some (.int (nI K))] [] s (fun v σ' => v = some (.ref 36) ∧ σ' 0 10 = 0 ∧ σ' 36 12 = nI D ∧ Rp (NB τ) (fun b => pS (f0 τ) (swp (-1) (-1) b)) (simT τ (D + 1)) (vw 36 σ') ∧ FB σ σ') := by
    intro m
    induction m with
    | zero =>
      intro K s hK h0 h12 hr hf
      have : K = D + 1 := by omega
      subst this
      refine bX8_behind_49 ⟨fun _ => ⟨rfl, h0, ?_, hr, hf⟩, fun c => absurd (nI_lt (by omega) (by omega)) c⟩
      have : s 36 12 = nI (D + 1) - 1 := by rw [← h12, Int32.add_sub_cancel]
      rw [this, nI_pred]
    | succ m ih =>
      intro K s hK h0 h12 hr hf
      have ht := (h.fr hf.tc).2.1
      refine bX8_behind_49 ⟨fun c => absurd c (nI_nlt (by omega) (by omega)), fun _ => (s_passDay (d := d) (D := K) hw st_now (by decide) ht (by omega) h12 (simG_z (by omega)) hr).mono ?_⟩
      rintro v σ1 ⟨rfl, g1, g2, g3⟩
      rw [nI_1]
      refine ⟨rfl, ih (K + 1) σ1 (by omega) (by rw [g3 0 (by omega)]; exact h0) (by rw [g2, nI_1]) ?_ ⟨fun m a b => by rw [g3 m (by omega)]; exact hf.1 m a b, fun j hj => by rw [g3 0 (by omega)]; exact hf.2 j hj⟩⟩
      rw [simT_G, simG_s]
      exact g1
  have fresh : gB (d + 3) mX3_begin [.ref 36, .ref 7, .int 0, .int 0] σ (fun v σ1 => v = none ∧ ∀ s2 : gw_S, s2 = gw_u σ1 0 10 0 → gG (d + 3 + 1) mX8_behind 49 [some (.ref 0), some (.int (nI D)), some (.int (s2 36 12 + 1))] [] s2 (fun v σ' => v = some (.ref 36) ∧ σ' 0 10 = 0 ∧ σ' 36 12 = nI D ∧ Rp (NB τ) (fun b => pS (f0 τ) (swp (-1) (-1) b)) (simT τ (D + 1)) (vw 36 σ') ∧ FB σ σ')) := by
    refine (s_begin0 hw st_now (by decide) h).mono ?_
    rintro v σ1 ⟨rfl, g1, g2, g3⟩
    refine ⟨rfl, fun s2 q2 => ?_⟩
    have e36 : ∀ m, m ≠ 0 → s2 m = σ1 m := fun m hm => by rw [q2, gw_ne hm]
    have e12 : s2 36 12 + 1 = nI 0 := by rw [e36 36 (by decide), g2]; decide
    rw [e12]
    refine key (D + 1) 0 s2 (by omega) (by rw [q2, gw_self]) e12 ?_ ⟨fun m a b => by rw [e36 m a, g3 m (by omega)], fun j hj => by rw [q2, gw_nj hj, g3 0 (by omega)]⟩
    have : vw 36 s2 = vw 36 σ1 := by
      funext i
      exact e36 (36 + i) (by omega)
    rw [this]
    exact g1
  refine eX8_behind ⟨fun _ => fresh, fun c => ⟨fun c2 => ?_, fun _ => fresh⟩⟩
  obtain ⟨K, hK, k1, k2⟩ := hc c
  have hle : K ≤ D + 1 := by
    have e : σ 36 12 = nI K - 1 := by rw [← k1, Int32.add_sub_cancel]
    rw [e] at c2
    rcases Nat.eq_zero_or_pos K with z | z
    · omega
    · rw [show (1 : Int32) = nI 1 from rfl, nI_sub z, nI_leI (by omega) (by omega)] at c2
      omega
  rw [k1]
  exact key (D + 1 - K) K σ (by omega) c k1 k2 ⟨fun _ _ _ => rfl, fun _ _ => rfl⟩
