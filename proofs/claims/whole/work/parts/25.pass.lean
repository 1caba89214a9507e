/-! what bursts -/
theorem tb_bm {p : Nat → Bool} : ∀ (n b : Nat), n ≤ 32 → b < 32 → (tb (bm p n) b ↔ b < n ∧ p b = true)
  | 0, b, _, hb => by
    constructor
    · intro h; exact absurd h (tb_0 hb)
    · intro h; omega
  | n + 1, b, hn, hb => by
    unfold bm
    have ih := tb_bm (p := p) n b (by omega) hb
    by_cases h : p n = true
    · rw [if_pos h, tb_or1 (by omega) hb, ih]
      constructor
      · rintro (q | q)
        · exact ⟨by omega, q.2⟩
        · subst q; exact ⟨by omega, h⟩
      · rintro ⟨q1, q2⟩
        by_cases e : n = b
        · exact Or.inr e
        · exact Or.inl ⟨by omega, q2⟩
    · rw [if_neg h, ih]
      constructor
      · rintro ⟨q1, q2⟩; exact ⟨by omega, q2⟩
      · rintro ⟨q1, q2⟩
        by_cases e : n = b
        · subst e; exact absurd q2 h
        · exact ⟨by omega, q2⟩
theorem l_ripe {d n k : Nat} {bu : Int32} {So : Nat → Bool} {S σ : gw_S} (hk : gw_st k) (h : Rp n So S (vw k σ)) : ∀ m b x, b + m = n → x = bm (fun b => So b && decide (bu ≤ alI S b)) b → gG (d + 1) mX3_ripeBottles 4 [some (.ref k), some (.int bu), some (.int x), some (.int (nI b))] [] σ (fun v σ' => v = some (.int (bm (fun b => So b && decide (bu ≤ alI S b)) n)) ∧ σ' = σ) := by
  have hn := h.1.2.1
  have hs : σ k 7 = nI n := h.1.1
  intro m
  induction m with
  | zero =>
    intro b x hb hx
    have : b = n := by omega
    subst this
    refine bX3_ripeBottles_4 hk ?_
    rw [hs]
    exact ⟨fun _ => ⟨by rw [hx], rfl⟩, fun c => absurd (nI_le (Nat.le_refl _) (by omega)) c⟩
  | succ m ih =>
    intro b x hb hx
    have so := h.2.2.2.2.2 b (by omega)
    refine bX3_ripeBottles_4 hk ?_
    rw [hs, nI_1]
    refine ⟨fun c => absurd c (nI_ge (by omega) (by omega)), fun _ => ⟨fun c => ih (b + 1) x (by omega) ?_, fun c => gB_det (s_allIn hk h (by omega)) ⟨_, rfl, fun c2 => ih (b + 1) x (by omega) ?_, fun c2 => ih (b + 1) _ (by omega) ?_⟩⟩⟩
    · have : ¬ So b = true := fun q => c (so.mpr q)
      rw [bm, if_neg (by simp [this]), hx]
    · have : ¬ bu ≤ alI S b := i_nle.mpr c2
      rw [bm, if_neg (by simp [this]), hx]
    · rw [bm, if_pos (by simp [so.mp c, i_nlt.mp c2]), hx]
theorem s_ripe {d n k : Nat} {bu : Int32} {So : Nat → Bool} {S σ : gw_S} (hk : gw_st k) (h : Rp n So S (vw k σ)) : gB (d + 1) mX3_ripeBottles [.ref k, .int bu] σ (fun v σ' => v = some (.int (bm (fun b => So b && decide (bu ≤ alI S b)) n)) ∧ σ' = σ) := eX3_ripeBottles hk (l_ripe hk h n 0 0 (by omega) rfl)
theorem sBu_other {b c : Nat} {S : gw_S} (h : b ≠ c) : alI (sBu b S) c = alI S c ∧ sBu b S 3 c = S 3 c := by
  refine ⟨alI_congr (fun v hv => ?_), ?_⟩
  · have : ¬ (8 * c + v) / 8 = b := by omega
    simp [sBu, this]
  · simp [sBu, upd, Ne.symm h]
theorem sBA_other {So : Nat → Bool} {bu : Int32} {S : gw_S} : ∀ (n c : Nat), n ≤ c → alI (sBA So bu n S) c = alI S c ∧ sBA So bu n S 3 c = S 3 c
  | 0, c, _ => ⟨rfl, rfl⟩
  | n + 1, c, h => by
    have ih := sBA_other (So := So) (bu := bu) (S := S) n c (by omega)
    show alI (Bs So bu n (sBA So bu n S)) c = _ ∧ Bs So bu n (sBA So bu n S) 3 c = _
    unfold Bs
    split
    · have := sBu_other (b := n) (c := c) (S := sBA So bu n S) (by omega)
      exact ⟨this.1.trans ih.1, this.2.trans ih.2⟩
    · exact ih
theorem s_burst {d n k : Nat} {bu : Int32} {So : Nat → Bool} {S σ : gw_S} (hk : gw_st k) (hbu : 1 ≤ bu) (h : Rp n So S (vw k σ)) : gB (d + 1) mX3_burstAll [.ref k, .int (bm (fun b => So b && decide (bu ≤ alI S b)) n)] σ (fun v σ' => v = none ∧ Rp n So (sBA So bu n S) (vw k σ') ∧ σ' k 12 = σ k 12 ∧ FS k σ σ') := by
  have hn := h.1.2.1
  have ripe : ∀ b, b < n → (tb (bm (fun b => So b && decide (bu ≤ alI S b)) n) b ↔ (¬ S 3 b = 0 ∧ So b = true ∧ bu ≤ alI S b)) := by
    intro b hb
    rw [tb_bm n b (by omega) (by omega)]
    simp only [Bool.and_eq_true, decide_eq_true_iff]
    constructor
    · rintro ⟨-, q1, q2⟩
      refine ⟨fun z => ?_, q1, q2⟩
      rw [rep_alI0 h hb z] at q2
      exact absurd (i_le.mp q2) (by have := i_le.mp hbu; rw [show (1 : Int32).toInt = 1 from by decide] at this; rw [show (0 : Int32).toInt = 0 from by decide]; omega)
    · rintro ⟨-, q1, q2⟩
      exact ⟨hb, q1, q2⟩
  have key : ∀ m b (s : gw_S), b + m = n → Rp n So (sBA So bu b S) (vw k s) → s k 12 = σ k 12 → FS k σ s → gG (d + 1) mX3_burstAll 2 [some (.ref k), some (.int (bm (fun b => So b && decide (bu ≤ alI S b)) n)), some (.int (nI b))] [] s (fun v σ' => v = none ∧ Rp n So (sBA So bu n S) (vw k σ') ∧ σ' k 12 = σ k 12 ∧ FS k σ σ') := by
    intro m
    induction m with
    | zero =>
      intro b s hb hr hd hf
      have : b = n := by omega
      subst this
      refine bX3_burstAll_2 hk ?_
      rw [show s k 7 = nI b from hr.1.1]
      exact ⟨fun _ => ⟨rfl, hr, hd, hf⟩, fun c => absurd (nI_le (Nat.le_refl _) (by omega)) c⟩
    | succ m ih =>
      intro b s hb hr hd hf
      have hbn : b < n := by omega
      have ot := sBA_other (So := So) (bu := bu) (S := S) b b (Nat.le_refl b)
      refine bX3_burstAll_2 hk ?_
      rw [show s k 7 = nI n from hr.1.1, nI_1]
      refine ⟨fun c => absurd c (nI_ge (by omega) (by omega)), fun _ => ⟨fun c => ih (b + 1) s (by omega) ?_ hd hf, fun c => (s_letGo (e := 7) hk (Or.inr rfl) hbn hr).mono ?_⟩⟩
      · have : ¬ (¬ S 3 b = 0 ∧ So b = true ∧ bu ≤ alI S b) := fun q => c ((ripe b hbn).mpr q)
        show Rp n So (Bs So bu b (sBA So bu b S)) (vw k s)
        unfold Bs
        rw [ot.1, ot.2, if_neg this]
        exact hr
      · rintro v σ' ⟨rfl, g1, g2, g3⟩
        refine ⟨rfl, ih (b + 1) σ' (by omega) ?_ (g2.trans hd) (hf.tr g3)⟩
        show Rp n So (Bs So bu b (sBA So bu b S)) (vw k σ')
        unfold Bs
        rw [ot.1, ot.2, if_pos ((ripe b hbn).mp c)]
        exact g1
  exact eX3_burstAll hk (key n 0 σ (by omega) h rfl FS.rf)
/-! the class holds the told acts and hot days -/
def TCa (τ σ : gw_S) : Prop := σ 11 4 = nI (nA τ) ∧ (∀ a, a < nA τ → σ 12 a = τ 148 a ∧ σ 13 a = τ 149 a ∧ σ 14 a = τ 150 a ∧ σ 15 a = τ 151 a) ∧ σ 6 3 = nI (nH τ) ∧ (∀ j, j < nH τ → σ 16 j = τ 147 j) ∧ σ 6 4 = τ 1 9
theorem TCa.fr {τ σ σ' : gw_S} (h : TCa τ σ) (hf : ∀ k ∈ [6, 11, 12, 13, 14, 15, 16], σ' k = σ k) : TCa τ σ' := by
  unfold TCa at h ⊢
  rw [hf 6 (by decide), hf 11 (by decide), hf 12 (by decide), hf 13 (by decide), hf 14 (by decide), hf 15 (by decide), hf 16 (by decide)]
  exact h
theorem FS.low {k : Nat} {σ σ' : gw_S} (h : FS k σ σ') (hk : 36 ≤ k) : ∀ m, m < 36 → σ' m = σ m := fun m hm => h m (Or.inl (by omega))
theorem TCa.fs {τ σ σ' : gw_S} {k : Nat} (h : TCa τ σ) (hf : FS k σ σ') (hk : 36 ≤ k) : TCa τ σ' := h.fr (fun m hm => hf.low hk m (by revert hm; simp only [List.mem_cons, List.not_mem_nil, or_false]; omega))
theorem s_isHot {d D : Nat} {τ σ : gw_S} (hw : WF τ) (h : TCa τ σ) (hD : D < 40) : gB d mX6_isHot [.ref 6, .int (nI D)] σ (fun v σ' => v = some (.int (bi (hotF τ D = true))) ∧ σ' = σ) := by
  have h8 := hw.2.1.2.1
  have key : ∀ m j, j + m = nH τ → anyN (fun j => decide (τ 147 j = nI D)) j = false → gG d mX6_isHot 2 [some (.ref 6), some (.int (nI D)), some (.int (nI j))] [] σ (fun v σ' => v = some (.int (bi (hotF τ D = true))) ∧ σ' = σ) := by
    intro m
    induction m with
    | zero =>
      intro j hj ha
      have : j = nH τ := by omega
      subst this
      refine bX6_isHot_2 ?_
      rw [h.2.2.1]
      exact ⟨fun _ => ⟨by rw [bi_f]; unfold hotF; rw [ha]; decide, rfl⟩, fun c => absurd (nI_le (Nat.le_refl _) (by omega)) c⟩
    | succ m ih =>
      intro j hj ha
      refine bX6_isHot_2 ?_
      rw [h.2.2.1, i_cl (show j < 2 ^ 31 by omega), h.2.2.2.1 j (by omega), nI_1]
      refine ⟨fun c => absurd c (nI_ge (by omega) (by omega)), fun _ => ⟨vp_in_nI (by omega) (by decide), fun c => ih (j + 1) (by omega) ?_, fun c => ⟨?_, rfl⟩⟩⟩
      · unfold anyN
        rw [ha]
        simp [c]
      · rw [bi_t]
        unfold hotF
        exact anyN_iff.mpr ⟨j, by omega, by simp [c]⟩
  exact eX6_isHot (key (nH τ) 0 (by omega) rfl)
theorem aS_7 {n : Nat} {K : Int32} {b : Nat} {t : Int32} {S : gw_S} : aS n K b t S 7 = S 7 := by
  unfold aS sSell sCork
  repeat' split
  all_goals first | rfl | rw [gw_ne (by decide)] | (funext z; simp [sJn, sBr])
theorem Rp.wk {n a : Nat} {So : Nat → Bool} {S c : gw_S} (ha : a < 16) (h : Rp n So S c) : Rp n So (gw_u S 7 a 1) (gw_u c 0 11 (c 0 11 ||| (1 : Int32) <<< (nI a &&& 31))) := by
  obtain ⟨⟨a1, a2, a3⟩, hU, hV, hW, ⟨o1, o2, o3, o4⟩, hS⟩ := h
  refine ⟨⟨by rw [gw_nj (by decide)]; exact a1, a2, fun i hi => by rw [gw_ne (by decide), gw_ne (by decide)]; exact a3 i hi⟩, ?_, ?_, ?_, ⟨?_, ?_, ?_, ?_⟩, ?_⟩
  · intro i j hi hj hne
    rw [gw_ne (by decide), gw_ne (by decide), gw_ne (by decide)]
    exact hU i j hi hj hne
  · intro x v hx hv
    have : pcl (gw_u c 0 11 (c 0 11 ||| (1 : Int32) <<< (nI a &&& 31))) x v = pcl c x v := by
      funext i
      unfold pcl
      rw [gw_ne (by decide), gw_ne (by decide), gw_ne (by decide)]
    rw [this, gw_ne (by decide)]
    exact hV x v hx hv
  · intro x hx
    rw [gw_nj (by decide), gw_ne (by decide), gw_ne (by decide), gw_ne (by decide)]
    exact hW x hx
  · intro x hx
    rw [gw_ne (by decide), gw_ne (by decide), gw_ne (by decide), gw_ne (by decide)]
    exact o1 x hx
  · intro v hv
    rw [gw_ne (by decide), gw_ne (by decide), gw_ne (by decide), gw_ne (by decide)]
    exact o2 v hv
  · rw [gw_nj (by decide), gw_ne (by decide)]; exact o3
  · intro x hx
    rw [gw_self, tb_or1 (by omega) (by omega), o4 x hx, gw_at]
    by_cases e : x = a
    · simp [e]
    · have : ¬ a = x := fun q => e q.symm
      simp [e, this]
  · intro x hx
    rw [gw_nj (by decide)]
    exact hS x hx
theorem aF_01 {n : Nat} {K : Int32} {b : Nat} {t : Int32} {S : gw_S} : aF n K b t S = 0 ∨ aF n K b t S = 1 := by
  unfold aF bi
  repeat' split
  all_goals first | exact Or.inl rfl | exact Or.inr rfl
/-- the acts of a day and the leak behind them -/
theorem s_until {d D n k : Nat} {w : Int32} {So : Nat → Bool} {τ S σ : gw_S} (hw : WF τ) (hk : gw_st k) (hk36 : 36 ≤ k) (ht : TCa τ σ) (hD : D < 40) (hd : σ k 12 + 1 = nI D) (hz : ∀ a, a < nA τ → τ 148 a = nI D → S 7 a = 0) (h : Rp n So S (vw k σ)) : gB (d + 2) mX3_passUntilHeat [.ref k, .ref 11, .int w] σ (fun v σ' => v = none ∧ Rp n So (sLA n (sActs n τ w (nI D) (nA τ) S)) (vw k σ') ∧ σ' k 12 = nI D ∧ FS k σ σ') := by
  have hA := hw.2.2.2.1.2.1
  refine eX3_passUntilHeat hk (fun s1 q1 => ?_)
  have f1 : FS k σ s1 := by rw [q1]; exact FS.u0
  have w1 : vw k s1 = gw_u (vw k σ) 0 12 (nI D) := by rw [q1, vw_u0, hd]
  have r1 : Rp n So S (vw k s1) := by
    obtain ⟨⟨a1, a2, a3⟩, hU, hV, hW, ⟨o1, o2, o3, o4⟩, hS⟩ := h
    have j0 : ∀ j, j ≠ 12 → vw k s1 0 j = vw k σ 0 j := fun j hj => by rw [w1, gw_nj hj]
    have jq : ∀ q, q ≠ 0 → vw k s1 q = vw k σ q := fun q hq => by rw [w1, gw_ne hq]
    have pq : ∀ b v, pcl (vw k s1) b v = pcl (vw k σ) b v := fun b v => by
      funext i; unfold pcl; rw [jq 3 (by decide), jq 1 (by decide), jq 2 (by decide)]
    refine ⟨⟨by rw [j0 7 (by decide)]; exact a1, a2, fun i hi => by rw [jq 1 (by decide), jq 3 (by decide)]; exact a3 i hi⟩, ?_, ?_, ?_, ⟨?_, ?_, ?_, ?_⟩, ?_⟩
    · intro i j hi hj hne
      rw [jq 1 (by decide), jq 2 (by decide), jq 3 (by decide)]
      exact hU i j hi hj hne
    · intro b v hb hv; rw [pq]; exact hV b v hb hv
    · intro b hb; rw [j0 9 (by decide), jq 3 (by decide), jq 2 (by decide)]; exact hW b hb
    · intro b hb; rw [jq 5 (by decide), jq 4 (by decide)]; exact o1 b hb
    · intro b hb; rw [jq 6 (by decide), jq 7 (by decide)]; exact o2 b hb
    · rw [j0 10 (by decide)]; exact o3
    · intro a ha; rw [j0 11 (by decide)]; exact o4 a ha
    · intro b hb; rw [j0 8 (by decide)]; exact hS b hb
  have key : ∀ m a (s T : gw_S), a + m = nA τ → T = itN (sAct n τ w (nI D)) a S → Rp n So T (vw k s) → s k 12 = nI D → FS k σ s → (∀ x, a ≤ x → T 7 x = S 7 x) → gG (d + 1 + 1) mX3_passUntilHeat 12 [some (.ref k), some (.ref 11), some (.int w), some (.int (nI a))] [] s (fun v σ' => v = none ∧ Rp n So (sLA n (sActs n τ w (nI D) (nA τ) S)) (vw k σ') ∧ σ' k 12 = nI D ∧ FS k σ σ') := by
    intro m
    induction m with
    | zero =>
      intro a s T ha hT hr h12 hf _
      have : a = nA τ := by omega
      subst this
      have ht2 := ht.fs hf hk36
      refine bX3_passUntilHeat_12 hk ?_
      rw [ht2.1]
      refine ⟨fun _ => (s_leak hk hr).mono ?_, fun c => absurd (nI_le (Nat.le_refl _) (by omega)) c⟩
      rintro v σ' ⟨rfl, g1, g2, g3⟩
      rw [hT] at g1
      exact ⟨rfl, rfl, g1, g2.trans h12, hf.tr g3⟩
    | succ m ih =>
      intro a s T ha hT hr h12 hf h7
      have ht2 := ht.fs hf hk36
      obtain ⟨t1, t2, t3, t4⟩ := ht2.2.1 a (by omega)
      obtain ⟨-, ⟨K, hK, eK⟩, ⟨b, hb, eb⟩, ⟨t, htt, et⟩⟩ := hw.2.2.2.1.2.2 a (by omega)
      have va : vp_in (nI a) 16 := vp_in_nI (by omega) (by decide)
      have nxt : itN (sAct n τ w (nI D)) (a + 1) S = sAct n τ w (nI D) a T := by rw [hT]; rfl
      refine bX3_passUntilHeat_12 hk ?_
      rw [ht2.1, i_cl (show a < 2 ^ 31 by omega), t1, t2, t3, t4, h12, nI_1]
      have skip : ¬ (τ 148 a = nI D ∧ ¬ nI a = w) → gG (d + 1 + 1) mX3_passUntilHeat 12 [some (.ref k), some (.ref 11), some (.int w), some (.int (nI (a + 1)))] [] s (fun v σ' => v = none ∧ Rp n So (sLA n (sActs n τ w (nI D) (nA τ) S)) (vw k σ') ∧ σ' k 12 = nI D ∧ FS k σ σ') := by
        intro c
        refine ih (a + 1) s T (by omega) ?_ hr h12 hf (fun x hx => h7 x (by omega))
        rw [nxt, sAct, if_neg c]
      refine ⟨fun c => absurd c (nI_ge (by omega) (by omega)), fun _ => ⟨va, fun c => skip (fun q => c q.1), fun c => ⟨fun c2 => skip (fun q => q.2 c2), fun c2 => ⟨va, va, va, ?_⟩⟩⟩⟩
      have z7 : T 7 a = 0 := by rw [h7 a (Nat.le_refl a)]; exact hz a (by omega) c
      have sa : sAct n τ w (nI D) a T = gw_u (aS n (nI K) b (nI t) T) 7 a (aF n (nI K) b (nI t) T) := by
        rw [sAct, if_pos ⟨c, c2⟩, eK, eb, et, i_cl (show b < 2 ^ 31 by omega)]
      rw [eK, eb, et]
      refine (s_doAct hk hK hb (fun _ => ⟨t, htt, rfl⟩) hr).mono ?_
      rintro v σ3 ⟨rfl, g1, g2, g3⟩
      have h7' : ∀ x, a + 1 ≤ x → sAct n τ w (nI D) a T 7 x = S 7 x := fun x hx => by
        rw [sa, gw_nj (by omega), aS_7]
        exact h7 x (by omega)
      refine ⟨_, rfl, fun c3 => ?_, fun c3 s5 q5 => ?_⟩
      · refine ih (a + 1) σ3 _ (by omega) nxt.symm ?_ (g2.trans h12) (hf.tr g3) h7'
        rw [sa, c3]
        have e : gw_u (aS n (nI K) b (nI t) T) 7 a 0 = aS n (nI K) b (nI t) T := by
          funext x y
          rw [gw_at]
          split
          · rename_i q
            rw [q.1, q.2, aS_7, z7]
          · rfl
        rw [e]
        exact g1
      · have f1 : aF n (nI K) b (nI t) T = 1 := (aF_01).resolve_left c3
        refine ih (a + 1) s5 _ (by omega) nxt.symm ?_ ?_ (hf.tr (g3.tr (by rw [q5]; exact FS.u0))) h7'
        · rw [sa, f1, q5, vw_u0]
          exact g1.wk (by omega)
        · rw [q5, gw_nj (by decide)]
          exact g2.trans h12
  exact key (nA τ) 0 s1 S (by omega) rfl r1 (by rw [q1, gw_self, hd]) f1 (fun _ _ => rfl)
/-- a day of the class, as told but for the acts' left out -/
def cDay (n : Nat) (So : Nat → Bool) (τ : gw_S) (w : Int32) (D : Nat) (S : gw_S) : gw_S := sEnds (hotF τ D) So (τ 1 9) n (sActs n τ w (nI D) (nA τ) S)
theorem s_passDay {d D n k : Nat} {w : Int32} {So : Nat → Bool} {τ S σ : gw_S} (hw : WF τ) (hk : gw_st k) (hk36 : 36 ≤ k) (ht : TCa τ σ) (hD : D < 40) (hd : σ k 12 + 1 = nI D) (hz : ∀ a, a < nA τ → τ 148 a = nI D → S 7 a = 0) (h : Rp n So S (vw k σ)) : gB (d + 3) mX3_passDay [.ref k, .ref 6, .int w] σ (fun v σ' => v = none ∧ Rp n So (cDay n So τ w D S) (vw k σ') ∧ σ' k 12 = nI D ∧ FS k σ σ') := by
  refine eX3_passDay hk ((s_until hw hk hk36 ht hD hd hz h).mono ?_)
  rintro v σ1 ⟨rfl, g1, g2, g3⟩
  refine ⟨rfl, ?_⟩
  rw [g2]
  have ht1 := ht.fs g3 hk36
  refine gB_det (s_isHot hw ht1 hD) ⟨_, rfl, br_bj (fun hh => ?_) (fun hh => ⟨rfl, ?_, g2, g3⟩)⟩
  · rw [ht1.2.2.2.2]
    refine gB_det (s_ripe (bu := τ 1 9) hk g1) ⟨_, rfl, (s_burst hk hw.2.2.1.1 g1).mono ?_⟩
    rintro v σ2 ⟨rfl, k1, k2, k3⟩
    refine ⟨rfl, rfl, ?_, k2.trans g2, g3.tr k3⟩
    unfold cDay
    rw [sEnds_two, if_pos hh]
    exact k1
  · unfold cDay
    rw [sEnds_two, if_neg hh]
    exact g1
