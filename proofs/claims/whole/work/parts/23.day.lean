theorem Rp.of {n : Nat} {So : Nat → Bool} {S S2 c : gw_S} (h : Rp n So S c) (e0 : ∀ b v, b < n → v < 8 → S 0 (8 * b + v) = S2 0 (8 * b + v)) (e3 : ∀ b, b < n → S 3 b = S2 3 b ∧ S 1 b = S2 1 b ∧ S 2 b = S2 2 b) (e4 : ∀ v, v < 8 → S 4 v = S2 4 v ∧ S 5 v = S2 5 v) (e6 : S 6 0 = S2 6 0) (e7 : ∀ a, a < 32 → (S 7 a = 0 ↔ S2 7 a = 0)) : Rp n So S2 c := by
  obtain ⟨hA, hU, hV, hW, ⟨o1, o2, o3, o4⟩, hS⟩ := h
  refine ⟨hA, hU, fun b v hb hv => by rw [← e0 b v hb hv]; exact hV b v hb hv, fun b hb => by rw [← (e3 b hb).1]; exact hW b hb, ⟨fun b hb => by rw [← (e3 b hb).2.1, ← (e3 b hb).2.2]; exact o1 b hb, fun v hv => by rw [← (e4 v hv).1, ← (e4 v hv).2]; exact o2 v hv, by rw [← e6]; exact o3, fun a ha => ?_⟩, hS⟩
  rw [o4 a ha, e7 a ha]
/-- the one parcel of a voice in a bottle -/
theorem rep_phi {n : Nat} {So : Nat → Bool} {S c : gw_S} (h : Rp n So S c) (φ : Int32 → Int32) (h0 : φ 0 = 0) {b v : Nat} (hb : b < n) (hv : v < 8) : sumN (fun i => if c 3 i = nI b ∧ c 1 i = nI v then φ (c 2 i) else 0) n = φ (S 0 (8 * b + v)) := by
  rw [h.2.2.1 b v hb hv]
  by_cases hx : ∃ i, i < n ∧ c 3 i = nI b ∧ c 1 i = nI v ∧ ¬ c 2 i = 0
  · obtain ⟨i, hi, h3, h1, h2⟩ := hx
    have z : ∀ j, j < n → j ≠ i → c 3 j = nI b → c 1 j = nI v → c 2 j = 0 := fun j hj hne j3 j1 => by
      rcases h.2.1 i j hi hj (Ne.symm hne) (by rw [h3, j3]) (by rw [h1, j1]) with z | z
      · exact absurd z h2
      · exact z
    rw [sumN_only (k := i) hi, sumN_only (k := i) hi]
    · simp [pcl, h3, h1]
    · intro j hj hne
      unfold pcl
      split
      · rename_i q
        exact z j hj hne q.1 q.2
      · rfl
    · intro j hj hne
      split
      · rename_i q
        rw [z j hj hne q.1 q.2, h0]
      · rfl
  · have z : ∀ j, j < n → c 3 j = nI b → c 1 j = nI v → c 2 j = 0 := fun j hj j3 j1 => Classical.byContradiction (fun w => hx ⟨j, hj, j3, j1, w⟩)
    rw [sumN_zero, sumN_zero, h0]
    · intro j hj
      unfold pcl
      split
      · rename_i q
        exact z j hj q.1 q.2
      · rfl
    · intro j hj
      split
      · rename_i q
        rw [z j hj q.1 q.2, h0]
      · rfl
theorem rep_empty {n : Nat} {So : Nat → Bool} {S c : gw_S} (h : Rp n So S c) {b v : Nat} (hb : b < n) (hv : v < 8) (hw : S 3 b = 0) : S 0 (8 * b + v) = 0 := by
  rw [h.2.2.1 b v hb hv]
  refine sumN_zero (fun i hi => ?_)
  unfold pcl
  split
  · rename_i q
    exact (h.2.2.2.1 b hb).2 hw i hi q.1
  · rfl
theorem rep_alI0 {n : Nat} {So : Nat → Bool} {S c : gw_S} (h : Rp n So S c) {b : Nat} (hb : b < n) (hw : S 3 b = 0) : alI S b = 0 := sumN_zero (fun v hv => rep_empty h hb hv hw)
theorem Rp.own {n : Nat} {So : Nat → Bool} {S c : gw_S} {b : Nat} {t : Int32} (h : Rp n So S c) : Rp n So (gw_u S 1 b t) (gw_u c 5 b t) := by
  obtain ⟨⟨a1, a2, a3⟩, hU, hV, hW, ⟨o1, o2, o3, o4⟩, hS⟩ := h
  refine ⟨⟨by rw [gw_ne (by decide)]; exact a1, a2, fun i hi => by rw [gw_ne (by decide), gw_ne (by decide)]; exact a3 i hi⟩, ?_, ?_, ?_, ⟨?_, ?_, ?_, ?_⟩, ?_⟩
  · intro i j hi hj hne
    rw [gw_ne (by decide), gw_ne (by decide), gw_ne (by decide)]
    exact hU i j hi hj hne
  · intro x v hx hv
    have : pcl (gw_u c 5 b t) x v = pcl c x v := by
      funext i
      unfold pcl
      rw [gw_ne (by decide), gw_ne (by decide), gw_ne (by decide)]
    rw [this, gw_ne (by decide)]
    exact hV x v hx hv
  · intro x hx
    rw [gw_ne (by decide), gw_ne (by decide), gw_ne (by decide), gw_ne (by decide)]
    exact hW x hx
  · intro x hx
    rw [gw_ne (show (4 : Nat) ≠ 5 by decide), gw_ne (show (2 : Nat) ≠ 1 by decide), gw_at, gw_at]
    by_cases e : x = b
    · simp [e]
      rw [← e]
      exact (o1 x hx).2
    · simp [e]
      exact o1 x hx
  · intro v hv
    rw [gw_ne (by decide), gw_ne (by decide), gw_ne (by decide), gw_ne (by decide)]
    exact o2 v hv
  · rw [gw_ne (by decide), gw_ne (by decide)]; exact o3
  · intro a ha
    rw [gw_ne (by decide), gw_ne (by decide)]
    exact o4 a ha
  · intro x hx
    rw [gw_ne (by decide)]
    exact hS x hx
theorem Rp.ck {n : Nat} {So : Nat → Bool} {S c : gw_S} {b : Nat} {t : Int32} (h : Rp n So S c) : Rp n So (gw_u S 2 b t) (gw_u c 4 b t) := by
  obtain ⟨⟨a1, a2, a3⟩, hU, hV, hW, ⟨o1, o2, o3, o4⟩, hS⟩ := h
  refine ⟨⟨by rw [gw_ne (by decide)]; exact a1, a2, fun i hi => by rw [gw_ne (by decide), gw_ne (by decide)]; exact a3 i hi⟩, ?_, ?_, ?_, ⟨?_, ?_, ?_, ?_⟩, ?_⟩
  · intro i j hi hj hne
    rw [gw_ne (by decide), gw_ne (by decide), gw_ne (by decide)]
    exact hU i j hi hj hne
  · intro x v hx hv
    have : pcl (gw_u c 4 b t) x v = pcl c x v := by
      funext i
      unfold pcl
      rw [gw_ne (by decide), gw_ne (by decide), gw_ne (by decide)]
    rw [this, gw_ne (by decide)]
    exact hV x v hx hv
  · intro x hx
    rw [gw_ne (by decide), gw_ne (by decide), gw_ne (by decide), gw_ne (by decide)]
    exact hW x hx
  · intro x hx
    rw [gw_ne (show (5 : Nat) ≠ 4 by decide), gw_ne (show (1 : Nat) ≠ 2 by decide), gw_at, gw_at]
    by_cases e : x = b
    · simp [e]
      rw [← e]
      exact (o1 x hx).1
    · simp [e]
      exact o1 x hx
  · intro v hv
    rw [gw_ne (by decide), gw_ne (by decide), gw_ne (by decide), gw_ne (by decide)]
    exact o2 v hv
  · rw [gw_ne (by decide), gw_ne (by decide)]; exact o3
  · intro a ha
    rw [gw_ne (by decide), gw_ne (by decide)]
    exact o4 a ha
  · intro x hx
    rw [gw_ne (by decide)]
    exact hS x hx
theorem s_doAct {d n k K b : Nat} {t : Int32} {So : Nat → Bool} {S σ : gw_S} (hk : gw_st k) (hK : K < 4) (hb : b < 8) (ht : K = 1 → ∃ x, x < 8 ∧ t = nI x) (h : Rp n So S (vw k σ)) : gB (d + 1) mX3_doAct [.ref k, .int (nI K), .int (nI b), .int t] σ (fun v σ' => v = some (.int (aF n (nI K) b t S)) ∧ Rp n So (aS n (nI K) b t S) (vw k σ') ∧ σ' k 12 = σ k 12 ∧ FS k σ σ') := by
  have hn := h.1.2.1
  have hs : σ k 7 = nI n := h.1.1
  have e0 : nI K = 0 ↔ K = 0 := nI_eq (b := 0) (by omega) (by decide)
  have e1 : nI K = 1 ↔ K = 1 := nI_eq (b := 1) (by omega) (by decide)
  have e2 : nI K = 2 ↔ K = 2 := nI_eq (b := 2) (by omega) (by decide)
  have e3 : nI K = 3 ↔ K = 3 := nI_eq (b := 3) (by omega) (by decide)
  have vb : vp_in (nI b) 8 := vp_in_nI hb (by decide)
  have t1 : ¬ (1 : Int32) = 0 := by decide
  refine eX3_doAct hk ?_
  rw [hs]
  refine gB_det s_isWithin ⟨_, rfl, ?_⟩
  rw [i_cl (show b < 2 ^ 31 by omega)]
  refine br_bi (fun hw => ?_) (fun hw => ?_)
  · have hbn : b < n := (nI_ltI (by omega) (by omega)).mp hw.2
    refine ⟨fun c => ?_, fun c => ?_, fun c => ?_, fun c => ?_, fun c0 c1 c2 c3 => ?_⟩
    · have ow := (h.2.2.2.2.1.1 b hbn).1
      have ow' : σ (k + 5) b = S 1 b := ow
      rw [ow']
      rw [aF, aS, if_pos c, if_pos c, sSell, if_pos hbn]
      refine ⟨vb, fun z => ⟨vb, fun s3 q3 => ⟨?_, ?_, ?_, ?_⟩⟩, fun z => ⟨vb, fun s3 q3 => ⟨?_, ?_, ?_, ?_⟩⟩⟩
      · rw [bi_f (fun q => q.2 z)]
      · rw [q3, vw_u]; exact h.own
      · rw [q3, gw_ne (by omega)]
      · rw [q3]; exact FS.u (by decide)
      · rw [bi_t ⟨hbn, z⟩]
      · rw [q3, vw_u]; exact h.own
      · rw [q3, gw_ne (by omega)]
      · rw [q3]; exact FS.u (by decide)
    · obtain ⟨x, hx, rfl⟩ := ht (e1.mp c)
      have n0 : ¬ nI K = 0 := fun q => by rw [e0] at q; rw [e1] at c; omega
      rw [aF, aS, if_neg n0, if_pos c, if_neg n0, if_pos c, i_cl (show x < 2 ^ 31 by omega), nI_eq (show b < 2 ^ 31 by omega) (show x < 2 ^ 31 by omega)]
      have no : ¬ cJ n b x S → (some (Value.int 0) = some (Value.int (bi (cJ n b x S))) ∧ Rp n So (if cJ n b x S then sJn b x S else S) (vw k σ) ∧ σ k 12 = σ k 12 ∧ FS k σ σ) := fun q => by
        rw [bi_f q, if_neg q]
        exact ⟨rfl, h, rfl, FS.rf⟩
      refine ⟨fun z => ⟨fun _ => no (fun q => q.2.2.1 z), fun q => absurd rfl q⟩, fun z => gB_det (s_isWholeC hk h (by omega)) ⟨_, rfl, br_bj (fun w1 => gB_det (s_isWholeC hk h (by omega)) ⟨_, rfl, br_bj (fun w2 => ⟨fun q => absurd q t1, fun _ => ?_⟩) (fun w2 => ⟨fun _ => no (fun q => w2 ⟨q.2.1, q.2.2.2.2⟩), fun q => absurd rfl q⟩)⟩) (fun w1 => ⟨fun _ => no (fun q => w1 ⟨q.1, q.2.2.2.1⟩), fun q => absurd rfl q⟩)⟩⟩
      have cc : cJ n b x S := ⟨w1.1, w2.1, z, w1.2, w2.2⟩
      rw [bi_t cc, if_pos cc]
      refine (s_pour hk cc h).mono ?_
      rintro v σ' ⟨rfl, g1, g2, g3⟩
      exact ⟨rfl, rfl, g1, g2, g3⟩
    · have n0 : ¬ nI K = 0 := fun q => by rw [e0] at q; rw [e2] at c; omega
      have n1 : ¬ nI K = 1 := fun q => by rw [e1] at q; rw [e2] at c; omega
      rw [aF, aS, if_neg n0, if_neg n1, if_pos c, if_neg n0, if_neg n1, if_pos c]
      refine gB_det (s_isWholeC hk h (by omega)) ⟨_, rfl, (s_letGo (e := 6) hk (Or.inl rfl) hbn h).mono ?_⟩
      rintro v σ' ⟨rfl, g1, g2, g3⟩
      refine ⟨rfl, bi_nar, rfl, ?_, g2, g3⟩
      rw [if_pos rfl] at g1
      by_cases cc : cB n b S
      · rw [if_pos cc]; exact g1
      · rw [if_neg cc]
        have w0 : S 3 b = 0 := Classical.byContradiction (fun q => cc ⟨hbn, q⟩)
        refine g1.of ?_ ?_ ?_ ?_ ?_
        · intro x v hx hv
          have ex : (8 * x + v) / 8 = x := by omega
          by_cases e : x = b
          · subst e
            rw [rep_empty h hx hv w0]
            simp [sBr, ex]
          · simp [sBr, ex, e]
        · intro x hx
          by_cases e : x = b
          · subst e
            simp [sBr, upd, w0]
          · simp [sBr, upd, e]
        · intro v hv
          simp [sBr, rep_empty h hbn hv w0]
        · simp [sBr]
        · intro a ha
          simp [sBr]
    · have n0 : ¬ nI K = 0 := fun q => by rw [e0] at q; rw [e3] at c; omega
      have n1 : ¬ nI K = 1 := fun q => by rw [e1] at q; rw [e3] at c; omega
      have n2 : ¬ nI K = 2 := fun q => by rw [e2] at q; rw [e3] at c; omega
      have ow : σ (k + 4) b = S 2 b := (h.2.2.2.2.1.1 b hbn).2
      rw [ow, aF, aS, if_neg n0, if_neg n1, if_neg n2, if_neg n0, if_neg n1, if_neg n2, sCork, if_pos hbn]
      refine ⟨vb, fun z => ⟨vb, fun s3 q3 => ⟨?_, ?_, ?_, ?_⟩⟩, fun z => ⟨vb, fun s3 q3 => ⟨?_, ?_, ?_, ?_⟩⟩⟩
      · rw [bi_f (fun q => q.2 z)]
      · rw [q3, vw_u]; exact h.ck
      · rw [q3, gw_ne (by omega)]
      · rw [q3]; exact FS.u (by decide)
      · rw [bi_t ⟨hbn, z⟩]
      · rw [q3, vw_u]; exact h.ck
      · rw [q3, gw_ne (by omega)]
      · rw [q3]; exact FS.u (by decide)
    · exfalso
      rw [e0] at c0
      rw [e1] at c1
      rw [e2] at c2
      rw [e3] at c3
      omega
  · have hbn : ¬ b < n := fun q => hw ⟨nI_pos' (by omega), (nI_ltI (by omega) (by omega)).mpr q⟩
    have f0 : aF n (nI K) b t S = 0 := by
      unfold aF
      repeat' split
      all_goals exact bi_f (fun q => hbn q.1)
    have s0 : aS n (nI K) b t S = S := by
      unfold aS sSell sCork
      repeat' split
      all_goals first | rfl | (rename_i q; exact absurd q.1 hbn) | (rename_i q; exact absurd q hbn) | (exfalso; rename_i q _; exact hbn q.1) | skip
    rw [f0, s0]
    exact ⟨rfl, h, rfl, FS.rf⟩
