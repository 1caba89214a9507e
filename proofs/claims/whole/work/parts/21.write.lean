/-! letGo -/
theorem l_letGo {d n k e b : Nat} (hk : gw_st k) (he : e = 6 ∨ e = 7) (hb : b < n) : ∀ m i (σ σ0 : gw_S), i + m = n → RpA n (vw k σ0) → (∀ j, vw k σ 0 j = vw k σ0 0 j) → (∀ q, q ≠ 2 → q ≠ e → q < 8 → σ (k + q) = σ0 (k + q)) → (∀ j, j < n → vw k σ 2 j = if j < i ∧ vw k σ0 3 j = nI b then 0 else vw k σ0 2 j) → (∀ v, v < 8 → vw k σ e v = vw k σ0 e v + sumN (pcl (vw k σ0) b v) i) → FS k σ0 σ →
    gG d mX3_letGo 16 [some (.ref k), some (.int (nI b)), some (.ref (k + e)), some (.int (nI i))] [] σ (fun v σ' => v = none ∧ (∀ j, vw k σ' 0 j = vw k σ0 0 j) ∧ (∀ q, q ≠ 2 → q ≠ e → q < 8 → σ' (k + q) = σ0 (k + q)) ∧ (∀ j, j < n → vw k σ' 2 j = if vw k σ0 3 j = nI b then 0 else vw k σ0 2 j) ∧ (∀ v, v < 8 → vw k σ' e v = vw k σ0 e v + sumN (pcl (vw k σ0) b v) n) ∧ FS k σ0 σ') := by
  have hke : gw_k (k + e) = some (.inl (.int, 8)) := by
    rcases he with rfl | rfl
    · exact hk.2 5 (by decide)
    · exact hk.2 6 (by decide)
  intro m
  induction m with
  | zero =>
    intro i σ σ0 hi hA h0 hq h2 hv hf
    have : i = n := by omega
    subst this
    have hs : σ k 7 = nI i := by have := h0 7; rw [show vw k σ 0 7 = σ k 7 from rfl] at this; rw [this]; exact hA.1
    refine bX3_letGo_16 hk hke ?_
    rw [hs]
    refine ⟨fun _ => ⟨rfl, h0, hq, fun j hj => ?_, hv, hf⟩, fun c => absurd (nI_le (Nat.le_refl _) (by have := hA.2.1; omega)) c⟩
    rw [h2 j hj]
    simp [hj]
  | succ m ih =>
    intro i σ σ0 hi hA h0 hq h2 hv hf
    have hn := hA.2.1
    have hs : σ k 7 = nI n := by have := h0 7; rw [show vw k σ 0 7 = σ k 7 from rfl] at this; rw [this]; exact hA.1
    have e3 : σ (k + 3) = σ0 (k + 3) := hq 3 (by decide) (by omega) (by decide)
    have e1 : σ (k + 1) = σ0 (k + 1) := hq 1 (by decide) (by omega) (by decide)
    obtain ⟨⟨u, hu, eu⟩, p, hp, ep⟩ := hA.2.2 i (by omega)
    have eu' : σ0 (k + 1) i = nI u := eu
    have vi : vp_in (nI i) 8 := vp_in_nI (by omega) (by decide)
    have vu : vp_in (nI u) 8 := vp_in_nI hu (by decide)
    refine bX3_letGo_16 hk hke ?_
    rw [hs, i_cl (show i < 2 ^ 31 by omega), nI_1, e3, e1, eu', i_cl (show u < 2 ^ 31 by omega)]
    refine ⟨fun c => absurd c (nI_ge (by omega) (by omega)), fun _ => ⟨vi, fun c => ?_, fun c => ⟨vi, vu, vi, vu, fun s2 q2 => ⟨vi, fun s3 q3 => ?_⟩⟩⟩⟩
    · refine ih (i + 1) σ σ0 (by omega) hA h0 hq (fun j hj => ?_) (fun v hv' => ?_) hf
      · rw [h2 j hj]
        by_cases ej : j = i
        · subst ej
          have : ¬ vw k σ0 3 j = nI b := c
          simp [this]
        · have : (j < i + 1) ↔ (j < i) := by omega
          simp [this]
      · rw [hv v hv', sumN, pcl, if_neg (fun q => c q.1), Int32.add_zero]
    · have am : σ (k + 2) i = σ0 (k + 2) i := by
        have := h2 i (by omega)
        simpa [vw] using this
      rw [am] at q2
      have w2 : vw k s3 = gw_u (gw_u (vw k σ) e u (vw k σ e u + σ0 (k + 2) i)) 2 i 0 := by
        rw [q3, vw_u, q2, vw_u]
        rfl
      refine ih (i + 1) s3 σ0 (by omega) hA ?_ ?_ ?_ ?_ ?_
      · intro j
        rw [w2, gw_ne (by decide), gw_ne (by omega)]
        exact h0 j
      · intro q a1 a2 a3
        have : s3 (k + q) = vw k s3 q := rfl
        rw [this, w2, gw_ne a1, gw_ne a2]
        exact hq q a1 a2 a3
      · intro j hj
        rw [w2, gw_at]
        by_cases ej : j = i
        · subst ej
          have : vw k σ0 3 j = nI b := c
          simp [this]
        · have e2e : (2 : Nat) ≠ e := by omega
          have : (j < i + 1) ↔ (j < i) := by omega
          simp [ej, this]
          rw [gw_ne e2e]
          exact h2 j hj
      · intro v hv'
        have e2e : e ≠ 2 := by omega
        rw [w2, gw_ne e2e, gw_at]
        have c' : vw k σ0 3 i = nI b := c
        by_cases ev : v = u
        · subst ev
          simp
          rw [hv v hv', sumN, pcl, if_pos ⟨c', eu⟩, Int32.add_assoc]
          rfl
        · have : ¬ nI u = nI v := by rw [nI_eq (by omega) (by omega)]; omega
          simp [ev]
          rw [hv v hv', sumN, pcl, if_neg (fun q => this (by rw [← eu]; exact q.2)), Int32.add_zero]
      · refine hf.tr ?_
        rw [q3, q2]
        exact (FS.u (by omega)).tr (FS.u (by decide))
/-- what letGo leaves of bottle b -/
theorem rep_go {n k e b : Nat} {So : Nat → Bool} {S S2 σ σ' : gw_S} (he : e = 6 ∨ e = 7) (hb : b < n) (h : Rp n So S (vw k σ)) (h0 : ∀ j, j ≠ 9 → vw k σ' 0 j = vw k σ 0 j) (h9 : vw k σ' 0 9 = vw k σ 0 9 &&& ((1 : Int32) <<< (nI b &&& 31) ^^^ (-1))) (hq : ∀ q, q ≠ 0 → q ≠ 2 → q ≠ e → q < 8 → vw k σ' q = vw k σ q) (h2 : ∀ j, j < n → vw k σ' 2 j = if vw k σ 3 j = nI b then 0 else vw k σ 2 j) (hv : ∀ v, v < 8 → vw k σ' e v = vw k σ e v + sumN (pcl (vw k σ) b v) n)
    (s0 : ∀ c v, c < n → v < 8 → S2 0 (8 * c + v) = if c = b then 0 else S 0 (8 * c + v)) (s3 : ∀ c, c < n → S2 3 c = if c = b then 0 else S 3 c) (s12 : ∀ c, c < n → S2 1 c = S 1 c ∧ S2 2 c = S 2 c) (s4 : ∀ v, v < 8 → S2 4 v = if e = 6 then S 4 v + S 0 (8 * b + v) else S 4 v) (s5 : ∀ v, v < 8 → S2 5 v = if e = 7 then S 5 v + S 0 (8 * b + v) else S 5 v) (s6 : S2 6 0 = S 6 0) (s7 : ∀ a, a < 32 → S2 7 a = S 7 a) : Rp n So S2 (vw k σ') := by
  obtain ⟨⟨a1, a2, a3⟩, hU, hV, hW, ⟨o1, o2, o3, o4⟩, hS⟩ := h
  have q1 := hq 1 (by decide) (by decide) (by omega) (by decide)
  have q3 := hq 3 (by decide) (by decide) (by omega) (by decide)
  have q4 := hq 4 (by decide) (by decide) (by omega) (by decide)
  have q5 := hq 5 (by decide) (by decide) (by omega) (by decide)
  refine ⟨⟨by rw [h0 7 (by decide)]; exact a1, a2, fun i hi => by rw [q1, q3]; exact a3 i hi⟩, ?_, ?_, ?_, ⟨?_, ?_, ?_, ?_⟩, ?_⟩
  · intro i j hi hj hne e3 e1
    rw [q3] at e3
    rw [q1] at e1
    rw [h2 i hi, h2 j hj]
    rcases hU i j hi hj hne e3 e1 with z | z
    · left; split <;> simp_all
    · right; split <;> simp_all
  · intro c v hc hv'
    rw [s0 c v hc hv']
    split
    · rename_i ec
      subst ec
      rw [sumN_zero]
      intro i hi
      unfold pcl
      rw [q3, q1, h2 i hi]
      split
      · rename_i q
        rw [if_pos q.1]
      · rfl
    · rename_i ec
      rw [hV c v hc hv']
      refine sumN_congr (fun i hi => ?_)
      unfold pcl
      rw [q3, q1, h2 i hi]
      split
      · rename_i q
        rw [if_neg]
        rw [q.1, nI_eq (by omega) (by omega)]
        exact ec
      · rfl
  · intro c hc
    refine ⟨?_, ?_⟩
    · rw [h9, tb_clr (by omega) (by omega), (hW c hc).1, s3 c hc]
      by_cases ec : c = b
      · simp [ec]
      · have : ¬ b = c := fun q => ec q.symm
        simp [ec, this]
    · intro z i hi hpl
      rw [q3] at hpl
      rw [h2 i hi]
      rw [s3 c hc] at z
      by_cases ec : c = b
      · subst ec
        rw [if_pos hpl]
      · rw [if_neg ec] at z
        rw [if_neg]
        · exact (hW c hc).2 z i hi hpl
        · rw [hpl, nI_eq (by omega) (by omega)]
          exact ec
  · intro c hc
    rw [q5, q4, (s12 c hc).1, (s12 c hc).2]
    exact o1 c hc
  · intro v hv'
    rw [s4 v hv', s5 v hv']
    have hs := hV b v hb hv'
    rcases he with rfl | rfl
    · have q7 := hq 7 (by decide) (by decide) (by decide) (by decide)
      rw [q7, hv v hv', ← hs, (o2 v hv').1, (o2 v hv').2]
      simp
    · have q6 := hq 6 (by decide) (by decide) (by decide) (by decide)
      rw [q6, hv v hv', ← hs, (o2 v hv').1, (o2 v hv').2]
      simp
  · rw [h0 10 (by decide), s6]; exact o3
  · intro a ha
    rw [h0 11 (by decide), s7 a ha]
    exact o4 a ha
  · intro c hc
    rw [h0 8 (by decide)]
    exact hS c hc
theorem s_letGo {d n k e b : Nat} {So : Nat → Bool} {S σ : gw_S} (hk : gw_st k) (he : e = 6 ∨ e = 7) (hb : b < n) (h : Rp n So S (vw k σ)) : gB d mX3_letGo [.ref k, .int (nI b), .ref (k + e)] σ (fun v σ' => v = none ∧ Rp n So (if e = 6 then sBr b S else sBu b S) (vw k σ') ∧ σ' k 12 = σ k 12 ∧ FS k σ σ') := by
  have hke : gw_k (k + e) = some (.inl (.int, 8)) := by
    rcases he with rfl | rfl
    · exact hk.2 5 (by decide)
    · exact hk.2 6 (by decide)
  refine eX3_letGo hk hke (fun s1 q1 => ?_)
  have w1 : vw k s1 = gw_u (vw k σ) 0 9 (vw k σ 0 9 &&& ((1 : Int32) <<< (nI b &&& 31) ^^^ (-1))) := by rw [q1, vw_u0]; rfl
  have hA1 : RpA n (vw k s1) := by
    obtain ⟨⟨a1, a2, a3⟩, -⟩ := h
    refine ⟨by rw [w1, gw_nj (by decide)]; exact a1, a2, fun i hi => ?_⟩
    rw [w1, gw_ne (by decide), gw_ne (by decide)]
    exact a3 i hi
  have pe : ∀ v, pcl (vw k s1) b v = pcl (vw k σ) b v := by
    intro v
    funext i
    unfold pcl
    rw [w1, gw_ne (by decide), gw_ne (by decide), gw_ne (by decide)]
  refine (l_letGo (d := d) hk he hb n 0 s1 s1 (by omega) hA1 (fun j => rfl) (fun q _ _ _ => rfl) (fun j hj => by simp) (fun v hv => by simp [sumN]) FS.rf).mono ?_
  rintro v σ' ⟨rfl, g0, gq, g2, gv, gf⟩
  have f1 : FS k σ s1 := by rw [q1]; exact FS.u0
  refine ⟨rfl, ?_, ?_, f1.tr gf⟩
  · refine rep_go (e := e) he hb h ?_ ?_ ?_ ?_ ?_ ?_ ?_ ?_ ?_ ?_ ?_ ?_
    · intro j hj
      rw [g0 j, w1, gw_nj hj]
    · rw [g0 9, w1, gw_self]
    · intro q a0 a2 a3 a4
      have : vw k σ' q = vw k s1 q := gq q a2 a3 a4
      rw [this, w1, gw_ne a0]
    · intro j hj
      rw [g2 j hj, w1, gw_ne (by decide), gw_ne (by decide)]
    · intro v hv
      rw [gv v hv, pe v, w1, gw_ne (by omega)]
    · intro c v hc hv
      have e1 : (8 * c + v) / 8 = c := by omega
      rcases he with rfl | rfl <;> simp [sBr, sBu, e1]
    · intro c hc
      rcases he with rfl | rfl <;> simp [sBr, sBu, upd]
    · intro c hc
      rcases he with rfl | rfl <;> simp [sBr, sBu]
    · intro v hv
      rcases he with rfl | rfl <;> simp [sBr, sBu, hv]
    · intro v hv
      rcases he with rfl | rfl <;> simp [sBr, sBu, hv]
    · rcases he with rfl | rfl <;> simp [sBr, sBu]
    · intro a ha
      rcases he with rfl | rfl <;> simp [sBr, sBu]
  · have := g0 12
    rw [w1, gw_nj (by decide)] at this
    exact this
