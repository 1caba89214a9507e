/-- the stock of a run: the parse behind the swap -/
def okStk (n : Nat) (o t : Int32) (V M C : Nat → Int32) (σ : gw_S) : Prop := ∀ b, b < n → (∃ v, v < 8 ∧ V b = nI v) ∧ σ 142 (swp o t b) = V b ∧ σ 143 (swp o t b) = M b ∧ σ 144 (swp o t b) = C b
theorem okStk.fr {n : Nat} {o t : Int32} {V M C : Nat → Int32} {σ σ' : gw_S} (h : okStk n o t V M C σ) (hf : FRs σ σ') : okStk n o t V M C σ' := by
  intro b hb
  rw [hf.1 142 (by decide) (by decide) (by decide) (by decide) (by decide) (by decide) (by decide) (by decide), hf.1 143 (by decide) (by decide) (by decide) (by decide) (by decide) (by decide) (by decide) (by decide), hf.1 144 (by decide) (by decide) (by decide) (by decide) (by decide) (by decide) (by decide) (by decide)]
  exact h b hb
theorem l_beg4 {d : Nat} {S : gw_S} : ∀ m a (σ σ0 : gw_S), a + m = 16 → FRs σ0 σ → (∀ j, j < 64 → σ 155 j = S 0 j) → (∀ b, b < 8 → σ 156 b = S 1 b ∧ σ 157 b = S 2 b ∧ σ 158 b = S 3 b ∧ σ 161 b = S 4 b ∧ σ 162 b = S 5 b) → σ 1 30 = S 6 0 → σ 1 31 = S 6 1 → (∀ c, c < a → σ 160 c = 0) → (∀ c, S 7 c = 0) → gG (d + 1) mX9_begins 161 [some (.ref 1), some (.int (nI a))] [] σ (fun v σ' => v = none ∧ MS S σ' ∧ FRs σ0 σ') := by
  intro m
  induction m with
  | zero =>
    intro a σ σ0 ha hf h1 h2 h3 h4 h5 h7
    have : a = 16 := by omega
    subst this
    exact bX9_begins_161 ⟨fun _ => ⟨rfl, ⟨h1, h2, h3, h4, fun c hc => by rw [h7 c]; exact h5 c hc⟩, hf⟩, fun c => absurd (by decide) c⟩
  | succ m ih =>
    intro a σ σ0 ha hf h1 h2 h3 h4 h5 h7
    refine bX9_begins_161 ⟨fun c => absurd c (nI_ge (b := 16) (by omega) (by decide)), fun _ => ⟨vp_in_nI (by omega) (by decide), fun s q => ?_⟩⟩
    rw [i_cl (show a < 2 ^ 31 by omega), show vp_nar .boolean 0 = 0 from rfl] at q
    rw [nI_1]
    refine ih (a + 1) s σ0 (by omega) (hf.tr (by rw [q]; exact FRs.u (by simp))) ?_ ?_ ?_ ?_ ?_ h7
    · rw [q, gw_ne (by decide)]; exact h1
    · intro b hb
      rw [q, gw_ne (by decide), gw_ne (by decide), gw_ne (by decide), gw_ne (by decide), gw_ne (by decide)]
      exact h2 b hb
    · rw [q, gw_ne (by decide)]; exact h3
    · rw [q, gw_ne (by decide)]; exact h4
    · intro c hc
      rw [q, gw_at]
      by_cases e : c = a
      · simp [e]
      · simp [e, h5 c (by omega)]
theorem l_beg3 {d n : Nat} {o t : Int32} {V M C : Nat → Int32} (hn : n ≤ 8) (hw : okSw o t n) : ∀ m b (σ σ0 : gw_S), b + m = n → σ 1 2 = nI n → σ 1 33 = o → σ 1 34 = t → okStk n o t V M C σ → FRs σ0 σ → (∀ j, j < 64 → σ 155 j = if j / 8 < b ∧ nI (j % 8) = V (j / 8) then M (j / 8) else 0) → (∀ c, c < 8 → σ 156 c = 0 ∧ σ 157 c = (if c < n then C c else 0) ∧ σ 158 c = bi (c < n) ∧ σ 161 c = 0 ∧ σ 162 c = 0) → σ 1 30 = 0 → σ 1 31 = 0 → gG (d + 1) mX9_begins 115 [some (.ref 1), some (.int (nI b))] [] σ (fun v σ' => v = none ∧ MS (sBegin n V M C) σ' ∧ FRs σ0 σ') := by
  intro m
  induction m with
  | zero =>
    intro b σ σ0 hb hs h33 h34 hk hf h1 h2 h3 h4
    have : b = n := by omega
    subst this
    refine bX9_begins_115 ?_
    rw [hs]
    refine ⟨fun _ => ?_, fun c => absurd (nI_le (Nat.le_refl _) (by omega)) c⟩
    refine l_beg4 16 0 σ σ0 (by omega) hf (fun j hj => ?_) (fun c hc => ?_) ?_ ?_ (fun c hc => by omega) (fun c => ?_)
    · rw [h1 j hj]; simp [sBegin]
    · have := h2 c hc
      simp [sBegin, this]
    · rw [h3]; simp [sBegin]
    · rw [h4]; simp [sBegin]
    · simp [sBegin]
  | succ m ih =>
    intro b σ σ0 hb hs h33 h34 hk hf h1 h2 h3 h4
    have hbn : b < n := by omega
    have hsw := swp_lt hn hw hbn
    obtain ⟨⟨v, hv, ev⟩, k1, k2, k3⟩ := hk b hbn
    have vs : vp_in (nI (swp o t b)) 9 := vp_in_nI (by omega) (by decide)
    refine bX9_begins_115 ?_
    rw [hs, nI_1]
    refine ⟨fun c => absurd c (nI_ge (by omega) (by omega)), fun _ => gB_det (s_as hn hw h33 h34 hbn) ⟨_, rfl, vs, gB_det (s_as hn hw h33 h34 hbn) ⟨_, rfl, vs, ?_⟩⟩⟩
    rw [i_cl (show swp o t b < 2 ^ 31 by omega), k1, k2, ev, e8, i_cl (show 8 * b + v < 2 ^ 31 by omega)]
    refine ⟨vp_in_nI (by omega) (by decide), fun s q => ?_⟩
    have fq : FRs σ s := by rw [q]; exact FRs.u (by simp)
    refine ih (b + 1) s σ0 (by omega) (by rw [q, gw_ne (by decide)]; exact hs) (by rw [q, gw_ne (by decide)]; exact h33) (by rw [q, gw_ne (by decide)]; exact h34) (hk.fr fq) (hf.tr fq) ?_ ?_ (by rw [q, gw_ne (by decide)]; exact h3) (by rw [q, gw_ne (by decide)]; exact h4)
    · intro j hj
      have w := h1 j hj
      rw [q, gw_at]
      by_cases e : j = 8 * b + v
      · subst e
        have a1 : (8 * b + v) / 8 = b := by omega
        have a2 : (8 * b + v) % 8 = v := by omega
        simp [a1, a2, ev]
      · simp only [e, and_false, if_false]
        rw [w]
        by_cases e2 : j / 8 = b
        · have e3 : ¬ nI (j % 8) = V (j / 8) := by
            rw [e2, ev, nI_eq (by omega) (by omega)]
            omega
          simp [e3]
        · have e3 : (j / 8 < b + 1) ↔ (j / 8 < b) := by omega
          simp [e3]
    · intro c hc
      rw [q, gw_ne (by decide), gw_ne (by decide), gw_ne (by decide), gw_ne (by decide), gw_ne (by decide)]
      exact h2 c hc
theorem l_beg2 {d n : Nat} {o t : Int32} {V M C : Nat → Int32} (hn : n ≤ 8) (hw : okSw o t n) : ∀ m b (σ σ0 : gw_S), b + m = 8 → σ 1 2 = nI n → σ 1 33 = o → σ 1 34 = t → okStk n o t V M C σ → FRs σ0 σ → (∀ j, j < 64 → σ 155 j = 0) → (∀ c, c < b → σ 156 c = 0 ∧ σ 157 c = (if c < n then C c else 0) ∧ σ 158 c = bi (c < n) ∧ σ 161 c = 0 ∧ σ 162 c = 0) → σ 1 30 = 0 → σ 1 31 = 0 → gG (d + 1) mX9_begins 33 [some (.ref 1), some (.int (nI b))] [] σ (fun v σ' => v = none ∧ MS (sBegin n V M C) σ' ∧ FRs σ0 σ') := by
  intro m
  induction m with
  | zero =>
    intro b σ σ0 hb hs h33 h34 hk hf h1 h2 h3 h4
    have : b = 8 := by omega
    subst this
    exact bX9_begins_33 ⟨fun _ => l_beg3 hn hw n 0 σ σ0 (by omega) hs h33 h34 hk hf (fun j hj => by rw [h1 j hj]; simp) h2 h3 h4, fun c => absurd (by decide) c⟩
  | succ m ih =>
    intro b σ σ0 hb hs h33 h34 hk hf h1 h2 h3 h4
    have vb : vp_in (nI b) 8 := vp_in_nI (by omega) (by decide)
    have cb : (nI b).toNatClampNeg = b := i_cl (by omega)
    refine bX9_begins_33 ⟨fun c => absurd c (nI_ge (b := 8) (by omega) (by decide)), fun _ => ⟨vb, fun s4 q4 => ?_⟩⟩
    rw [cb] at q4
    have e2 : s4 1 = σ 1 := by rw [q4, gw_ne (by decide)]
    have main : ∀ x : Int32, x = bi (b < n) → gG (d + 1) mX9_begins 64 [some (.ref 1), some (.int (nI b))] [.int x, .int (nI b), .ref 158] s4 (fun v σ' => v = none ∧ MS (sBegin n V M C) σ' ∧ FRs σ0 σ') := by
      intro x ex
      have nx : vp_nar .boolean x = bi (b < n) := by rw [ex]; exact bi_vnar
      refine bX9_begins_64 ⟨vb, fun s10 q10 => ?_⟩
      rw [cb, nx] at q10
      have e10 : s10 1 = σ 1 := by rw [q10, gw_ne (by decide), e2]
      have goOn : ∀ cv : Int32, cv = (if b < n then C b else 0) → ∀ s11, s11 = gw_u s10 157 b cv → ∀ s12, s12 = gw_u s11 161 b 0 → ∀ s13, s13 = gw_u s12 162 b 0 → gG (d + 1) mX9_begins 33 [some (.ref 1), some (.int (nI (b + 1)))] [] s13 (fun v σ' => v = none ∧ MS (sBegin n V M C) σ' ∧ FRs σ0 σ') := by
        intro cv ec s11 q11 s12 q12 s13 q13
        have fq : FRs σ s13 := by
          rw [q13, q12, q11, q10, q4]
          exact ((((FRs.u (by simp)).tr (FRs.u (by simp))).tr (FRs.u (by simp))).tr (FRs.u (by simp))).tr (FRs.u (by simp))
        refine ih (b + 1) s13 σ0 (by omega) ?_ ?_ ?_ (hk.fr fq) (hf.tr fq) ?_ ?_ ?_ ?_
        · rw [fq.2 2 (by decide) (by decide)]; exact hs
        · rw [fq.2 33 (by decide) (by decide)]; exact h33
        · rw [fq.2 34 (by decide) (by decide)]; exact h34
        · intro j hj
          rw [q13, q12, q11, q10, q4]
          simp only [gw_at]
          simpa using h1 j hj
        · intro c hc
          rw [q13, q12, q11, q10, q4]
          simp only [gw_at]
          by_cases e : c = b
          · subst e
            simp [ec]
          · have := h2 c (by omega)
            simp [e, this]
        · rw [q13, q12, q11, q10, q4]
          simp only [gw_at]
          simpa using h3
        · rw [q13, q12, q11, q10, q4]
          simp only [gw_at]
          simpa using h4
      rw [e10, hs, nI_leI (by omega) (by omega), cb, nI_1]
      refine ⟨fun c => ⟨vb, fun s11 q11 => ⟨vb, fun s12 q12 => ⟨vb, fun s13 q13 => goOn 0 (by rw [if_neg (by omega)]) s11 q11 s12 q12 s13 q13⟩⟩⟩, fun c => ?_⟩
      have hbn : b < n := by omega
      have hsw := swp_lt hn hw hbn
      have f10 : FRs σ s10 := by rw [q10, q4]; exact (FRs.u (by simp)).tr (FRs.u (by simp))
      refine gB_det (s_as hn hw (by rw [e10]; exact h33) (by rw [e10]; exact h34) hbn) ⟨_, rfl, vp_in_nI (by omega) (by decide), ?_⟩
      rw [i_cl (show swp o t b < 2 ^ 31 by omega), ((hk.fr f10) b hbn).2.2.2]
      exact ⟨vb, fun s11 q11 => ⟨vb, fun s12 q12 => ⟨vb, fun s13 q13 => goOn (C b) (by rw [if_pos hbn]) s11 q11 s12 q12 s13 q13⟩⟩⟩
    rw [e2, hs, nI_leI (by omega) (by omega)]
    exact ⟨fun c => main 0 (by rw [bi_f (by omega)]), fun c => main 1 (by rw [bi_t (by omega)])⟩
theorem s_begins {d n : Nat} {o t : Int32} {V M C : Nat → Int32} {σ : gw_S} (hn : n ≤ 8) (hw : okSw o t n) (hs : σ 1 2 = nI n) (h33 : σ 1 33 = o) (h34 : σ 1 34 = t) (hk : okStk n o t V M C σ) : gB (d + 1) mX9_begins [.ref 1] σ (fun v σ' => v = none ∧ MS (sBegin n V M C) σ' ∧ FRs σ σ') := by
  refine eX9_begins (fun s1 q1 s2 q2 => ?_)
  have f2 : FRs σ s2 := by rw [q2, q1]; exact (FRs.u (by simp)).tr (FRs.u (by simp))
  have key : ∀ m j (s : gw_S), j + m = 64 → FRs σ s → s 1 30 = 0 → s 1 31 = 0 → (∀ i, i < j → s 155 i = 0) → gG (d + 1) mX9_begins 12 [some (.ref 1), some (.int (nI j))] [] s (fun v σ' => v = none ∧ MS (sBegin n V M C) σ' ∧ FRs σ σ') := by
    intro m
    induction m with
    | zero =>
      intro j s hj hf h3 h4 h1
      have : j = 64 := by omega
      subst this
      exact bX9_begins_12 ⟨fun _ => l_beg2 hn hw 8 0 s σ (by omega) (by rw [hf.2 2 (by decide) (by decide)]; exact hs) (by rw [hf.2 33 (by decide) (by decide)]; exact h33) (by rw [hf.2 34 (by decide) (by decide)]; exact h34) (hk.fr hf) hf h1 (fun c hc => by omega) h3 h4, fun c => absurd (by decide) c⟩
    | succ m ih =>
      intro j s hj hf h3 h4 h1
      refine bX9_begins_12 ⟨fun c => absurd c (nI_ge (b := 64) (by omega) (by decide)), fun _ => ⟨vp_in_nI (by omega) (by decide), fun s3 q3 => ?_⟩⟩
      rw [i_cl (show j < 2 ^ 31 by omega)] at q3
      rw [nI_1]
      refine ih (j + 1) s3 (by omega) (hf.tr (by rw [q3]; exact FRs.u (by simp))) (by rw [q3, gw_ne (by decide)]; exact h3) (by rw [q3, gw_ne (by decide)]; exact h4) (fun i hi => ?_)
      rw [q3, gw_at]
      by_cases e : i = j
      · simp [e]
      · simp [e, h1 i (by omega)]
  exact key 64 0 s2 (by omega) f2 (by rw [q2, gw_nj (by decide), q1, gw_self]) (by rw [q2, gw_self]) (fun i hi => by omega)
theorem s_runs {d last : Nat} {P : Pr} {o t : Int32} {V M C : Nat → Int32} {σ : gw_S} (hl : last < 40) (hr : okRun P o t σ) (hk : okStk (rN P) o t V M C σ) : gB (d + 3) mX9_runs [.ref 1, .int (nI last)] σ (fun v σ' => v = none ∧ MS (sRun P V M C (last + 1)) σ' ∧ FRs σ σ') := by
  refine eX9_runs ((s_begins hr.2.1 hr.1.2.2.2.1 hr.1.1 hr.1.2.1 hr.1.2.2.1 hk).mono ?_)
  rintro v σ1 ⟨rfl, k1, k2⟩
  exact ⟨rfl, l_runs hl (last + 1) 0 σ1 σ (by omega) (hr.fr k2) k2 k1⟩
