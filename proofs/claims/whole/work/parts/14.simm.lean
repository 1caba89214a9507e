theorem bi_aF {n : Nat} {K : Int32} {b : Nat} {t : Int32} {S : gw_S} : narrow .boolean (.int (aF n K b t S)) = .int (aF n K b t S) ∧ vp_nar .boolean (aF n K b t S) = aF n K b t S := by
  unfold aF
  repeat' split
  all_goals exact ⟨bi_nar, bi_vnar⟩
/-- an act that may be told -/
def okAct (τ : gw_S) (a : Nat) : Prop := (∃ d, d < 40 ∧ τ 148 a = nI d) ∧ (∃ K, K < 4 ∧ τ 149 a = nI K) ∧ (∃ b, b < 8 ∧ τ 150 a = nI b) ∧ (∃ t, t < 8 ∧ τ 151 a = nI t)
theorem s_does {d n a : Nat} {S σ : gw_S} (hn : n ≤ 8) (hs : σ 1 2 = nI n) (ha : a < 16) (ho : okAct σ a) (h : MS S σ) : gB (d + 1) mX9_does [.ref 1, .int (nI a)] σ (fun v σ' => v = some (.int (aF n (σ 149 a) (σ 150 a).toNatClampNeg (σ 151 a) S)) ∧ MS (aS n (σ 149 a) (σ 150 a).toNatClampNeg (σ 151 a) S) σ' ∧ FRs σ σ') := by
  obtain ⟨-, ⟨K, hK, eK⟩, ⟨b, hb, eb⟩, ⟨t, ht, et⟩⟩ := ho
  have va : vp_in (nI a) 16 := vp_in_nI ha (by decide)
  refine eX9_does ?_
  rw [i_cl (show a < 2 ^ 31 by omega), eb, et, i_cl (show b < 2 ^ 31 by omega)]
  refine ⟨va, va, fun c0 => ⟨va, fun c1 => ⟨va, fun c2 => ?_, fun c2 => ?_⟩, fun c1 => ⟨va, ?_⟩⟩, fun c0 => ⟨va, ?_⟩⟩
  · refine (s_corksOne hn hs (by omega) h).mono ?_
    rintro v σ1 ⟨rfl, k1, k2⟩
    refine ⟨_, rfl, bi_nar, ?_, ?_, k2⟩
    · rw [aF, if_neg c0, if_neg c1, if_neg c2]
    · rw [aS, if_neg c0, if_neg c1, if_neg c2]; exact k1
  · refine (s_breaks hn hs (by omega) h).mono ?_
    rintro v σ1 ⟨rfl, k1, k2⟩
    refine ⟨_, rfl, bi_nar, ?_, ?_, k2⟩
    · rw [aF, if_neg c0, if_neg c1, if_pos c2]
    · rw [aS, if_neg c0, if_neg c1, if_pos c2]; exact k1
  · refine (s_joins hn hs (by omega) (by omega) h).mono ?_
    rintro v σ1 ⟨rfl, k1, k2⟩
    refine ⟨_, rfl, bi_nar, ?_, ?_, k2⟩
    · rw [aF, if_neg c0, if_pos c1, i_cl (show t < 2 ^ 31 by omega)]
    · rw [aS, if_neg c0, if_pos c1, i_cl (show t < 2 ^ 31 by omega)]; exact k1
  · refine (s_sells hn hs (by omega) h).mono ?_
    rintro v σ1 ⟨rfl, k1, k2⟩
    refine ⟨_, rfl, bi_nar, ?_, ?_, k2⟩
    · rw [aF, if_pos c0]
    · rw [aS, if_pos c0]; exact k1
theorem l_allInM {d b : Nat} {S σ : gw_S} (hb : b < 8) (h : MS S σ) : ∀ m u x, u + m = 8 → x = sumN (fun v => S 0 (8 * b + v)) u → gG d mX9_allIn 4 [some (.ref 1), some (.int (nI b)), some (.int x), some (.int (nI u))] [] σ (fun v σ' => v = some (.int (alI S b)) ∧ σ' = σ) := by
  intro m
  induction m with
  | zero =>
    intro u x hu hx
    have : u = 8 := by omega
    subst this
    refine bX9_allIn_4 ⟨fun _ => ⟨by rw [hx]; rfl, rfl⟩, fun c => absurd (by decide) c⟩
  | succ m ih =>
    intro u x hu hx
    refine bX9_allIn_4 ⟨fun c => absurd c (nI_ge (b := 8) (by omega) (by decide)), fun _ => ?_⟩
    rw [e8, i_cl (show 8 * b + u < 2 ^ 31 by omega), nI_1]
    refine ⟨vp_in_nI (by omega) (by decide), ih (u + 1) _ (by omega) ?_⟩
    rw [h.1 (8 * b + u) (by omega), hx]
    rfl
theorem s_allInM {d b : Nat} {S σ : gw_S} (hb : b < 8) (h : MS S σ) : gB d mX9_allIn [.ref 1, .int (nI b)] σ (fun v σ' => v = some (.int (alI S b)) ∧ σ' = σ) := eX9_allIn (l_allInM hb h 8 0 0 rfl rfl)
/-- who stands where when two are swapped -/
def swp (o t : Int32) (b : Nat) : Nat := if nI b = o then t.toNatClampNeg else if nI b = t then o.toNatClampNeg else b
/-- nobody is swapped, or two bottles -/
def okSw (o t : Int32) (n : Nat) : Prop := (o = -1 ∧ t = -1) ∨ ∃ x y, x < n ∧ y < n ∧ o = nI x ∧ t = nI y
theorem swp_lt {o t : Int32} {n b : Nat} (hn : n ≤ 8) (h : okSw o t n) (hb : b < n) : swp o t b < n := by
  unfold swp
  rcases h with ⟨rfl, rfl⟩ | ⟨x, y, hx, hy, rfl, rfl⟩
  · rw [if_neg (nI_ne_m1 (by omega)), if_neg (nI_ne_m1 (by omega))]
    exact hb
  · rw [i_cl (show x < 2 ^ 31 by omega), i_cl (show y < 2 ^ 31 by omega)]
    repeat' split
    all_goals omega
theorem s_as {d n b : Nat} {o t : Int32} {σ : gw_S} (hn : n ≤ 8) (h : okSw o t n) (ho : σ 1 33 = o) (ht : σ 1 34 = t) (hb : b < n) : gB d mX9_as [.ref 1, .int (nI b)] σ (fun v σ' => v = some (.int (nI (swp o t b))) ∧ σ' = σ) := by
  refine eX9_as ?_
  rw [ho, ht]
  unfold swp
  rcases h with ⟨rfl, rfl⟩ | ⟨x, y, hx, hy, rfl, rfl⟩
  · have e := nI_ne_m1 (n := b) (by omega)
    exact ⟨fun c => ⟨fun c2 => ⟨by rw [if_neg c, if_neg c2], rfl⟩, fun c2 => absurd c2 e⟩, fun c => absurd c e⟩
  · rw [i_cl (show x < 2 ^ 31 by omega), i_cl (show y < 2 ^ 31 by omega)]
    exact ⟨fun c => ⟨fun c2 => ⟨by rw [if_neg c, if_neg c2], rfl⟩, fun c2 => ⟨by rw [if_neg c, if_pos c2], rfl⟩⟩, fun c => ⟨by rw [if_pos c], rfl⟩⟩
/-- within the leak's loop -/
def sLkP (b u : Nat) (S : gw_S) : gw_S := fun k => if k = 0 then (fun j => if j / 8 = b ∧ j % 8 < u then S 0 j - lk (S 0 j) (S 2 b) else S 0 j) else if k = 6 then upd (S 6) 0 (S 6 0 + sumN (fun v => lk (S 0 (8 * b + v)) (S 2 b)) u) else S k
def sBuP (b u : Nat) (S : gw_S) : gw_S := fun k => if k = 0 then (fun j => if j / 8 = b ∧ j % 8 < u then 0 else S 0 j) else if k = 3 then upd (S 3) b 0 else if k = 5 then (fun v => if v < u then S 5 v + S 0 (8 * b + v) else S 5 v) else S k
theorem l_ends2 {d b : Nat} {S : gw_S} (hb : b < 8) : ∀ m u (σ σ0 : gw_S), u + m = 8 → MS (sBuP b u S) σ → FRs σ0 σ → gG (d + 1) mX9_ends 134 [some (.ref 1), some (.int (nI b)), none, some (.int (nI u)), none, none] [] σ (fun v σ' => v = none ∧ MS (sBu b S) σ' ∧ FRs σ0 σ') := by
  intro m
  induction m with
  | zero =>
    intro u σ σ0 hu h hf
    have : u = 8 := by omega
    subst this
    refine bX9_ends_134 ⟨fun _ => ⟨rfl, ?_, hf⟩, fun c => absurd (by decide) c⟩
    refine h.of (fun j hj => ?_) (fun c hc => ?_) rfl rfl (fun a ha => rfl)
    · have : j % 8 < 8 := by omega
      simp [sBuP, sBu, this]
    · simp [sBuP, sBu, hc]
  | succ m ih =>
    intro u σ σ0 hu h hf
    refine bX9_ends_134 ⟨fun c => absurd c (nI_ge (b := 8) (by omega) (by decide)), fun _ => ?_⟩
    rw [e8, i_cl (show 8 * b + u < 2 ^ 31 by omega), i_cl (show u < 2 ^ 31 by omega), nI_1]
    have v1 : vp_in (nI u) 8 := vp_in_nI (by omega) (by decide)
    have v2 : vp_in (nI (8 * b + u)) 64 := vp_in_nI (by omega) (by decide)
    refine ⟨v1, v2, v1, fun s1 q1 => ⟨v2, fun s2 q2 => ih (u + 1) s2 σ0 (by omega) ?_ (hf.tr ?_)⟩⟩
    · obtain ⟨h1, h2, h3, h4, h5⟩ := h
      rw [q2, q1]
      have w1 := h1 (8 * b + u) (by omega)
      have w2 := (h2 u (by omega)).2.2.2.2
      have a1 : (8 * b + u) % 8 = u := by omega
      have a2 : (8 * b + u) / 8 = b := by omega
      simp [sBuP, a1] at w1
      simp [sBuP] at w2
      refine ⟨fun j hj => ?_, fun c hc => ?_, ?_, ?_, fun a ha => ?_⟩
      · have w := h1 j hj
        simp only [gw_at]
        simp [sBuP] at w ⊢
        by_cases e1 : j = 8 * b + u
        · subst e1
          simp [a1, a2]
        · simp [e1, w]
          by_cases e2 : j / 8 = b
          · by_cases e3 : j % 8 < u
            · have : j % 8 < u + 1 := by omega
              simp [e2, e3, this]
            · have : ¬ j % 8 < u + 1 := by omega
              simp [e3, this]
          · simp [e2]
      · have w := h2 c hc
        simp only [gw_at]
        simp [sBuP] at w ⊢
        refine ⟨w.1, w.2.1, w.2.2.1, w.2.2.2.1, ?_⟩
        by_cases e1 : c = u
        · subst e1
          simp [w1, w2]
        · have e2 : c < u + 1 ↔ c < u := by omega
          simp [e1, e2, w.2.2.2.2]
      · simp only [gw_at]
        simp [sBuP] at h3 ⊢
        exact h3
      · simp only [gw_at]
        simp [sBuP] at h4 ⊢
        exact h4
      · have w := h5 a ha
        simp only [gw_at]
        simp [sBuP] at w ⊢
        exact w
    · rw [q2, q1]
      exact (FRs.u (by simp)).tr (FRs.u (by simp))
/-- what a bottle's end rests on -/
def okEnd (n : Nat) (o t : Int32) (So : Nat → Bool) (σ : gw_S) : Prop := σ 1 2 = nI n ∧ σ 1 33 = o ∧ σ 1 34 = t ∧ okSw o t n ∧ ∀ b, b < n → σ 145 (swp o t b) = bi (So b = true)
theorem okEnd.fr {n : Nat} {o t : Int32} {So : Nat → Bool} {σ σ' : gw_S} (h : okEnd n o t So σ) (hf : FRs σ σ') : okEnd n o t So σ' := by
  obtain ⟨h1, h2, h3, h4, h5⟩ := h
  refine ⟨by rw [hf.2 2 (by decide) (by decide)]; exact h1, by rw [hf.2 33 (by decide) (by decide)]; exact h2, by rw [hf.2 34 (by decide) (by decide)]; exact h3, h4, fun b hb => ?_⟩
  rw [hf.1 145 (by decide) (by decide) (by decide) (by decide) (by decide) (by decide) (by decide) (by decide)]
  exact h5 b hb
theorem s_endsM {d n b : Nat} {o t bu : Int32} {So : Nat → Bool} {hot : Bool} {S σ : gw_S} (hn : n ≤ 8) (hb : b < n) (ho : okEnd n o t So σ) (hbu : σ 1 9 = bu) (h : MS S σ) : gB (d + 1) mX9_ends [.ref 1, .int (nI b), .int (bi (hot = true))] σ (fun v σ' => v = none ∧ MS (sEnd hot (So b) bu b S) σ' ∧ FRs σ σ') := by
  refine eX9_ends ?_
  have key : ∀ m u (s : gw_S), u + m = 8 → MS (sLkP b u S) s → FRs σ s → gG (d + 1) mX9_ends 2 [some (.ref 1), some (.int (nI b)), some (.int (bi (hot = true))), some (.int (nI u)), none, none] [] s (fun v σ' => v = none ∧ MS (sEnd hot (So b) bu b S) σ' ∧ FRs σ σ') := by
    intro m
    induction m with
    | zero =>
      intro u s hu hS hf
      have : u = 8 := by omega
      subst this
      have hL : MS (sLk b S) s := by
        refine hS.of (fun j hj => ?_) (fun c hc => ?_) rfl rfl (fun a ha => rfl)
        · have : j % 8 < 8 := by omega
          simp [sLkP, sLk, this]
        · simp [sLkP, sLk]
      have ho2 := ho.fr hf
      refine bX9_ends_2 ⟨fun _ => br_bj (fun ch => ?_) (fun ch => ?_), fun c => absurd (by decide) c⟩
      · refine gB_det (s_as hn ho2.2.2.2.1 ho2.2.1 ho2.2.2.1 hb) ⟨_, rfl, vp_in_nI (by have := swp_lt hn ho2.2.2.2.1 hb; omega) (by decide), ?_⟩
        rw [i_cl (show swp o t b < 2 ^ 31 by have := swp_lt hn ho2.2.2.2.1 hb; omega), ho2.2.2.2.2 b hb, bi_1]
        refine ⟨fun cs => ?_, fun cs => ?_⟩
        · rw [sEnd, if_neg (fun q => cs q.2.1)]
          exact ⟨rfl, hL, hf⟩
        · refine gB_det (s_allInM (by omega) hL) ⟨_, rfl, ?_⟩
          rw [hf.2 9 (by decide) (by decide), hbu]
          refine ⟨fun ca => ?_, fun ca => ⟨vp_in_nI (by omega) (by decide), fun s5 q5 => ?_⟩⟩
          · rw [sEnd, if_neg (fun q => absurd ca (i_nlt.mpr q.2.2))]
            exact ⟨rfl, hL, hf⟩
          · rw [sEnd, if_pos ⟨ch, cs, i_nlt.mp ca⟩]
            rw [i_cl (show b < 2 ^ 31 by omega), show vp_nar .boolean 0 = 0 from rfl] at q5
            refine l_ends2 (S := sLk b S) (by omega) 8 0 s5 σ rfl ?_ (hf.tr (by rw [q5]; exact FRs.u (by simp)))
            obtain ⟨h1, h2, h3, h4, h5⟩ := hL
            rw [q5]
            refine ⟨fun j hj => ?_, fun c hc => ?_, ?_, ?_, fun a ha => ?_⟩
            · simp only [gw_at]
              simp [sBuP]
              exact h1 j hj
            · have w := h2 c hc
              simp only [gw_at]
              simp [sBuP, upd]
              refine ⟨w.1, w.2.1, ?_, w.2.2.2.1, w.2.2.2.2⟩
              by_cases e : c = b <;> simp [e, w.2.2.1]
            · simp only [gw_at]
              simp [sBuP]
              exact h3
            · simp only [gw_at]
              simp [sBuP]
              exact h4
            · simp only [gw_at]
              simp [sBuP]
              exact h5 a ha
      · rw [sEnd, if_neg (fun q => ch q.1)]
        exact ⟨rfl, hL, hf⟩
    | succ m ih =>
      intro u s hu hS hf
      refine bX9_ends_2 ⟨fun c => absurd c (nI_ge (b := 8) (by omega) (by decide)), fun _ => ?_⟩
      rw [e8, i_cl (show 8 * b + u < 2 ^ 31 by omega), i_cl (show b < 2 ^ 31 by omega), nI_1]
      have v1 : vp_in (nI b) 8 := vp_in_nI (by omega) (by decide)
      have v2 : vp_in (nI (8 * b + u)) 64 := vp_in_nI (by omega) (by decide)
      have a1 : (8 * b + u) % 8 = u := by omega
      have a2 : (8 * b + u) / 8 = b := by omega
      have w1 := hS.1 (8 * b + u) (by omega)
      have wc := (hS.2.1 b (by omega)).2.1
      simp [sLkP, a1] at w1
      simp [sLkP] at wc
      have step : ∀ by_ : Int32, by_ = lk (S 0 (8 * b + u)) (S 2 b) → ∀ s6, s6 = gw_u s 155 (8 * b + u) (S 0 (8 * b + u) - by_) → ∀ s7, s7 = gw_u s6 1 30 (s6 1 30 + by_) → gG (d + 1) mX9_ends 2 [some (.ref 1), some (.int (nI b)), some (.int (bi (hot = true))), some (.int (nI (u + 1))), none, none] [] s7 (fun v σ' => v = none ∧ MS (sEnd hot (So b) bu b S) σ' ∧ FRs σ σ') := by
        intro by_ eb s6 q6 s7 q7
        refine ih (u + 1) s7 (by omega) ?_ (hf.tr (by rw [q7, q6]; exact (FRs.u (by simp)).tr (FRs.u (by simp))))
        obtain ⟨h1, h2, h3, h4, h5⟩ := hS
        rw [q7, q6, eb]
        refine ⟨fun j hj => ?_, fun c hc => ?_, ?_, ?_, fun a ha => ?_⟩
        · have w := h1 j hj
          simp only [gw_at]
          simp [sLkP] at w ⊢
          by_cases e1 : j = 8 * b + u
          · subst e1
            simp [a1, a2]
          · simp [e1, w]
            by_cases e2 : j / 8 = b
            · by_cases e3 : j % 8 < u
              · have : j % 8 < u + 1 := by omega
                simp [e2, e3, this]
              · have : ¬ j % 8 < u + 1 := by omega
                simp [e3, this]
            · simp [e2]
        · have w := h2 c hc
          simp only [gw_at]
          simp [sLkP] at w ⊢
          exact w
        · simp only [gw_at]
          simp [sLkP, upd] at h3 ⊢
          rw [h3]
          simp [sumN, Int32.add_assoc]
        · simp only [gw_at]
          simp [sLkP, upd] at h4 ⊢
          exact h4
        · have w := h5 a ha
          simp only [gw_at]
          simp [sLkP] at w ⊢
          exact w
      rw [w1, wc]
      refine ⟨v2, fun c0 => ⟨v1, v1, fun c1 => ⟨v2, step _ ?_⟩, fun c1 => ⟨v2, step _ ?_⟩⟩, fun c0 => ⟨v2, step _ ?_⟩⟩
      · rw [lk, if_neg c0, if_neg c1]
      · rw [lk, if_neg c0, if_pos c1]
      · rw [lk, if_pos c0]
  refine key 8 0 σ rfl ?_ FRs.rf
  refine h.of (fun j hj => ?_) (fun c hc => ?_) ?_ rfl (fun a ha => rfl)
  · simp [sLkP]
  · simp [sLkP]
  · simp [sLkP, upd, sumN]
