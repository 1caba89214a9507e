/-! the days, as pure functions: S 0 vols (8 b + v), S 1 owners, S 2 corks, S 3 whole, S 4 heard, S 5 spilled, S 6 0 leaked, S 6 1 sales that work, S 7 acts that work -/
def sumN (g : Nat → Int32) : Nat → Int32
  | 0 => 0
  | n + 1 => sumN g n + g n
def itN (F : Nat → gw_S → gw_S) : Nat → gw_S → gw_S
  | 0, S => S
  | n + 1, S => F n (itN F n S)
def lk (x c : Int32) : Int32 := if x = 0 then 0 else x * (10 - c) / 100 + (if c = 0 then 1 else 0)
def sLk (b : Nat) (S : gw_S) : gw_S := fun k => if k = 0 then (fun j => if j / 8 = b then S 0 j - lk (S 0 j) (S 2 b) else S 0 j) else if k = 6 then upd (S 6) 0 (S 6 0 + sumN (fun v => lk (S 0 (8 * b + v)) (S 2 b)) 8) else S k
def sBu (b : Nat) (S : gw_S) : gw_S := fun k => if k = 0 then (fun j => if j / 8 = b then 0 else S 0 j) else if k = 3 then upd (S 3) b 0 else if k = 5 then (fun v => if v < 8 then S 5 v + S 0 (8 * b + v) else S 5 v) else S k
def sBr (b : Nat) (S : gw_S) : gw_S := fun k => if k = 0 then (fun j => if j / 8 = b then 0 else S 0 j) else if k = 3 then upd (S 3) b 0 else if k = 4 then (fun v => if v < 8 then S 4 v + S 0 (8 * b + v) else S 4 v) else S k
def sJn (b t : Nat) (S : gw_S) : gw_S := fun k => if k = 0 then (fun j => if j / 8 = t then S 0 j + S 0 (8 * b + j % 8) else if j / 8 = b then 0 else S 0 j) else S k
def alI (S : gw_S) (b : Nat) : Int32 := sumN (fun v => S 0 (8 * b + v)) 8
def sEnd (hot so : Bool) (bu : Int32) (b : Nat) (S : gw_S) : gw_S := if hot = true ∧ so = true ∧ bu ≤ alI (sLk b S) b then sBu b (sLk b S) else sLk b S
def sEnds (hot : Bool) (So : Nat → Bool) (bu : Int32) (n : Nat) (S : gw_S) : gw_S := itN (fun b S => if S 3 b = 0 then S else sEnd hot (So b) bu b S) n S
abbrev cJ (n b t : Nat) (S : gw_S) : Prop := b < n ∧ t < n ∧ b ≠ t ∧ ¬ S 3 b = 0 ∧ ¬ S 3 t = 0
abbrev cB (n b : Nat) (S : gw_S) : Prop := b < n ∧ ¬ S 3 b = 0
def sSell (n b : Nat) (t : Int32) (S : gw_S) : gw_S := if b < n then gw_u S 1 b t else S
def sCork (n b : Nat) (S : gw_S) : gw_S := if b < n then gw_u S 2 b 9 else S
def aS (n : Nat) (K : Int32) (b : Nat) (t : Int32) (S : gw_S) : gw_S := if K = 0 then sSell n b t S else if K = 1 then (if cJ n b t.toNatClampNeg S then sJn b t.toNatClampNeg S else S) else if K = 2 then (if cB n b S then sBr b S else S) else sCork n b S
def aF (n : Nat) (K : Int32) (b : Nat) (t : Int32) (S : gw_S) : Int32 := if K = 0 then bi (b < n ∧ ¬ S 1 b = t) else if K = 1 then bi (cJ n b t.toNatClampNeg S) else if K = 2 then bi (cB n b S) else bi (b < n ∧ ¬ S 2 b = 9)
/-- an act of the told ones -/
def sAct (n : Nat) (τ : gw_S) (w day : Int32) (a : Nat) (S : gw_S) : gw_S := if τ 148 a = day ∧ ¬ nI a = w then gw_u (aS n (τ 149 a) (τ 150 a).toNatClampNeg (τ 151 a) S) 7 a (aF n (τ 149 a) (τ 150 a).toNatClampNeg (τ 151 a) S) else S
def sActs (n : Nat) (τ : gw_S) (w day : Int32) (nA : Nat) (S : gw_S) : gw_S := itN (sAct n τ w day) nA S
def sSale (n : Nat) (o : Option (Nat × Int32)) (S : gw_S) : gw_S := match o with
  | none => S
  | some q => gw_u (sSell n q.1 q.2 S) 6 1 (S 6 1 + bi (q.1 < n ∧ ¬ S 1 q.1 = q.2))
def sAhead (n : Nat) (ck : Nat → Nat) (na : Nat) (S : gw_S) : gw_S := itN (fun k S => sCork n (ck k) S) na S
def sBegin (n : Nat) (V M C : Nat → Int32) : gw_S := fun k j => if k = 0 then (if j / 8 < n ∧ nI (j % 8) = V (j / 8) then M (j / 8) else 0) else if k = 2 then (if j < n then C j else 0) else if k = 3 then bi (j < n) else 0
/-- the model's rows of the days -/
def MS (S σ : gw_S) : Prop := (∀ j, j < 64 → σ 155 j = S 0 j) ∧ (∀ b, b < 8 → σ 156 b = S 1 b ∧ σ 157 b = S 2 b ∧ σ 158 b = S 3 b ∧ σ 161 b = S 4 b ∧ σ 162 b = S 5 b) ∧ σ 1 30 = S 6 0 ∧ σ 1 31 = S 6 1 ∧ ∀ a, a < 16 → σ 160 a = S 7 a
def FRs (σ σ' : gw_S) : Prop := (∀ k, k ≠ 1 → k ≠ 155 → k ≠ 156 → k ≠ 157 → k ≠ 158 → k ≠ 160 → k ≠ 161 → k ≠ 162 → σ' k = σ k) ∧ ∀ j, j ≠ 30 → j ≠ 31 → σ' 1 j = σ 1 j
theorem FRs.rf {σ : gw_S} : FRs σ σ := ⟨fun _ _ _ _ _ _ _ _ _ => rfl, fun _ _ _ => rfl⟩
theorem FRs.tr {σ σ1 σ2 : gw_S} (h : FRs σ σ1) (h2 : FRs σ1 σ2) : FRs σ σ2 := ⟨fun k a1 a2 a3 a4 a5 a6 a7 a8 => (h2.1 k a1 a2 a3 a4 a5 a6 a7 a8).trans (h.1 k a1 a2 a3 a4 a5 a6 a7 a8), fun j b1 b2 => (h2.2 j b1 b2).trans (h.2 j b1 b2)⟩
theorem FRs.u {σ : gw_S} {k j : Nat} {v : Int32} (h : k = 155 ∨ k = 156 ∨ k = 157 ∨ k = 158 ∨ k = 160 ∨ k = 161 ∨ k = 162 ∨ (k = 1 ∧ (j = 30 ∨ j = 31))) : FRs σ (gw_u σ k j v) := by
  constructor
  · intro k2 a1 a2 a3 a4 a5 a6 a7 a8
    rw [gw_ne]
    intro e
    subst e
    omega
  · intro j2 b1 b2
    rw [gw_at, if_neg]
    intro e
    omega
theorem MS.s1 {S σ : gw_S} {b : Nat} {v : Int32} (h : MS S σ) : MS (gw_u S 1 b v) (gw_u σ 156 b v) := by
  obtain ⟨h1, h2, h3, h4, h5⟩ := h
  refine ⟨fun j hj => ?_, fun c hc => ?_, ?_, ?_, fun a ha => ?_⟩
  · simp only [gw_at]; simpa using h1 j hj
  · have := h2 c hc
    simp only [gw_at]
    by_cases e : c = b <;> simp [e, this]
    · subst e; exact this.2
  · simp only [gw_at]; simpa using h3
  · simp only [gw_at]; simpa using h4
  · simp only [gw_at]; simpa using h5 a ha
theorem MS.s2 {S σ : gw_S} {b : Nat} {v : Int32} (h : MS S σ) : MS (gw_u S 2 b v) (gw_u σ 157 b v) := by
  obtain ⟨h1, h2, h3, h4, h5⟩ := h
  refine ⟨fun j hj => ?_, fun c hc => ?_, ?_, ?_, fun a ha => ?_⟩
  · simp only [gw_at]; simpa using h1 j hj
  · have := h2 c hc
    simp only [gw_at]
    by_cases e : c = b <;> simp [e, this]
    · subst e; exact ⟨this.1, this.2.2⟩
  · simp only [gw_at]; simpa using h3
  · simp only [gw_at]; simpa using h4
  · simp only [gw_at]; simpa using h5 a ha
theorem MS.s7 {S σ : gw_S} {b : Nat} {v : Int32} (h : MS S σ) : MS (gw_u S 7 b v) (gw_u σ 160 b v) := by
  obtain ⟨h1, h2, h3, h4, h5⟩ := h
  refine ⟨fun j hj => ?_, fun c hc => ?_, ?_, ?_, fun a ha => ?_⟩
  · simp only [gw_at]; simpa using h1 j hj
  · have := h2 c hc
    simp only [gw_at]
    simpa using this
  · simp only [gw_at]; simpa using h3
  · simp only [gw_at]; simpa using h4
  · have := h5 a ha
    simp only [gw_at]
    by_cases e : a = b <;> simp [e, this]
theorem s_sells {d n b : Nat} {t : Int32} {S σ : gw_S} (hn : n ≤ 8) (hs : σ 1 2 = nI n) (hb : b < 2 ^ 31) (h : MS S σ) : gB d mX9_sells [.ref 1, .int (nI b), .int t] σ (fun v σ' => v = some (.int (bi (b < n ∧ ¬ S 1 b = t))) ∧ MS (sSell n b t S) σ' ∧ FRs σ σ') := by
  refine eX9_sells ?_
  rw [hs, i_cl hb]
  have t1 : ¬ (1 : Int32) = 0 := by decide
  refine ⟨fun c => ⟨fun _ => ?_, fun q => absurd rfl q⟩, fun c => ⟨?_, ?_, ?_⟩⟩
  · have : ¬ b < n := fun q => nI_ge q (by omega) c
    rw [bi_f (fun q => this q.1), sSell, if_neg this]
    exact ⟨rfl, h, FRs.rf⟩
  all_goals
    have hbn : b < n := by
      rcases Nat.lt_or_ge b n with q | q
      · exact q
      · exact absurd (nI_le q (by omega)) c
  · exact vp_in_nI (by omega) (by decide)
  · intro c2
    refine ⟨fun _ => ?_, fun q => absurd rfl q⟩
    have e := (h.2.1 b (by omega)).1
    rw [bi_f (fun q => q.2 (by rw [← e]; exact c2)), sSell, if_pos hbn]
    refine ⟨rfl, ?_, FRs.rf⟩
    have e2 : gw_u σ 156 b t = σ := by
      funext k j
      rw [gw_at]
      split
      · rename_i q
        rw [q.1, q.2, c2]
      · rfl
    have := h.s1 (b := b) (v := t)
    rw [e2] at this
    exact this
  · intro c2
    refine ⟨fun q => absurd q t1, fun _ => ⟨vp_in_nI (by omega) (by decide), fun s3 q3 => ?_⟩⟩
    have e := (h.2.1 b (by omega)).1
    rw [bi_t ⟨hbn, fun q => c2 (by rw [e]; exact q)⟩, sSell, if_pos hbn, q3]
    exact ⟨rfl, h.s1, FRs.u (by simp)⟩
theorem s_corksOne {d n b : Nat} {S σ : gw_S} (hn : n ≤ 8) (hs : σ 1 2 = nI n) (hb : b < 2 ^ 31) (h : MS S σ) : gB d mX9_corksOne [.ref 1, .int (nI b)] σ (fun v σ' => v = some (.int (bi (b < n ∧ ¬ S 2 b = 9))) ∧ MS (sCork n b S) σ' ∧ FRs σ σ') := by
  refine eX9_corksOne ?_
  rw [hs, i_cl hb]
  have t1 : ¬ (1 : Int32) = 0 := by decide
  refine ⟨fun c => ⟨fun _ => ?_, fun q => absurd rfl q⟩, fun c => ⟨?_, ?_, ?_⟩⟩
  · have : ¬ b < n := fun q => nI_ge q (by omega) c
    rw [bi_f (fun q => this q.1), sCork, if_neg this]
    exact ⟨rfl, h, FRs.rf⟩
  all_goals
    have hbn : b < n := by
      rcases Nat.lt_or_ge b n with q | q
      · exact q
      · exact absurd (nI_le q (by omega)) c
  · exact vp_in_nI (by omega) (by decide)
  · intro c2
    refine ⟨fun _ => ?_, fun q => absurd rfl q⟩
    have e := (h.2.1 b (by omega)).2.1
    rw [bi_f (fun q => q.2 (by rw [← e]; exact c2)), sCork, if_pos hbn]
    refine ⟨rfl, ?_, FRs.rf⟩
    have e2 : gw_u σ 157 b 9 = σ := by
      funext k j
      rw [gw_at]
      split
      · rename_i q
        rw [q.1, q.2, c2]
      · rfl
    have := h.s2 (b := b) (v := 9)
    rw [e2] at this
    exact this
  · intro c2
    refine ⟨fun q => absurd q t1, fun _ => ⟨vp_in_nI (by omega) (by decide), fun s3 q3 => ?_⟩⟩
    have e := (h.2.1 b (by omega)).2.1
    rw [bi_t ⟨hbn, fun q => c2 (by rw [e]; exact q)⟩, sCork, if_pos hbn, q3]
    exact ⟨rfl, h.s2, FRs.u (by simp)⟩
theorem e8 {b v : Nat} : (8 : Int32) * nI b + nI v = nI (8 * b + v) := by rw [show (8 : Int32) = nI 8 from rfl, nI_mul, nI_add]
/-- the states within a join's loop -/
def sJnP (b t u : Nat) (S : gw_S) : gw_S := fun k => if k = 0 then (fun j => if j % 8 < u then (if j / 8 = t then S 0 j + S 0 (8 * b + j % 8) else if j / 8 = b then 0 else S 0 j) else S 0 j) else S k
theorem l_joins {d b t : Nat} {S : gw_S} (hb : b < 8) (ht : t < 8) (hbt : b ≠ t) : ∀ m u (σ σ0 : gw_S), u + m = 8 → MS (sJnP b t u S) σ → FRs σ0 σ → gG d mX9_joins 43 [some (.ref 1), some (.int (nI b)), some (.int (nI t)), some (.int (nI u))] [] σ (fun v σ' => v = some (.int 1) ∧ MS (sJn b t S) σ' ∧ FRs σ0 σ') := by
  intro m
  induction m with
  | zero =>
    intro u σ σ0 hu h hf
    have : u = 8 := by omega
    subst this
    refine bX9_joins_43 ⟨fun _ => ⟨rfl, ?_, hf⟩, fun c => absurd (by decide) c⟩
    have e : sJnP b t 8 S = sJn b t S := by
      funext k j
      unfold sJnP sJn
      by_cases hk : k = 0
      · have : j % 8 < 8 := by omega
        simp [hk, this]
      · simp [hk]
    rw [← e]
    exact h
  | succ m ih =>
    intro u σ σ0 hu h hf
    refine bX9_joins_43 ⟨fun c => absurd c (nI_ge (b := 8) (by omega) (by decide)), fun _ => ?_⟩
    rw [e8, e8, i_cl (show 8 * t + u < 2 ^ 31 by omega), i_cl (show 8 * b + u < 2 ^ 31 by omega), nI_1]
    have v1 : vp_in (nI (8 * t + u)) 64 := vp_in_nI (by omega) (by decide)
    have v2 : vp_in (nI (8 * b + u)) 64 := vp_in_nI (by omega) (by decide)
    refine ⟨v1, v2, v1, fun s1 q1 => ⟨v2, fun s2 q2 => ih (u + 1) s2 σ0 (by omega) ?_ (hf.tr ?_)⟩⟩
    · obtain ⟨h1, h2, h3, h4, h5⟩ := h
      rw [q2, q1]
      have w1 := h1 (8 * t + u) (by omega)
      have w2 := h1 (8 * b + u) (by omega)
      unfold sJnP at w1 w2
      have a1 : (8 * t + u) % 8 = u := by omega
      have a2 : (8 * b + u) % 8 = u := by omega
      simp [a1] at w1
      simp [a2] at w2
      refine ⟨fun j hj => ?_, fun c hc => ?_, ?_, ?_, fun a ha => ?_⟩
      · have w := h1 j hj
        unfold sJnP at w ⊢
        simp only [gw_at]
        by_cases e1 : j = 8 * b + u
        · subst e1
          have d1 : ¬ (8 * b + u) / 8 = t := by omega
          have d2 : (8 * b + u) / 8 = b := by omega
          simp [a2, d1, d2]
          exact fun q => absurd q hbt
        · by_cases e2 : j = 8 * t + u
          · subst e2
            have d1 : (8 * t + u) / 8 = t := by omega
            simp [e1, a1, d1, w1, w2]
            intro q; omega
          · simp [e1, e2]
            simp at w
            rw [w]
            by_cases e3 : j % 8 < u
            · have : j % 8 < u + 1 := by omega
              simp [e3, this]
            · by_cases e4 : j % 8 < u + 1
              · have d3 : j % 8 = u := by omega
                have d4 : ¬ j / 8 = t := by omega
                have d5 : ¬ j / 8 = b := by omega
                simp [e3, e4, d4, d5]
              · simp [e3, e4]
      · have w := h2 c hc
        simp only [gw_at]
        unfold sJnP at w ⊢
        simpa using w
      · simp only [gw_at]
        unfold sJnP at h3 ⊢
        simpa using h3
      · simp only [gw_at]
        unfold sJnP at h4 ⊢
        simpa using h4
      · have w := h5 a ha
        simp only [gw_at]
        unfold sJnP at w ⊢
        simpa using w
    · rw [q2, q1]
      exact (FRs.u (by simp)).tr (FRs.u (by simp))
theorem s_joins {d n b t : Nat} {S σ : gw_S} (hn : n ≤ 8) (hs : σ 1 2 = nI n) (hb : b < 2 ^ 31) (ht : t < 2 ^ 31) (h : MS S σ) : gB d mX9_joins [.ref 1, .int (nI b), .int (nI t)] σ (fun v σ' => v = some (.int (bi (cJ n b t S))) ∧ MS (if cJ n b t S then sJn b t S else S) σ' ∧ FRs σ σ') := by
  have no : ¬ cJ n b t S → (some (Value.int 0) = some (Value.int (bi (cJ n b t S))) ∧ MS (if cJ n b t S then sJn b t S else S) σ ∧ FRs σ σ) := fun c => by
    rw [bi_f c, if_neg c]
    exact ⟨rfl, h, FRs.rf⟩
  have lt : ∀ x : Nat, x < 2 ^ 31 → (nI n ≤ nI x ↔ ¬ x < n) := fun x hx => by
    rw [nI_leI (by omega) hx]
    omega
  refine eX9_joins ?_
  rw [hs, i_cl hb, i_cl ht, lt b hb, lt t ht, nI_eq hb ht]
  refine ⟨fun c => no (fun q => c q.1), fun c => ⟨fun c1 => no (fun q => c1 q.2.1), fun c1 => ⟨fun c2 => no (fun q => q.2.2.1 c2), fun c2 => ⟨vp_in_nI (by omega) (by decide), ?_⟩⟩⟩⟩
  have eb := (h.2.1 b (by omega)).2.2.1
  have et := (h.2.1 t (by omega)).2.2.1
  rw [eb, et]
  refine ⟨fun c3 => no (fun q => q.2.2.2.1 c3), fun c3 => ⟨vp_in_nI (by omega) (by decide), fun c4 => ?_, fun c4 => no (fun q => q.2.2.2.2 c4)⟩⟩
  have cc : cJ n b t S := ⟨Classical.not_not.mp c, Classical.not_not.mp c1, c2, c3, c4⟩
  rw [bi_t cc, if_pos cc]
  refine l_joins (S := S) (by omega) (by omega) c2 8 0 σ σ rfl ?_ FRs.rf
  have e : sJnP b t 0 S = S := by
    funext k j
    unfold sJnP
    by_cases hk : k = 0 <;> simp [hk]
  rw [e]
  exact h
def sBrP (b u : Nat) (S : gw_S) : gw_S := fun k => if k = 0 then (fun j => if j / 8 = b ∧ j % 8 < u then 0 else S 0 j) else if k = 3 then upd (S 3) b 0 else if k = 4 then (fun v => if v < u then S 4 v + S 0 (8 * b + v) else S 4 v) else S k
theorem MS.of {S S2 σ : gw_S} (h : MS S σ) (e0 : ∀ j, j < 64 → S 0 j = S2 0 j) (e1 : ∀ b, b < 8 → S 1 b = S2 1 b ∧ S 2 b = S2 2 b ∧ S 3 b = S2 3 b ∧ S 4 b = S2 4 b ∧ S 5 b = S2 5 b) (e6 : S 6 0 = S2 6 0) (e7 : S 6 1 = S2 6 1) (e8 : ∀ a, a < 16 → S 7 a = S2 7 a) : MS S2 σ := by
  obtain ⟨h1, h2, h3, h4, h5⟩ := h
  refine ⟨fun j hj => by rw [← e0 j hj]; exact h1 j hj, fun b hb => ?_, by rw [← e6]; exact h3, by rw [← e7]; exact h4, fun a ha => by rw [← e8 a ha]; exact h5 a ha⟩
  obtain ⟨x1, x2, x3, x4, x5⟩ := e1 b hb
  rw [← x1, ← x2, ← x3, ← x4, ← x5]
  exact h2 b hb
theorem l_breaks {d b : Nat} {S : gw_S} (hb : b < 8) : ∀ m u (σ σ0 : gw_S), u + m = 8 → MS (sBrP b u S) σ → FRs σ0 σ → gG d mX9_breaks 28 [some (.ref 1), some (.int (nI b)), some (.int (nI u))] [] σ (fun v σ' => v = some (.int 1) ∧ MS (sBr b S) σ' ∧ FRs σ0 σ') := by
  intro m
  induction m with
  | zero =>
    intro u σ σ0 hu h hf
    have : u = 8 := by omega
    subst this
    refine bX9_breaks_28 ⟨fun _ => ⟨rfl, ?_, hf⟩, fun c => absurd (by decide) c⟩
    refine h.of (fun j hj => ?_) (fun c hc => ?_) rfl rfl (fun a ha => rfl)
    · have : j % 8 < 8 := by omega
      simp [sBrP, sBr, this]
    · simp [sBrP, sBr, hc]
  | succ m ih =>
    intro u σ σ0 hu h hf
    refine bX9_breaks_28 ⟨fun c => absurd c (nI_ge (b := 8) (by omega) (by decide)), fun _ => ?_⟩
    rw [e8, i_cl (show 8 * b + u < 2 ^ 31 by omega), i_cl (show u < 2 ^ 31 by omega), nI_1]
    have v1 : vp_in (nI u) 8 := vp_in_nI (by omega) (by decide)
    have v2 : vp_in (nI (8 * b + u)) 64 := vp_in_nI (by omega) (by decide)
    refine ⟨v1, v2, v1, fun s1 q1 => ⟨v2, fun s2 q2 => ih (u + 1) s2 σ0 (by omega) ?_ (hf.tr ?_)⟩⟩
    · obtain ⟨h1, h2, h3, h4, h5⟩ := h
      rw [q2, q1]
      have w1 := h1 (8 * b + u) (by omega)
      have w2 := (h2 u (by omega)).2.2.2.1
      have a1 : (8 * b + u) % 8 = u := by omega
      have a2 : (8 * b + u) / 8 = b := by omega
      simp [sBrP, a1] at w1
      simp [sBrP] at w2
      refine ⟨fun j hj => ?_, fun c hc => ?_, ?_, ?_, fun a ha => ?_⟩
      · have w := h1 j hj
        simp only [gw_at]
        simp [sBrP] at w ⊢
        by_cases e1 : j = 8 * b + u
        · subst e1
          simp [a1, a2]
        · simp [e1, w]
          by_cases e2 : j / 8 = b
          · by_cases e3 : j % 8 < u
            · have : j % 8 < u + 1 := by omega
              simp [e2, e3, this]
            · have : ¬ j % 8 < u + 1 := by omega
              simp [e3, this]
          · simp [e2]
      · have w := h2 c hc
        simp only [gw_at]
        simp [sBrP] at w ⊢
        refine ⟨w.1, w.2.1, w.2.2.1, ?_, w.2.2.2.2⟩
        by_cases e1 : c = u
        · subst e1
          simp [w1, w2]
        · have e2 : c < u + 1 ↔ c < u := by omega
          simp [e1, e2, w.2.2.2.1]
      · simp only [gw_at]
        simp [sBrP] at h3 ⊢
        exact h3
      · simp only [gw_at]
        simp [sBrP] at h4 ⊢
        exact h4
      · have w := h5 a ha
        simp only [gw_at]
        simp [sBrP] at w ⊢
        exact w
    · rw [q2, q1]
      exact (FRs.u (by simp)).tr (FRs.u (by simp))
theorem s_breaks {d n b : Nat} {S σ : gw_S} (hn : n ≤ 8) (hs : σ 1 2 = nI n) (hb : b < 2 ^ 31) (h : MS S σ) : gB d mX9_breaks [.ref 1, .int (nI b)] σ (fun v σ' => v = some (.int (bi (cB n b S))) ∧ MS (if cB n b S then sBr b S else S) σ' ∧ FRs σ σ') := by
  have no : ¬ cB n b S → (some (Value.int 0) = some (Value.int (bi (cB n b S))) ∧ MS (if cB n b S then sBr b S else S) σ ∧ FRs σ σ) := fun c => by
    rw [bi_f c, if_neg c]
    exact ⟨rfl, h, FRs.rf⟩
  refine eX9_breaks ?_
  rw [hs, i_cl hb, nI_leI (by omega) hb]
  refine ⟨fun c => no (fun q => by omega), fun c => ⟨vp_in_nI (by omega) (by decide), ?_⟩⟩
  have eb := (h.2.1 b (by omega)).2.2.1
  rw [eb]
  refine ⟨fun c3 => ⟨vp_in_nI (by omega) (by decide), fun s1 q1 => ?_⟩, fun c3 => no (fun q => q.2 c3)⟩
  have cc : cB n b S := ⟨by omega, c3⟩
  rw [bi_t cc, if_pos cc]
  refine l_breaks (S := S) (by omega) 8 0 s1 σ rfl ?_ (by rw [q1]; exact FRs.u (by simp))
  obtain ⟨h1, h2, h3, h4, h5⟩ := h
  rw [q1, show vp_nar .boolean 0 = 0 from rfl]
  refine ⟨fun j hj => ?_, fun c hc => ?_, ?_, ?_, fun a ha => ?_⟩
  · simp only [gw_at]
    simp [sBrP]
    exact h1 j hj
  · have w := h2 c hc
    simp only [gw_at]
    simp [sBrP, upd]
    refine ⟨w.1, w.2.1, ?_, w.2.2.2.1, w.2.2.2.2⟩
    by_cases e : c = b <;> simp [e, w.2.2.1]
  · simp only [gw_at]
    simp [sBrP]
    exact h3
  · simp only [gw_at]
    simp [sBrP]
    exact h4
  · simp only [gw_at]
    simp [sBrP]
    exact h5 a ha
