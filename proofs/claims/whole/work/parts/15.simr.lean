/-- what a run rests on: how many bottles, which stand south, the told acts and how many, the one left out, hot days, BURST, how many corked ahead and which, sales a day -/
abbrev Pr : Type := Nat × (Nat → Bool) × gw_S × Nat × Int32 × (Nat → Bool) × Int32 × Nat × (Nat → Nat) × (Nat → Option (Nat × Int32))
abbrev rN (P : Pr) : Nat := P.1
abbrev rS (P : Pr) : Nat → Bool := P.2.1
abbrev rT (P : Pr) : gw_S := P.2.2.1
abbrev rA (P : Pr) : Nat := P.2.2.2.1
abbrev rW (P : Pr) : Int32 := P.2.2.2.2.1
abbrev rH (P : Pr) : Nat → Bool := P.2.2.2.2.2.1
abbrev rB (P : Pr) : Int32 := P.2.2.2.2.2.2.1
abbrev rK (P : Pr) : Nat := P.2.2.2.2.2.2.2.1
abbrev rC (P : Pr) : Nat → Nat := P.2.2.2.2.2.2.2.2.1
abbrev rL (P : Pr) : Nat → Option (Nat × Int32) := P.2.2.2.2.2.2.2.2.2
/-- the acts of a day, with what is corked ahead -/
def sMorn (P : Pr) (day : Nat) (S : gw_S) : gw_S := sActs (rN P) (rT P) (rW P) (nI day) (rA P) (if day = 0 then sAhead (rN P) (rC P) (rK P) S else S)
def sDay (P : Pr) (day : Nat) (S : gw_S) : gw_S := sEnds (rH P day) (rS P) (rB P) (rN P) (sSale (rN P) (rL P day) (sMorn P day S))
def sRun (P : Pr) (V M C : Nat → Int32) (k : Nat) : gw_S := itN (sDay P) k (sBegin (rN P) V M C)
/-- the model is set for the run P -/
def okRun (P : Pr) (o t : Int32) (σ : gw_S) : Prop :=
  okEnd (rN P) o t (rS P) σ ∧ rN P ≤ 8 ∧ σ 1 9 = rB P ∧ σ 1 12 = nI (rA P) ∧ rA P ≤ 16 ∧ (∀ a, a < rA P → okAct σ a) ∧ (σ 148 = rT P 148 ∧ σ 149 = rT P 149 ∧ σ 150 = rT P 150 ∧ σ 151 = rT P 151) ∧ σ 1 32 = rW P ∧ (∀ d, d < 40 → σ 159 d = bi (rH P d = true)) ∧
  (σ 1 17 = nI (rK P) ∧ rK P ≤ 3 ∧ ∀ k, k < rK P → σ 152 k = nI (rC P k) ∧ rC P k < 8) ∧ ∃ ns, ns ≤ 40 ∧ σ 1 19 = nI ns ∧ ∀ d, d < 40 → (d < ns → ∃ b t, rL P d = some (b, t) ∧ b < 8 ∧ σ 153 d = nI b ∧ σ 154 d = t) ∧ (¬ d < ns → rL P d = none)
theorem okRun.fr {P : Pr} {o t : Int32} {σ σ' : gw_S} (h : okRun P o t σ) (hf : FRs σ σ') : okRun P o t σ' := by
  have k : ∀ c, c ≠ 1 → c ≠ 155 → c ≠ 156 → c ≠ 157 → c ≠ 158 → c ≠ 160 → c ≠ 161 → c ≠ 162 → σ' c = σ c := hf.1
  obtain ⟨h1, h2, h3, h4, h5, h6, ⟨t1, t2, t3, t4⟩, h7, h8, ⟨c1, c2, c3⟩, ns, n1, n2, n3⟩ := h
  have e148 := k 148 (by decide) (by decide) (by decide) (by decide) (by decide) (by decide) (by decide) (by decide)
  have e149 := k 149 (by decide) (by decide) (by decide) (by decide) (by decide) (by decide) (by decide) (by decide)
  have e150 := k 150 (by decide) (by decide) (by decide) (by decide) (by decide) (by decide) (by decide) (by decide)
  have e151 := k 151 (by decide) (by decide) (by decide) (by decide) (by decide) (by decide) (by decide) (by decide)
  have e152 := k 152 (by decide) (by decide) (by decide) (by decide) (by decide) (by decide) (by decide) (by decide)
  have e153 := k 153 (by decide) (by decide) (by decide) (by decide) (by decide) (by decide) (by decide) (by decide)
  have e154 := k 154 (by decide) (by decide) (by decide) (by decide) (by decide) (by decide) (by decide) (by decide)
  have e159 := k 159 (by decide) (by decide) (by decide) (by decide) (by decide) (by decide) (by decide) (by decide)
  have j : ∀ c, c ≠ 30 → c ≠ 31 → σ' 1 c = σ 1 c := hf.2
  refine ⟨h1.fr hf, h2, by rw [j 9 (by decide) (by decide)]; exact h3, by rw [j 12 (by decide) (by decide)]; exact h4, h5, fun a ha => ?_, ⟨by rw [e148]; exact t1, by rw [e149]; exact t2, by rw [e150]; exact t3, by rw [e151]; exact t4⟩, by rw [j 32 (by decide) (by decide)]; exact h7, by rw [e159]; exact h8, ⟨by rw [j 17 (by decide) (by decide)]; exact c1, c2, by rw [e152]; exact c3⟩, ns, n1, by rw [j 19 (by decide) (by decide)]; exact n2, by rw [e153, e154]; exact n3⟩
  have := h6 a ha
  unfold okAct at this ⊢
  rw [e148, e149, e150, e151]
  exact this
theorem l_goes3 {d day : Nat} {P : Pr} {o t : Int32} (hd : day < 40) : ∀ m b (σ σ0 S : gw_S), b + m = rN P → okRun P o t σ → FRs σ0 σ → MS S σ → gG (d + 1 + 1) mX9_goesBy 119 [some (.ref 1), some (.int (nI day)), some (.int (nI b)), none] [] σ (fun v σ' => v = none ∧ (∀ S0, S = itN (fun b S => if S 3 b = 0 then S else sEnd (rH P day) (rS P b) (rB P) b S) b S0 → MS (sEnds (rH P day) (rS P) (rB P) (rN P) S0) σ') ∧ FRs σ0 σ') := by
  intro m
  induction m with
  | zero =>
    intro b σ σ0 S hb hr hf h
    have : b = rN P := by omega
    subst this
    refine bX9_goesBy_119 ?_
    rw [hr.1.1]
    exact ⟨fun _ => ⟨rfl, fun S0 e => by unfold sEnds; rw [← e]; exact h, hf⟩, fun c => absurd (nI_le (Nat.le_refl _) (by have := hr.2.1; omega)) c⟩
  | succ m ih =>
    intro b σ σ0 S hb hr hf h
    have hn := hr.2.1
    refine bX9_goesBy_119 ?_
    rw [hr.1.1, i_cl (show b < 2 ^ 31 by omega), (h.2.1 b (by omega)).2.2.1, nI_1]
    refine ⟨fun c => absurd c (nI_ge (by omega) (by omega)), fun _ => ⟨vp_in_nI (by omega) (by decide), fun c => ?_, fun c => ⟨vp_in_nI (by omega) (by decide), ?_⟩⟩⟩
    · refine (ih (b + 1) σ σ0 S (by omega) hr hf h).mono ?_
      rintro v σ' ⟨rfl, k1, k2⟩
      refine ⟨rfl, fun S0 e => k1 S0 ?_, k2⟩
      unfold itN
      rw [← e, if_pos c]
    · rw [i_cl (show day < 2 ^ 31 by omega), hr.2.2.2.2.2.2.2.2.1 day hd]
      refine (s_endsM (d := d) (b := b) (hot := rH P day) hn (by omega) hr.1 hr.2.2.1 h).mono ?_
      rintro v σ1 ⟨rfl, k1, k2⟩
      refine ⟨rfl, (ih (b + 1) σ1 σ0 _ (by omega) (hr.fr k2) (hf.tr k2) k1).mono ?_⟩
      rintro v σ' ⟨rfl, g1, g2⟩
      refine ⟨rfl, fun S0 e => g1 S0 ?_, g2⟩
      unfold itN
      rw [← e, if_neg c]
theorem s_goes3 {d day : Nat} {P : Pr} {o t : Int32} {σ σ0 S : gw_S} (hd : day < 40) (hr : okRun P o t σ) (hf : FRs σ0 σ) (h : MS S σ) : gG (d + 1 + 1) mX9_goesBy 119 [some (.ref 1), some (.int (nI day)), some (.int 0), none] [] σ (fun v σ' => v = none ∧ MS (sEnds (rH P day) (rS P) (rB P) (rN P) S) σ' ∧ FRs σ0 σ') := by
  refine (l_goes3 (d := d) hd (rN P) 0 σ σ0 S (by omega) hr hf h).mono ?_
  rintro v σ' ⟨rfl, k1, k2⟩
  exact ⟨rfl, k1 S rfl, k2⟩
theorem MS.s61 {S σ : gw_S} {v : Int32} (h : MS S σ) : MS (gw_u S 6 1 v) (gw_u σ 1 31 v) := by
  obtain ⟨h1, h2, h3, h4, h5⟩ := h
  refine ⟨fun j hj => ?_, fun c hc => ?_, ?_, ?_, fun a ha => ?_⟩
  · simp only [gw_at]; simpa using h1 j hj
  · have := h2 c hc
    simp only [gw_at]
    simpa using this
  · simp only [gw_at]; simpa using h3
  · simp only [gw_at]; simp
  · simp only [gw_at]; simpa using h5 a ha
theorem sSell_6 {n b : Nat} {t : Int32} {S : gw_S} : sSell n b t S 6 1 = S 6 1 := by
  unfold sSell
  split
  · rw [gw_ne (by decide)]
  · rfl
theorem l_goes2 {d day : Nat} {P : Pr} {o t : Int32} (hd : day < 40) : ∀ m a (σ σ0 S : gw_S), a + m = rA P → okRun P o t σ → FRs σ0 σ → MS S σ → gG (d + 1 + 1) mX9_goesBy 33 [some (.ref 1), some (.int (nI day)), some (.int (nI a)), none] [] σ (fun v σ' => v = none ∧ (∀ S0, S = itN (sAct (rN P) (rT P) (rW P) (nI day)) a S0 → MS (sEnds (rH P day) (rS P) (rB P) (rN P) (sSale (rN P) (rL P day) (sActs (rN P) (rT P) (rW P) (nI day) (rA P) S0))) σ') ∧ FRs σ0 σ') := by
  intro m
  induction m with
  | zero =>
    intro a σ σ0 S ha hr hf h
    have : a = rA P := by omega
    subst this
    have hA := hr.2.2.2.2.1
    have hn := hr.2.1
    obtain ⟨ns, n1, n2, n3⟩ := hr.2.2.2.2.2.2.2.2.2.2
    refine bX9_goesBy_33 ?_
    rw [hr.2.2.2.1, n2, nI_leI (a := ns) (b := day) (by omega) (by omega)]
    have vd : vp_in (nI day) 40 := vp_in_nI hd (by decide)
    refine ⟨fun _ => ⟨fun c => ?_, fun c => ⟨vd, vd, ?_⟩⟩, fun c => absurd (nI_le (Nat.le_refl _) (by omega)) c⟩
    · refine (s_goes3 (d := d) hd hr hf h).mono ?_
      rintro v σ' ⟨rfl, k1, k2⟩
      refine ⟨rfl, fun S0 e => ?_, k2⟩
      rw [(n3 day hd).2 (by omega), sSale, sActs, ← e]
      exact k1
    · obtain ⟨b, t2, e1, e2, e3, e4⟩ := (n3 day hd).1 (by omega)
      rw [i_cl (show day < 2 ^ 31 by omega), e3]
      refine (s_sells hn hr.1.1 (by omega) h).mono ?_
      rintro v σ1 ⟨rfl, k1, k2⟩
      rw [e4] at k1
      rw [h.2.2.2.1]
      have fin : ∀ s5, s5 = gw_u σ1 1 31 (S 6 1 + bi (b < rN P ∧ ¬ S 1 b = t2)) → gG (d + 1 + 1) mX9_goesBy 119 [some (.ref 1), some (.int (nI day)), some (.int 0), none] [] s5 (fun v σ' => v = none ∧ (∀ S0, S = itN (sAct (rN P) (rT P) (rW P) (nI day)) (rA P) S0 → MS (sEnds (rH P day) (rS P) (rB P) (rN P) (sSale (rN P) (rL P day) (sActs (rN P) (rT P) (rW P) (nI day) (rA P) S0))) σ') ∧ FRs σ0 σ') := by
        intro s5 q5
        have f5 : FRs σ s5 := k2.tr (by rw [q5]; exact FRs.u (by simp))
        refine (s_goes3 (d := d) (S := gw_u (sSell (rN P) b t2 S) 6 1 (S 6 1 + bi (b < rN P ∧ ¬ S 1 b = t2))) hd (hr.fr f5) (hf.tr f5) (by rw [q5]; exact k1.s61)).mono ?_
        rintro v σ' ⟨rfl, g1, g2⟩
        refine ⟨rfl, fun S0 e => ?_, g2⟩
        rw [e1, sSale, sActs, ← e]
        exact g1
      rw [e4]
      refine ⟨_, rfl, br_bj (fun c2 s6 q6 => fin s6 ?_) (fun c2 s6 q6 => fin s6 ?_)⟩
      · rw [q6, bi_t c2]
      · rw [q6, bi_f c2]
  | succ m ih =>
    intro a σ σ0 S ha hr hf h
    have hA := hr.2.2.2.2.1
    have hn := hr.2.1
    obtain ⟨t1, t2, t3, t4⟩ := hr.2.2.2.2.2.2.1
    refine bX9_goesBy_33 ?_
    rw [hr.2.2.2.1, i_cl (show a < 2 ^ 31 by omega), nI_1, hr.2.2.2.2.2.2.2.1]
    have va : vp_in (nI a) 16 := vp_in_nI (by omega) (by decide)
    have skip : ¬ (rT P 148 a = nI day ∧ ¬ nI a = rW P) → gG (d + 1 + 1) mX9_goesBy 33 [some (.ref 1), some (.int (nI day)), some (.int (nI (a + 1))), none] [] σ (fun v σ' => v = none ∧ (∀ S0, S = itN (sAct (rN P) (rT P) (rW P) (nI day)) a S0 → MS (sEnds (rH P day) (rS P) (rB P) (rN P) (sSale (rN P) (rL P day) (sActs (rN P) (rT P) (rW P) (nI day) (rA P) S0))) σ') ∧ FRs σ0 σ') := by
      intro c
      refine (ih (a + 1) σ σ0 S (by omega) hr hf h).mono ?_
      rintro v σ' ⟨rfl, k1, k2⟩
      refine ⟨rfl, fun S0 e => k1 S0 ?_, k2⟩
      unfold itN
      rw [← e, sAct, if_neg c]
    refine ⟨fun c => absurd c (nI_ge (by omega) (by omega)), fun _ => ⟨va, fun c => skip (fun q => c (by rw [t1]; exact q.1)), fun c => ⟨fun c2 => skip (fun q => q.2 c2), fun c2 => ?_⟩⟩⟩
    refine (s_does (d := d) (a := a) hn hr.1.1 (by omega) (hr.2.2.2.2.2.1 a (by omega)) h).mono ?_
    rintro v σ1 ⟨rfl, k1, k2⟩
    refine ⟨_, rfl, va, fun s9 q9 => ?_⟩
    rw [bi_aF.2] at q9
    have f9 : FRs σ s9 := k2.tr (by rw [q9]; exact FRs.u (by simp))
    refine (ih (a + 1) s9 σ0 _ (by omega) (hr.fr f9) (hf.tr f9) (by rw [q9]; exact k1.s7)).mono ?_
    rintro v σ' ⟨rfl, g1, g2⟩
    refine ⟨rfl, fun S0 e => g1 S0 ?_, g2⟩
    unfold itN
    rw [← e, sAct, if_pos ⟨by rw [← t1]; exact c, c2⟩, t2, t3, t4]
theorem s_goesBy {d day : Nat} {P : Pr} {o t : Int32} {σ S : gw_S} (hd : day < 40) (hr : okRun P o t σ) (h : MS S σ) : gB (d + 2) mX9_goesBy [.ref 1, .int (nI day)] σ (fun v σ' => v = none ∧ MS (sDay P day S) σ' ∧ FRs σ σ') := by
  refine eX9_goesBy ?_
  have hn := hr.2.1
  obtain ⟨c1, c2, c3⟩ := hr.2.2.2.2.2.2.2.2.2.1
  have tail : ∀ (s S2 : gw_S), okRun P o t s → FRs σ s → MS S2 s → S2 = (if day = 0 then sAhead (rN P) (rC P) (rK P) S else S) → gG (d + 1 + 1) mX9_goesBy 33 [some (.ref 1), some (.int (nI day)), some (.int 0), none] [] s (fun v σ' => v = none ∧ MS (sDay P day S) σ' ∧ FRs σ σ') := by
    intro s S2 hr2 hf h2 e
    refine (l_goes2 (d := d) hd (rA P) 0 s σ S2 (by omega) hr2 hf h2).mono ?_
    rintro v σ' ⟨rfl, k1, k2⟩
    refine ⟨rfl, ?_, k2⟩
    have := k1 S2 rfl
    unfold sDay sMorn
    rw [← e]
    exact this
  by_cases h0 : day = 0
  · subst h0
    have key : ∀ m k (s S2 : gw_S), k + m = rK P → okRun P o t s → FRs σ s → MS S2 s → S2 = itN (fun k S => sCork (rN P) (rC P k) S) k S → gG (d + 1 + 1) mX9_goesBy 2 [some (.ref 1), some (.int (nI 0)), some (.int (nI k)), none] [] s (fun v σ' => v = none ∧ MS (sDay P 0 S) σ' ∧ FRs σ σ') := by
      intro m
      induction m with
      | zero =>
        intro k s S2 hk hr2 hf h2 e
        have : k = rK P := by omega
        subst this
        refine bX9_goesBy_2 ?_
        rw [hr2.2.2.2.2.2.2.2.2.2.1.1]
        exact ⟨fun _ => tail s S2 hr2 hf h2 (by rw [if_pos rfl]; exact e), fun c => absurd (nI_le (Nat.le_refl _) (by omega)) c⟩
      | succ m ih =>
        intro k s S2 hk hr2 hf h2 e
        refine bX9_goesBy_2 ?_
        rw [hr2.2.2.2.2.2.2.2.2.2.1.1, i_cl (show k < 2 ^ 31 by omega), nI_1]
        have hc := hr2.2.2.2.2.2.2.2.2.2.1.2.2 k (by omega)
        refine ⟨fun c => absurd c (nI_ge (by omega) (by omega)), fun _ => ⟨fun c => absurd rfl c, fun _ => ⟨vp_in_nI (by omega) (by decide), ?_⟩⟩⟩
        rw [hc.1]
        refine (s_corksOne hn hr2.1.1 (by omega) h2).mono ?_
        rintro v σ1 ⟨rfl, k1, k2⟩
        refine ⟨_, rfl, ih (k + 1) σ1 _ (by omega) (hr2.fr k2) (hf.tr k2) k1 ?_⟩
        conv => rhs; unfold itN
        rw [← e]
    exact key (rK P) 0 σ S (by omega) hr FRs.rf h rfl
  · refine bX9_goesBy_2 ⟨fun _ => tail σ S hr FRs.rf h (by rw [if_neg h0]), fun _ => ⟨fun _ => tail σ S hr FRs.rf h (by rw [if_neg h0]), fun c => ?_⟩⟩
    exact absurd ((nI_eq (b := 0) (by omega) (by decide)).mp c) h0
theorem l_runs {d last : Nat} {P : Pr} {o t : Int32} {S0 : gw_S} (hl : last < 40) : ∀ m day (σ σ0 : gw_S), day + m = last + 1 → okRun P o t σ → FRs σ0 σ → MS (itN (sDay P) day S0) σ → gG (d + 2 + 1) mX9_runs 6 [some (.ref 1), some (.int (nI last)), some (.int (nI day))] [] σ (fun v σ' => v = none ∧ MS (itN (sDay P) (last + 1) S0) σ' ∧ FRs σ0 σ') := by
  intro m
  induction m with
  | zero =>
    intro day σ σ0 hd hr hf h
    have : day = last + 1 := by omega
    subst this
    exact bX9_runs_6 ⟨fun _ => ⟨rfl, h, hf⟩, fun c => absurd (nI_lt (by omega) (by omega)) c⟩
  | succ m ih =>
    intro day σ σ0 hd hr hf h
    refine bX9_runs_6 ⟨fun c => absurd c (nI_nlt (by omega) (by omega)), fun _ => (s_goesBy (d := d) (by omega) hr h).mono ?_⟩
    rintro v σ1 ⟨rfl, k1, k2⟩
    rw [nI_1]
    exact ⟨rfl, ih (day + 1) σ1 σ0 (by omega) (hr.fr k2) (hf.tr k2) k1⟩
