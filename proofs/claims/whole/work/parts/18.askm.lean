abbrev Pt (τ : gw_S) (w o t : Int32) : Pr := (NB τ, fun b => pS (f0 τ) (swp o t b), τ, nA τ, w, hotF τ, τ 1 9, 0, fun _ => 0, fun _ => none)
abbrev Vt (τ : gw_S) (o t : Int32) : Nat → Int32 := fun b => pV (f0 τ) (swp o t b)
abbrev Mt (τ : gw_S) (o t : Int32) : Nat → Int32 := fun b => pM (f0 τ) (swp o t b)
abbrev Ct (τ : gw_S) (o t : Int32) : Nat → Int32 := fun b => pC (f0 τ) (swp o t b)
/-- behind k days, as told -/
def simT (τ : gw_S) (k : Nat) : gw_S := sRun (Pt τ (-1) (-1) (-1)) (Vt τ (-1) (-1)) (Mt τ (-1) (-1)) (Ct τ (-1) (-1)) k
theorem NB_le {τ : gw_S} (hw : WF τ) : NB τ ≤ 8 := nBo_le hw.1.2.1
theorem pV_ok {τ : gw_S} (hw : WF τ) {b : Nat} (hb : b < NB τ) : ∃ v, v < 8 ∧ pV (f0 τ) b = nI v := by
  obtain ⟨h1, h2⟩ := nBo_in hw.1.2.1 hb
  have h3 := okAt0.mp (h2 (6 * b) (by omega))
  unfold pV
  obtain ⟨c1, c2⟩ := h3
  rw [i_le] at c1 c2
  have e97 : (97 : Int32).toInt = 97 := by decide
  have e104 : (104 : Int32).toInt = 104 := by decide
  rw [e97] at c1
  rw [e104] at c2
  obtain ⟨j, hj, e⟩ := i_nn (x := f0 τ (6 * b)) (by rw [i_le]; rw [show (0 : Int32).toInt = 0 from by decide]; omega)
  rw [e, nI_toInt hj] at c1 c2
  refine ⟨j - 97, by omega, ?_⟩
  rw [e, show (97 : Int32) = nI 97 from rfl, nI_sub (by omega)]
/-- the model, set for a run -/
theorem mkRun {τ σ : gw_S} {w o t : Int32} {h : Nat → Bool} {na : Nat} {ck : Nat → Nat} {sl : Nat → Option (Nat × Int32)} (hw : WF τ) (ht : TM τ σ) (hp : PMt τ σ) (h32 : σ 1 32 = w) (h33 : σ 1 33 = o) (h34 : σ 1 34 = t) (hs : okSw o t (NB τ)) (hh : ∀ d, d < 40 → σ 159 d = bi (h d = true)) (hc : σ 1 17 = nI na ∧ na ≤ 3 ∧ ∀ k, k < na → σ 152 k = nI (ck k) ∧ ck k < 8) (hl : ∃ ns, ns ≤ 40 ∧ σ 1 19 = nI ns ∧ ∀ d, d < 40 → (d < ns → ∃ b t, sl d = some (b, t) ∧ b < 8 ∧ σ 153 d = nI b ∧ σ 154 d = t) ∧ (¬ d < ns → sl d = none)) :
    okRun (NB τ, fun b => pS (f0 τ) (swp o t b), τ, nA τ, w, h, τ 1 9, na, ck, sl) o t σ ∧ okStk (NB τ) o t (Vt τ o t) (Mt τ o t) (Ct τ o t) σ := by
  have hN := NB_le hw
  refine ⟨⟨⟨hp.1, h33, h34, hs, fun b hb => ?_⟩, hN, ht.2 9 (by decide), ?_, hw.2.2.2.1.2.1, fun a ha => ?_, ⟨ht.1 148 (by decide), ht.1 149 (by decide), ht.1 150 (by decide), ht.1 151 (by decide)⟩, h32, hh, hc, hl⟩, fun b hb => ?_⟩
  · have := (hp.2.1 (swp o t b) (swp_lt hN hs hb)).2.2.2
    rw [this]
    exact bi_congr decide_eq_true_iff.symm
  · rw [ht.2 12 (by decide)]; exact hw.2.2.2.1.1
  · have := hw.2.2.2.1.2.2 a ha
    unfold okAct at this ⊢
    rw [ht.1 148 (by decide), ht.1 149 (by decide), ht.1 150 (by decide), ht.1 151 (by decide)]
    exact this
  · have hb2 := swp_lt hN hs hb
    obtain ⟨e1, e2, e3, e4⟩ := hp.2.1 (swp o t b) hb2
    exact ⟨pV_ok hw hb2, e1, e2, e3⟩
theorem AT.run {τ σ : gw_S} (hw : WF τ) (ht : TM τ σ) (h : AT τ σ) : okRun (Pt τ (-1) (-1) (-1)) (-1) (-1) σ ∧ okStk (NB τ) (-1) (-1) (Vt τ (-1) (-1)) (Mt τ (-1) (-1)) (Ct τ (-1) (-1)) σ := by
  obtain ⟨hp, h1, h2, h3, h4, h5, h6⟩ := h
  exact mkRun hw ht hp h1 h2 h3 (Or.inl ⟨rfl, rfl⟩) h6 ⟨h4, by omega, fun k hk => by omega⟩ ⟨0, by omega, h5, fun d hd => ⟨fun q => by omega, fun _ => rfl⟩⟩
theorem AT.fr {τ σ σ' : gw_S} {L J : List Nat} (h : AT τ σ) (hf : FM L J σ σ') (hL : 142 ∉ L ∧ 143 ∉ L ∧ 144 ∉ L ∧ 145 ∉ L ∧ 146 ∉ L) (hL2 : 159 ∉ L) (hJ : 2 ∉ J ∧ 7 ∉ J) (hJ2 : 32 ∉ J ∧ 33 ∉ J ∧ 34 ∉ J ∧ 17 ∉ J ∧ 19 ∉ J) : AT τ σ' := by
  obtain ⟨hp, h1, h2, h3, h4, h5, h6⟩ := h
  refine ⟨hp.fr hf hL hJ, by rw [hf.2 32 hJ2.1]; exact h1, by rw [hf.2 33 hJ2.2.1]; exact h2, by rw [hf.2 34 hJ2.2.2.1]; exact h3, by rw [hf.2 17 hJ2.2.2.2.1]; exact h4, by rw [hf.2 19 hJ2.2.2.2.2]; exact h5, ?_⟩
  rw [hf.1 159 (by decide) hL2]
  exact h6
theorem s_runsTold {d D : Nat} {τ σ : gw_S} (hw : WF τ) (h : TM τ σ) (hD : D < 40) : gB (d + 6) mX9_runsTold [.ref 1, .int (nI D)] σ (fun v σ' => v = none ∧ MS (simT τ (D + 1)) σ' ∧ AT τ σ' ∧ FSc σ σ') := by
  refine eX9_runsTold ((s_asTold hw h).mono ?_)
  rintro v σ1 ⟨rfl, k1, k2⟩
  have hr := k1.run hw (h.frL k2 (by decide) (by decide))
  refine ⟨rfl, (s_runs (d := d + 2) hD hr.1 hr.2).mono ?_⟩
  rintro v σ2 ⟨rfl, g1, g2⟩
  exact ⟨rfl, rfl, g1, k1.fr g2.fm (by decide) (by decide) (by decide) (by decide), (k2.wk (by decide) (by decide)).tr (g2.fm.wk (by decide) (by decide))⟩
/-! conditions -/
abbrev okD (x : Int32) : Prop := 0 ≤ x ∧ x < 40
abbrev okB (τ : gw_S) (x : Int32) : Prop := 0 ≤ x ∧ x < nI (NB τ)
abbrev okE (x : Int32) : Prop := 0 ≤ x ∧ x < 8
theorem lt_k {x c c' : Int32} (h : c'.toInt = c.toInt + 1) : x ≤ c ↔ x < c' := by rw [i_le, i_lt]; omega
theorem lt_pred {x : Int32} {n : Nat} (hn : n < 2 ^ 31) : x ≤ nI n - 1 ↔ x < nI n := by
  rw [i_le, i_lt]
  have e : (nI n - 1).toInt = (n : Int) - 1 := by
    rcases Nat.eq_zero_or_pos n with h | h
    · subst h; decide
    · rw [show (1 : Int32) = nI 1 from rfl, nI_sub h, nI_toInt (by omega)]
      omega
  rw [e, nI_toInt hn]
  omega
theorem okD_n {x : Int32} (h : okD x) : ∃ D, D < 40 ∧ x = nI D := i_in (by decide) h.1 (by have := i_lt.mp h.2; rw [show (40 : Int32).toInt = 40 from by decide] at this; exact this)
theorem okE_n {x : Int32} (h : okE x) : ∃ D, D < 8 ∧ x = nI D := i_in (by decide) h.1 (by have := i_lt.mp h.2; rw [show (8 : Int32).toInt = 8 from by decide] at this; exact this)
theorem okB_n {τ : gw_S} (hw : WF τ) {x : Int32} (h : okB τ x) : ∃ D, D < NB τ ∧ x = nI D := i_in (by have := NB_le hw; omega) h.1 (by have := i_lt.mp h.2; rw [nI_toInt (by have := NB_le hw; omega)] at this; exact this)
theorem s_isDay2 {d : Nat} {x : Int32} {σ : gw_S} : gB (d + 1) mX9_isDay [.int x] σ (fun v σ' => v = some (.int (bi (okD x))) ∧ σ' = σ) := gB_det s_isDay ⟨bi_sm (by rw [lt_k (c := 39) (c' := 40) (by decide)]), rfl⟩
theorem s_isEight2 {d : Nat} {x : Int32} {σ : gw_S} : gB (d + 1) mX9_isEight [.int x] σ (fun v σ' => v = some (.int (bi (okE x))) ∧ σ' = σ) := gB_det s_isEight ⟨bi_sm (by rw [lt_k (c := 7) (c' := 8) (by decide)]), rfl⟩
theorem s_isBottleM {d : Nat} {x : Int32} {τ σ : gw_S} (hw : WF τ) (h : TM τ σ) : gB (d + 5) mX9_isBottle [.ref 1, .int x] σ (fun v σ' => v = some (.int (bi (okB τ x))) ∧ PMt τ σ' ∧ TM τ σ' ∧ FSc σ σ') := by
  refine eX9_isBottle ((s_readsT hw h).mono ?_)
  rintro v σ1 ⟨rfl, k1, k2⟩
  refine ⟨rfl, gB_det s_in ⟨_, rfl, bi_nar, ?_, k1, h.frL k2 (by decide) (by decide), k2.wk (by decide) (by decide)⟩⟩
  apply bi_sm
  rw [k1.1, lt_pred (by have := NB_le hw; unfold NB at this; omega)]
  exact Iff.rfl
/-! what the days are asked, in the model -/
def aHolds (τ : gw_S) (D b : Nat) (v : Int32) : Int32 := if v = -1 then alI (simT τ (D + 1)) b else simT τ (D + 1) 0 (8 * b + v.toNatClampNeg)
theorem s_holdsOf {d D b : Nat} {v : Int32} {τ σ : gw_S} (hw : WF τ) (h : TM τ σ) (hD : D < 40) (hb : b < 8) (hv : v = -1 ∨ okE v) : gB (d + 7) mX9_holdsOf [.ref 1, .int (nI D), .int (nI b), .int v] σ (fun r σ' => r = some (.int (aHolds τ D b v)) ∧ TM τ σ' ∧ FSc σ σ') := by
  refine eX9_holdsOf ((s_runsTold hw h hD).mono ?_)
  rintro _ σ1 ⟨rfl, k1, k2, k3⟩
  refine ⟨rfl, fun c => ?_, fun c => gB_det (s_allInM hb k1) ⟨_, rfl, by rw [aHolds, if_pos c], h.fr k3, k3⟩⟩
  rcases hv with hv | hv
  · exact absurd hv c
  · obtain ⟨j, hj, rfl⟩ := okE_n hv
    rw [e8, i_cl (show 8 * b + j < 2 ^ 31 by omega)]
    refine ⟨vp_in_nI (by omega) (by decide), ?_, h.fr k3, k3⟩
    rw [k1.1 _ (by omega), aHolds, if_neg c, i_cl (show j < 2 ^ 31 by omega)]
theorem s_whoOf {d D b : Nat} {τ σ : gw_S} (hw : WF τ) (h : TM τ σ) (hD : D < 40) (hb : b < 8) : gB (d + 7) mX9_whoOf [.ref 1, .int (nI D), .int (nI b)] σ (fun r σ' => r = some (.int (simT τ (D + 1) 1 b)) ∧ TM τ σ' ∧ FSc σ σ') := by
  refine eX9_whoOf ((s_runsTold hw h hD).mono ?_)
  rintro _ σ1 ⟨rfl, k1, k2, k3⟩
  refine ⟨rfl, vp_in_nI hb (by decide), ?_, h.fr k3, k3⟩
  rw [i_cl (show b < 2 ^ 31 by omega), (k1.2.1 b hb).1]
theorem s_wholeOf {d D b : Nat} {τ σ : gw_S} (hw : WF τ) (h : TM τ σ) (hD : D < 40) (hb : b < 8) : gB (d + 7) mX9_wholeOf [.ref 1, .int (nI D), .int (nI b)] σ (fun r σ' => r = some (.int (bi (¬ simT τ (D + 1) 3 b = 0))) ∧ TM τ σ' ∧ FSc σ σ') := by
  refine eX9_wholeOf ((s_runsTold hw h hD).mono ?_)
  rintro _ σ1 ⟨rfl, k1, k2, k3⟩
  rw [i_cl (show b < 2 ^ 31 by omega), (k1.2.1 b hb).2.2.1]
  exact ⟨rfl, vp_in_nI hb (by decide), fun c => ⟨by rw [bi_f (not_not_intro c)], h.fr k3, k3⟩, fun c => ⟨by rw [bi_t c], h.fr k3, k3⟩⟩
theorem s_heardOf {d D b : Nat} {τ σ : gw_S} (hw : WF τ) (h : TM τ σ) (hD : D < 40) (hb : b < 8) : gB (d + 7) mX9_heardOf [.ref 1, .int (nI D), .int (nI b)] σ (fun r σ' => r = some (.int (simT τ (D + 1) 4 b)) ∧ TM τ σ' ∧ FSc σ σ') := by
  refine eX9_heardOf ((s_runsTold hw h hD).mono ?_)
  rintro _ σ1 ⟨rfl, k1, k2, k3⟩
  refine ⟨rfl, vp_in_nI hb (by decide), ?_, h.fr k3, k3⟩
  rw [i_cl (show b < 2 ^ 31 by omega), (k1.2.1 b hb).2.2.2.1]
theorem s_spilledOf {d D b : Nat} {τ σ : gw_S} (hw : WF τ) (h : TM τ σ) (hD : D < 40) (hb : b < 8) : gB (d + 7) mX9_spilledOf [.ref 1, .int (nI D), .int (nI b)] σ (fun r σ' => r = some (.int (simT τ (D + 1) 5 b)) ∧ TM τ σ' ∧ FSc σ σ') := by
  refine eX9_spilledOf ((s_runsTold hw h hD).mono ?_)
  rintro _ σ1 ⟨rfl, k1, k2, k3⟩
  refine ⟨rfl, vp_in_nI hb (by decide), ?_, h.fr k3, k3⟩
  rw [i_cl (show b < 2 ^ 31 by omega), (k1.2.1 b hb).2.2.2.2]
theorem s_leakedOf {d D : Nat} {τ σ : gw_S} (hw : WF τ) (h : TM τ σ) (hD : D < 40) : gB (d + 7) mX9_leakedOf [.ref 1, .int (nI D)] σ (fun r σ' => r = some (.int (simT τ (D + 1) 6 0)) ∧ TM τ σ' ∧ FSc σ σ') := by
  refine eX9_leakedOf ((s_runsTold hw h hD).mono ?_)
  rintro _ σ1 ⟨rfl, k1, k2, k3⟩
  exact ⟨rfl, by rw [k1.2.2.1], h.fr k3, k3⟩
theorem s_worksOf {d a : Nat} {τ σ : gw_S} (hw : WF τ) (h : TM τ σ) (ha : a < 16) : gB (d + 7) mX9_worksOf [.ref 1, .int (nI a)] σ (fun r σ' => r = some (.int (bi (¬ simT τ 40 7 a = 0))) ∧ TM τ σ' ∧ FSc σ σ') := by
  refine eX9_worksOf ((s_runsTold (D := 39) hw h (by decide)).mono ?_)
  rintro _ σ1 ⟨rfl, k1, k2, k3⟩
  rw [i_cl (show a < 2 ^ 31 by omega), k1.2.2.2.2 a ha]
  exact ⟨rfl, vp_in_nI ha (by decide), fun c => ⟨by rw [bi_f (not_not_intro c)], h.fr k3, k3⟩, fun c => ⟨by rw [bi_t c], h.fr k3, k3⟩⟩
def orN (g : Nat → Int32) : Nat → Int32
  | 0 => 0
  | n + 1 => orN g n ||| g n
def hasG (S : gw_S) (who : Int32) (b v : Nat) : Int32 := if S 1 b = who ∧ ¬ S 0 (8 * b + v) ≤ 0 then (1 : Int32) <<< (nI v &&& 31) else 0
def aHas (S : gw_S) (n : Nat) (who : Int32) : Int32 := orN (fun b => orN (hasG S who b) 8) n
theorem l_hasOf {d n : Nat} {who : Int32} {S σ : gw_S} (hn : n ≤ 8) (hs : σ 1 2 = nI n) (h : MS S σ) : ∀ m b x, b + m = n → x = orN (fun b => orN (hasG S who b) 8) b → gG (d + 1) mX9_hasOf 10 [some (.ref 1), none, some (.int who), some (.int x), some (.int (nI b)), none] [] σ (fun r σ' => r = some (.int (aHas S n who)) ∧ σ' = σ) := by
  intro m
  induction m with
  | zero =>
    intro b x hb hx
    have : b = n := by omega
    subst this
    refine bX9_hasOf_10 ?_
    rw [hs]
    exact ⟨fun _ => ⟨by rw [hx]; rfl, rfl⟩, fun c => absurd (nI_le (Nat.le_refl _) (by omega)) c⟩
  | succ m ih =>
    intro b x hb hx
    refine bX9_hasOf_10 ?_
    rw [hs]
    refine ⟨fun c => absurd c (nI_ge (by omega) (by omega)), fun _ => ?_⟩
    have key : ∀ q u y, u + q = 8 → y = x ||| orN (hasG S who b) u → gG (d + 1) mX9_hasOf 22 [some (.ref 1), none, some (.int who), some (.int y), some (.int (nI b)), some (.int (nI u))] [] σ (fun r σ' => r = some (.int (aHas S n who)) ∧ σ' = σ) := by
      intro q
      induction q with
      | zero =>
        intro u y hu hy
        have : u = 8 := by omega
        subst this
        refine bX9_hasOf_22 ⟨fun _ => ?_, fun c => absurd (by decide) c⟩
        rw [nI_1]
        exact ih (b + 1) y (by omega) (by rw [hy, hx]; rfl)
      | succ q ihq =>
        intro u y hu hy
        refine bX9_hasOf_22 ⟨fun c => absurd c (nI_ge (b := 8) (by omega) (by decide)), fun _ => ⟨vp_in_nI (by omega) (by decide), ?_⟩⟩
        rw [e8, i_cl (show b < 2 ^ 31 by omega), i_cl (show 8 * b + u < 2 ^ 31 by omega), (h.2.1 b (by omega)).1, h.1 (8 * b + u) (by omega), nI_1]
        have nxt : ∀ z, z = hasG S who b u → gG (d + 1) mX9_hasOf 22 [some (.ref 1), none, some (.int who), some (.int (y ||| z)), some (.int (nI b)), some (.int (nI (u + 1)))] [] σ (fun r σ' => r = some (.int (aHas S n who)) ∧ σ' = σ) := by
          intro z hz
          refine ihq (u + 1) _ (by omega) ?_
          rw [hy, hz, Int32.or_assoc]
          rfl
        refine ⟨fun c => nxt 0 ?_, fun c => ⟨vp_in_nI (by omega) (by decide), fun c2 => nxt 0 ?_, fun c2 => nxt _ ?_⟩⟩
        · rw [hasG, if_neg (fun q => c q.1)]
        · rw [hasG, if_neg (fun q => q.2 c2)]
        · rw [hasG, if_pos ⟨c, c2⟩]
    exact key 8 0 x rfl (by unfold orN; rw [Int32.or_zero])
theorem s_hasOf {d D : Nat} {who : Int32} {τ σ : gw_S} (hw : WF τ) (h : TM τ σ) (hD : D < 40) : gB (d + 7) mX9_hasOf [.ref 1, .int (nI D), .int who] σ (fun r σ' => r = some (.int (aHas (simT τ (D + 1)) (NB τ) who)) ∧ TM τ σ' ∧ FSc σ σ') := by
  refine eX9_hasOf ((s_runsTold hw h hD).mono ?_)
  rintro _ σ1 ⟨rfl, k1, k2, k3⟩
  refine ⟨rfl, (l_hasOf (NB_le hw) k2.1.1 k1 (NB τ) 0 0 (by omega) rfl).mono ?_⟩
  rintro r σ2 ⟨rfl, rfl⟩
  exact ⟨rfl, h.fr k3, k3⟩
def stG (S : gw_S) (b v : Nat) : Int32 := if ¬ S 0 (8 * b + v) ≤ 0 then (1 : Int32) <<< (nI v &&& 31) else 0
/-- the voices that there are still -/
def aStill (S : gw_S) (n : Nat) : Int32 := orN (fun b => orN (stG S b) 8) n
def aEver (f : Nat → Int32) (n : Nat) : Int32 := orN (fun b => (1 : Int32) <<< (pV f b &&& 31)) n
def aLost (τ : gw_S) (S : gw_S) : Int32 := aEver (f0 τ) (NB τ) &&& (aStill S (NB τ) ^^^ (-1))
theorem l_lostOf {d : Nat} {τ S σ : gw_S} (hw : WF τ) (hp : PMt τ σ) (h : MS S σ) : ∀ m b x y, b + m = NB τ → x = orN (fun b => (1 : Int32) <<< (pV (f0 τ) b &&& 31)) b → y = orN (fun b => orN (stG S b) 8) b → gG (d + 1) mX9_lostOf 12 [some (.ref 1), none, some (.int x), some (.int y), some (.int (nI b)), none] [] σ (fun r σ' => r = some (.int (aLost τ S)) ∧ σ' = σ) := by
  have hn := NB_le hw
  have hs : σ 1 2 = nI (NB τ) := hp.1
  intro m
  induction m with
  | zero =>
    intro b x y hb hx hy
    have : b = NB τ := by omega
    subst this
    refine bX9_lostOf_12 ?_
    rw [hs]
    exact ⟨fun _ => ⟨by rw [hx, hy]; rfl, rfl⟩, fun c => absurd (nI_le (Nat.le_refl _) (by omega)) c⟩
  | succ m ih =>
    intro b x y hb hx hy
    refine bX9_lostOf_12 ?_
    rw [hs, i_cl (show b < 2 ^ 31 by omega), (hp.2.1 b (show b < NB τ by omega)).1]
    refine ⟨fun c => absurd c (nI_ge (by omega) (by omega)), fun _ => ⟨vp_in_nI (by omega) (by decide), ?_⟩⟩
    have key : ∀ q u z, u + q = 8 → z = y ||| orN (stG S b) u → gG (d + 1) mX9_lostOf 36 [some (.ref 1), none, some (.int (x ||| (1 : Int32) <<< (pV (f0 τ) b &&& 31))), some (.int z), some (.int (nI b)), some (.int (nI u))] [] σ (fun r σ' => r = some (.int (aLost τ S)) ∧ σ' = σ) := by
      intro q
      induction q with
      | zero =>
        intro u z hu hz
        have : u = 8 := by omega
        subst this
        refine bX9_lostOf_36 ⟨fun _ => ?_, fun c => absurd (by decide) c⟩
        rw [nI_1]
        exact ih (b + 1) _ z (by omega) (by rw [hx]; rfl) (by rw [hz, hy]; rfl)
      | succ q ihq =>
        intro u z hu hz
        refine bX9_lostOf_36 ⟨fun c => absurd c (nI_ge (b := 8) (by omega) (by decide)), fun _ => ?_⟩
        rw [e8, i_cl (show 8 * b + u < 2 ^ 31 by omega), h.1 (8 * b + u) (by omega), nI_1]
        have nxt : ∀ g, g = stG S b u → gG (d + 1) mX9_lostOf 36 [some (.ref 1), none, some (.int (x ||| (1 : Int32) <<< (pV (f0 τ) b &&& 31))), some (.int (z ||| g)), some (.int (nI b)), some (.int (nI (u + 1)))] [] σ (fun r σ' => r = some (.int (aLost τ S)) ∧ σ' = σ) := by
          intro g hg
          refine ihq (u + 1) _ (by omega) ?_
          rw [hz, hg, Int32.or_assoc]
          rfl
        refine ⟨vp_in_nI (by omega) (by decide), fun c => nxt 0 ?_, fun c => nxt _ ?_⟩
        · rw [stG, if_neg (fun q => q c)]
        · rw [stG, if_pos c]
    exact key 8 0 y rfl (by unfold orN; rw [Int32.or_zero])
theorem s_lostOf {d D : Nat} {τ σ : gw_S} (hw : WF τ) (h : TM τ σ) (hD : D < 40) : gB (d + 7) mX9_lostOf [.ref 1, .int (nI D)] σ (fun r σ' => r = some (.int (aLost τ (simT τ (D + 1)))) ∧ TM τ σ' ∧ FSc σ σ') := by
  refine eX9_lostOf ((s_runsTold hw h hD).mono ?_)
  rintro _ σ1 ⟨rfl, k1, k2, k3⟩
  refine ⟨rfl, (l_lostOf hw k2.1 k1 (NB τ) 0 0 0 (by omega) rfl rfl).mono ?_⟩
  rintro r σ2 ⟨rfl, rfl⟩
  exact ⟨rfl, h.fr k3, k3⟩
/-- MOST, bottle by bottle -/
def moN (S : gw_S) (v : Nat) : Nat → Int32
  | 0 => -1
  | b + 1 => if S 0 (8 * b + v) ≤ 0 then moN S v b else if moN S v b = -1 then nI b else if S 0 (8 * b + v) ≤ S 0 (8 * (moN S v b).toNatClampNeg + v) then moN S v b else nI b
theorem moN_ok {S : gw_S} {v : Nat} : ∀ b, moN S v b = -1 ∨ ∃ c, c < b ∧ moN S v b = nI c
  | 0 => Or.inl rfl
  | b + 1 => by
    unfold moN
    have ih := moN_ok (S := S) (v := v) b
    have ih2 : moN S v b = -1 ∨ ∃ c, c < b + 1 ∧ moN S v b = nI c := ih.imp id (fun ⟨c, h1, h2⟩ => ⟨c, by omega, h2⟩)
    repeat' split
    · exact ih2
    · exact Or.inr ⟨b, by omega, rfl⟩
    · exact ih2
    · exact Or.inr ⟨b, by omega, rfl⟩
theorem l_mostOf {d n v : Nat} {S σ : gw_S} (hn : n ≤ 8) (hv : v < 8) (hs : σ 1 2 = nI n) (h : MS S σ) : ∀ m b, b + m = n → gG (d + 1) mX9_mostOf 10 [some (.ref 1), none, some (.int (nI v)), some (.int (moN S v b)), some (.int (nI b)), none] [] σ (fun r σ' => r = some (.int (moN S v n)) ∧ σ' = σ) := by
  intro m
  induction m with
  | zero =>
    intro b hb
    have : b = n := by omega
    subst this
    refine bX9_mostOf_10 ?_
    rw [hs]
    exact ⟨fun _ => ⟨rfl, rfl⟩, fun c => absurd (nI_le (Nat.le_refl _) (by omega)) c⟩
  | succ m ih =>
    intro b hb
    refine bX9_mostOf_10 ?_
    rw [hs, e8, i_cl (show 8 * b + v < 2 ^ 31 by omega), h.1 (8 * b + v) (by omega), nI_1]
    have nxt := ih (b + 1) (by omega)
    refine ⟨fun c => absurd c (nI_ge (by omega) (by omega)), fun _ => ⟨vp_in_nI (by omega) (by decide), fun c => ?_, fun c => ⟨fun c2 => ?_, fun c2 => ?_⟩⟩⟩
    · rw [moN, if_pos c] at nxt
      exact nxt
    · rw [moN, if_neg c, if_pos c2] at nxt
      exact nxt
    · rcases moN_ok (S := S) (v := v) b with e | ⟨x, hx, e⟩
      · exact absurd e c2
      · rw [e, e8, i_cl (show 8 * x + v < 2 ^ 31 by omega), h.1 (8 * x + v) (by omega)]
        rw [moN, if_neg c, if_neg c2, e, i_cl (show x < 2 ^ 31 by omega)] at nxt
        refine ⟨vp_in_nI (by omega) (by decide), fun c3 => ?_, fun c3 => ?_⟩
        · rw [if_pos c3] at nxt
          exact nxt
        · rw [if_neg c3] at nxt
          exact nxt
theorem s_mostOf {d D v : Nat} {τ σ : gw_S} (hw : WF τ) (h : TM τ σ) (hD : D < 40) (hv : v < 8) : gB (d + 7) mX9_mostOf [.ref 1, .int (nI D), .int (nI v)] σ (fun r σ' => r = some (.int (moN (simT τ (D + 1)) v (NB τ))) ∧ TM τ σ' ∧ FSc σ σ') := by
  refine eX9_mostOf ((s_runsTold hw h hD).mono ?_)
  rintro _ σ1 ⟨rfl, k1, k2, k3⟩
  refine ⟨rfl, (l_mostOf (NB_le hw) hv k2.1.1 k1 (NB τ) 0 (by omega)).mono ?_⟩
  rintro r σ2 ⟨rfl, rfl⟩
  exact ⟨rfl, h.fr k3, k3⟩
/-- how many acts work -/
def cnN (S : gw_S) : Nat → Int32
  | 0 => 0
  | a + 1 => cnN S a + bi (¬ S 7 a = 0)
theorem l_sumOf {d n : Nat} {x : Int32} {S σ : gw_S} (hn : n ≤ 16) (hs : σ 1 12 = nI n) (h : MS S σ) : ∀ m a, a + m = n → gG (d + 1) mX9_sumOf 10 [some (.ref 1), some (.int x), some (.int (cnN S a)), some (.int (nI a))] [] σ (fun r σ' => r = some (.int (if x = 0 then σ 1 2 else if x = 1 then σ 1 7 else cnN S n)) ∧ σ' = σ) := by
  intro m
  induction m with
  | zero =>
    intro a ha
    have : a = n := by omega
    subst this
    refine bX9_sumOf_10 ?_
    rw [hs]
    exact ⟨fun _ => ⟨fun c => ⟨fun c2 => ⟨by rw [if_neg c, if_neg c2], rfl⟩, fun c2 => ⟨by rw [if_neg c, if_pos c2], rfl⟩⟩, fun c => ⟨by rw [if_pos c], rfl⟩⟩, fun c => absurd (nI_le (Nat.le_refl _) (by omega)) c⟩
  | succ m ih =>
    intro a ha
    have nxt := ih (a + 1) (by omega)
    refine bX9_sumOf_10 ?_
    rw [hs, i_cl (show a < 2 ^ 31 by omega), h.2.2.2.2 a (by omega), nI_1]
    refine ⟨fun c => absurd c (nI_ge (by omega) (by omega)), fun _ => ⟨vp_in_nI (by omega) (by decide), fun c => ?_, fun c => ?_⟩⟩
    · rw [cnN, bi_f (not_not_intro c)] at nxt
      exact nxt
    · rw [cnN, bi_t c] at nxt
      exact nxt
theorem s_sumOf {d : Nat} {x : Int32} {τ σ : gw_S} (hw : WF τ) (h : TM τ σ) : gB (d + 7) mX9_sumOf [.ref 1, .int x] σ (fun r σ' => r = some (.int (if x = 0 then nI (NB τ) else if x = 1 then nI (NL τ) else cnN (simT τ 40) (nA τ))) ∧ PMt τ σ' ∧ TM τ σ' ∧ FSc σ σ') := by
  refine eX9_sumOf ((s_runsTold (D := 39) hw h (by decide)).mono ?_)
  rintro _ σ1 ⟨rfl, k1, k2, k3⟩
  refine ⟨rfl, (l_sumOf (n := nA τ) hw.2.2.2.1.2.1 (by rw [(h.fr k3).2 12 (by decide)]; exact hw.2.2.2.1.1) k1 (nA τ) 0 (by omega)).mono ?_⟩
  rintro r σ2 ⟨rfl, rfl⟩
  refine ⟨?_, k2.1, h.fr k3, k3⟩
  rw [k2.1.1, k2.1.2.2.1]
  rfl
