/-! the digest, in the model -/
theorem nIs : (5 : Int32) = nI 5 ∧ (6 : Int32) = nI 6 ∧ (9 : Int32) = nI 9 ∧ (20 : Int32) = nI 20 ∧ (39 : Int32) = nI 39 ∧ (0 : Int32) = nI 0 := ⟨rfl, rfl, rfl, rfl, rfl, rfl⟩
theorem okBn {τ : gw_S} {b : Nat} (hw : WF τ) (hb : b < NB τ) : okB τ (nI b) := ⟨nI_pos' (by have := NB_le hw; omega), nI_lt hb (by have := NB_le hw; omega)⟩
theorem okDn {D : Nat} (h : D < 40) : okD (nI D) := ⟨nI_pos' (by omega), nI_lt (b := 40) h (by decide)⟩
theorem okEn {D : Nat} (h : D < 8) : okE (nI D) := ⟨nI_pos' (by omega), nI_lt (b := 8) h (by decide)⟩
theorem s_botM {d b w : Nat} {τ σ : gw_S} (hw : WF τ) (hp : PMt τ σ) (hb : b < NB τ) (hw4 : w < 4) : gB d mX9_bottleOf [.ref 1, .int (nI b), .int (nI w)] σ (fun v σ' => v = some (.int (A_bottle τ (nI b) (nI w))) ∧ σ' = σ) := by
  have hn := NB_le hw
  have vi : vp_in (nI b) 9 := vp_in_nI (by omega) (by decide)
  have ic : (nI b).toNatClampNeg = b := i_cl (show b < 2 ^ 31 by omega)
  have s := hp.2.1 b hb
  have eA : A_bottle τ (nI b) (nI w) = aBot τ b (nI w) := by rw [A_bottle, if_pos ⟨okBn hw hb, nI_pos' (by omega), nI_lt (b := 4) hw4 (by decide)⟩, ic]
  refine eX9_bottleOf ?_
  rw [ic]
  refine ⟨fun b0 => ⟨fun b1 => ⟨fun b2 => ⟨vi, ?_, rfl⟩, fun b2 => ⟨vi, ?_, rfl⟩⟩, fun b1 => ⟨vi, ?_, rfl⟩⟩, fun b0 => ⟨vi, ?_, rfl⟩⟩
  · rw [eA, aBot, if_neg b0, if_neg b1, if_neg b2, s.2.2.2]
    exact bi_sm decide_eq_true_iff.symm
  · rw [eA, aBot, if_neg b0, if_neg b1, if_pos b2, s.2.2.1]
  · rw [eA, aBot, if_neg b0, if_pos b1, s.2.1]
  · rw [eA, aBot, if_pos b0, s.1]
def QMq (τ σ : gw_S) (A : Int64) : Option Value → gw_S → Prop := fun v σ' => v = some (.long A) ∧ (TM τ σ' ∧ PMt τ σ') ∧ FSc σ σ'
theorem m_mixB {d b : Nat} {x : Int64} {τ σ : gw_S} (hw : WF τ) (h : TM τ σ) (hp : PMt τ σ) (hb : b < NB τ) : gB (d + 8) mX9_bottleDigest [.ref 1, .long x, .int (nI b)] σ (QMq τ σ (dgB τ b x)) := by
  have hn := NB_le hw
  have ob := okBn hw hb
  have ic : (nI b).toNatClampNeg = b := i_cl (show b < 2 ^ 31 by omega)
  have key : ∀ m k, k + m = 4 → gG (d + 8) mX9_bottleDigest 6 [some (.ref 1), none, none, some (.int (nI b)), some (.long (fo (fun w h => mx h (A_bottle τ (nI b) (nI w))) k x)), none, some (.int (nI k))] [] σ (QMq τ σ (dgB τ b x)) := by
    intro m
    induction m with
    | zero =>
      intro k hk
      have : k = 4 := by omega
      subst this
      have e1 : A_holds τ 5 (nI b) (-1) = aHolds τ 5 b (-1) := by rw [A_holds, if_pos ⟨by decide, ob, Or.inl rfl⟩, ic]; rfl
      have e2 : A_holds τ 39 (nI b) (-1) = aHolds τ 39 b (-1) := by rw [A_holds, if_pos ⟨by decide, ob, Or.inl rfl⟩, ic]; rfl
      have e3 : A_who τ 9 (nI b) = simT τ (9 + 1) 1 b := by rw [A_who, if_pos ⟨by decide, ob⟩, ic]; rfl
      have e4 : A_whole τ 39 (nI b) = bi (¬ simT τ (39 + 1) 3 b = 0) := by rw [A_whole, if_pos ⟨by decide, ob⟩, ic]; rfl
      have e5 : ∀ w, okT w → A_heat τ 5 (nI b) 6 w = aHeat τ 5 b 6 w := fun w q => by rw [A_heat, if_pos ⟨by decide, ob, by decide, q⟩, ic]; rfl
      have e6 : A_market τ 7 20 (nI b) = aMk τ 7 20 (nI b) := by rw [A_market, if_pos ⟨by decide, Or.inr ob⟩]; rfl
      unfold dgB
      rw [e1, e2, e3, e4, e5 0 (by decide), e5 1 (by decide), e6]
      refine bX9_bottleDigest_6 ⟨fun _ => ?_, fun q => absurd (by decide) q⟩
      refine (s_holdsOf (d := d) (D := 5) hw h (by decide) (by omega) (Or.inl rfl)).mono ?_
      rintro _ σ1 ⟨rfl, t, f⟩
      refine ⟨_, rfl, (s_holdsOf (d := d) (D := 39) hw t (by decide) (by omega) (Or.inl rfl)).mono ?_⟩
      rintro _ σ2 ⟨rfl, t, f1⟩
      replace f := f.tr f1
      refine ⟨_, rfl, (s_whoOf (d := d) (D := 9) hw t (by decide) (by omega)).mono ?_⟩
      rintro _ σ3 ⟨rfl, t, f1⟩
      replace f := f.tr f1
      refine ⟨_, rfl, (s_wholeOf (d := d) (D := 39) hw t (by decide) (by omega)).mono ?_⟩
      rintro _ σ4 ⟨rfl, t, f1⟩
      replace f := f.tr f1
      refine ⟨_, rfl, (s_heatOf (d := d + 1) (c := 5) (D := 6) hw t (by decide) (by omega) (by decide)).mono ?_⟩
      rintro _ σ5 ⟨rfl, t, f1⟩
      replace f := f.tr f1
      refine ⟨_, rfl, (s_heatOf (d := d + 1) (c := 5) (D := 6) hw t (by decide) (by omega) (by decide)).mono ?_⟩
      rintro _ σ6 ⟨rfl, t, f1⟩
      replace f := f.tr f1
      refine ⟨_, rfl, (s_marketOfP (d := d + 1) (D := 20) hw t (by decide) (Or.inr ⟨b, by omega, rfl⟩)).mono ?_⟩
      rintro _ σ7 ⟨rfl, t, f1⟩
      exact ⟨_, rfl, rfl, t, f.tr f1⟩
    | succ m ih =>
      intro k hk
      refine bX9_bottleDigest_6 ⟨fun q => absurd q (nI_ge (b := 4) (by omega) (by decide)), fun _ => ?_⟩
      refine gB_det (s_botM hw hp hb (by omega)) ⟨_, rfl, ?_⟩
      rw [nI_1 k]
      exact ih (k + 1) (by omega)
  exact eX9_bottleDigest (key 4 0 (by omega))
theorem oL_c {τ : gw_S} {D : Nat} (hw : WF τ) : oL (mCk τ D) = aCor (sks τ D 4 0) (-1) := by
  have hn := NB_le hw
  rw [sks_m hw]
  cases e : mCk τ D with
  | none => rfl
  | some l =>
    obtain ⟨c, hc, hl⟩ := mCk_in e
    obtain ⟨t1, -, t3, t4⟩ := tl_in hn hc hl
    have eO : oL (some l) = nI c := by rw [← t1]; rfl
    rw [eO]
    show nI c = (if (-1 : Int32) = -1 then nI (pcN (bt l) 16) else cAt (bt l) (-1 : Int32).toNatClampNeg 8 0 0)
    rw [if_pos rfl, t3]
theorem m_dayD {d D : Nat} {x : Int64} {τ σ : gw_S} (hw : WF τ) (h : TM τ σ) (hD : D < 40) : gB (d + 8) mX9_dayDigest [.ref 1, .long x, .int (nI D)] σ (QMl τ σ (dgD τ (nI D) x)) := by
  have ic : (nI D).toNatClampNeg = D := i_cl (show D < 2 ^ 31 by omega)
  have oD := okDn hD
  have e1 : A_leaked τ (nI D) = simT τ (D + 1) 6 0 := by rw [A_leaked, if_pos oD, ic]
  have e2 : A_lost τ (nI D) = aLost τ (simT τ (D + 1)) := by rw [A_lost, if_pos oD, ic]
  have e3 : ∀ i, (i = -1 ∨ okE i) → A_sing τ (nI D) i = aSing (spT τ (simT τ (D + 1))) (NL τ) i := fun i q => by rw [A_sing, if_pos ⟨oD, q⟩, ic]
  have e4 : ∀ i, (i = -1 ∨ ok3 i) → A_corks τ (nI D) i = aCor (sks τ D 4 0) i := fun i q => by rw [A_corks, if_pos ⟨oD, q⟩, ic]
  have e5 : A_weigh τ (nI D) = (wbN τ D (NB τ)).1 := by rw [A_weigh, if_pos oD, ic]
  unfold dgD
  rw [e1, e2, e3 (-1) (Or.inl rfl), e3 0 (Or.inr (by decide)), e4 (-1) (Or.inl rfl), e4 0 (Or.inr (by decide)), e5]
  refine eX9_dayDigest ((s_leakedOf (d := d) hw h hD).mono ?_)
  rintro _ σ1 ⟨rfl, t, f⟩
  refine ⟨_, rfl, (s_lostOf (d := d) hw t hD).mono ?_⟩
  rintro _ σ2 ⟨rfl, t, f1⟩
  replace f := f.tr f1
  refine ⟨_, rfl, (s_singOf (d := d) hw t hD (Or.inl rfl)).mono ?_⟩
  rintro _ σ3 ⟨rfl, t, f1⟩
  replace f := f.tr f1
  refine ⟨_, rfl, (s_singOf (d := d) hw t hD (Or.inr (by decide))).mono ?_⟩
  rintro _ σ4 ⟨rfl, t, f1⟩
  replace f := f.tr f1
  refine ⟨_, rfl, (s_corksBy (d := d + 1) hw t hD).mono ?_⟩
  intro v σ5 q
  have q1 := q.1
  subst q1
  have t := q.2.1
  have f := f.tr q.2.2.1
  refine ⟨_, rfl, gB_det (s_ofCorks hw (Or.inr (by decide)) q) ⟨_, rfl, (s_weighOf (d := d) hw t hD).mono ?_⟩⟩
  rintro _ σ6 ⟨rfl, t, f1⟩
  refine ⟨_, rfl, ?_, t, f.tr f1⟩
  rw [oL_c hw]
  rfl
theorem dgm_k8 {d : Nat} {τ σ : gw_S} (hw : WF τ) : ∀ m k (r : gw_S), k + m = nA τ → TM τ r → FSc σ r → gG (d + 9) mX9_digest 221 [some (.ref 1), some (.long (dg8 τ k)), none, some (.int (nI k))] [] r (QMl τ σ (A_digest τ)) := by
  have hn := NB_le hw
  have hl := NL_le hw
  have hA := hw.2.2.2.1.2.1
  intro m
  induction m with
  | zero =>
    intro k r hk t f
    have : k = nA τ := by omega
    subst this
    have e2 : ∀ w, okT w → A_swapped τ w = (if w = 0 then (swO τ (NB τ) 0 (0, -1)).1 else (swO τ (NB τ) 0 (0, -1)).2) := fun w q => by rw [A_swapped, if_pos q]
    have e3 : A_market τ 7 20 (-1) = aMk τ 7 20 (-1) := by rw [A_market, if_pos ⟨by decide, Or.inl rfl⟩]; rfl
    unfold A_digest
    rw [e2 0 (by decide), e2 1 (by decide), e3]
    refine bX9_digest_221 ?_
    rw [t.2 12 (by decide), hw.2.2.2.1.1]
    refine ⟨fun _ => ?_, fun q => absurd (nI_le (Nat.le_refl _) (by omega)) q⟩
    refine (s_hidNow (d := d + 2) hw t).mono ?_
    rintro _ σ1 ⟨rfl, t, f1⟩
    replace f := f.tr f1
    refine ⟨_, rfl, (s_swappedOf (d := d + 2) hw t).mono ?_⟩
    rintro _ σ1 ⟨rfl, t, f1⟩
    replace f := f.tr f1
    refine ⟨_, rfl, (s_swappedOf (d := d + 2) hw t).mono ?_⟩
    rintro _ σ1 ⟨rfl, t, f1⟩
    replace f := f.tr f1
    refine ⟨_, rfl, (s_marketOf (d := d + 2) (D := 20) hw t (by decide) (Or.inl rfl)).mono ?_⟩
    rintro _ σ1 ⟨rfl, t, f1⟩
    exact ⟨_, rfl, rfl, t, f.tr f1⟩
  | succ m ih =>
    intro k r hk t f
    refine bX9_digest_221 ?_
    rw [t.2 12 (by decide), hw.2.2.2.1.1]
    refine ⟨fun q => absurd q (nI_ge (by omega) (by omega)), fun _ => ?_⟩
    have e : A_works τ (nI k) = bi (¬ simT τ 40 7 k = 0) := by rw [A_works, if_pos ⟨nI_pos' (by omega), nI_lt (by omega) (by omega)⟩, i_cl (show k < 2 ^ 31 by omega)]
    refine (s_worksOf (d := d + 1) hw t (show k < 16 by omega)).mono ?_
    rintro _ σ1 ⟨rfl, t, f1⟩
    refine ⟨_, rfl, ?_⟩
    rw [nI_1 k, ← e]
    exact ih (k + 1) σ1 (by omega) t (f.tr f1)
theorem dgm_k6 {d : Nat} {τ σ : gw_S} (hw : WF τ) : ∀ m k (r : gw_S), k + m = 6 → TM τ r → FSc σ r → gG (d + 9) mX9_digest 170 [some (.ref 1), some (.long (dg6 τ k)), none, some (.int (nI k))] [] r (QMl τ σ (A_digest τ)) := by
  have hn := NB_le hw
  have hl := NL_le hw
  have hA := hw.2.2.2.1.2.1
  intro m
  induction m with
  | zero =>
    intro k r hk t f
    have : k = 6 := by omega
    subst this
    refine bX9_digest_170 ⟨fun _ => ?_, fun q => absurd (by decide) q⟩
    refine (m_dayD (d := d) (D := 0) hw t (by decide)).mono ?_
    rintro _ σ1 ⟨rfl, t, f1⟩
    replace f := f.tr f1
    refine ⟨_, rfl, (m_dayD (d := d) (D := 5) hw t (by decide)).mono ?_⟩
    rintro _ σ1 ⟨rfl, t, f1⟩
    replace f := f.tr f1
    refine ⟨_, rfl, (m_dayD (d := d) (D := 39) hw t (by decide)).mono ?_⟩
    rintro _ σ1 ⟨rfl, t, f1⟩
    exact ⟨_, rfl, (by have z := (dgm_k8 (d := d) (σ := σ) hw) (nA τ) 0 σ1 (by omega) t (f.tr f1); rw [dg8_0] at z; exact z)⟩
  | succ m ih =>
    intro k r hk t f
    refine bX9_digest_170 ⟨fun q => absurd q (nI_ge (b := 6) (by omega) (by decide)), fun _ => ?_⟩
    have e : A_has τ 9 (nI k) = aHas (simT τ (9 + 1)) (NB τ) (nI k) := by rw [A_has, if_pos ⟨by decide, nI_pos' (by omega), nI_lt (b := 6) (by omega) (by decide)⟩]; rfl
    refine (s_hasOf (d := d + 1) (D := 9) hw t (by decide)).mono ?_
    rintro _ σ1 ⟨rfl, t, f1⟩
    refine ⟨_, rfl, ?_⟩
    rw [nI_1 k, ← e]
    exact ih (k + 1) σ1 (by omega) t (f.tr f1)
theorem dgm_k5 {d : Nat} {τ σ : gw_S} (hw : WF τ) : ∀ m k (r : gw_S), k + m = 8 → TM τ r → FSc σ r → gG (d + 9) mX9_digest 112 [some (.ref 1), some (.long (dg5 τ k)), none, some (.int (nI k))] [] r (QMl τ σ (A_digest τ)) := by
  have hn := NB_le hw
  have hl := NL_le hw
  have hA := hw.2.2.2.1.2.1
  intro m
  induction m with
  | zero =>
    intro k r hk t f
    have : k = 8 := by omega
    subst this
    exact bX9_digest_112 ⟨fun _ => (by have z := (dgm_k6 (d := d) (σ := σ) hw) 6 0 r (by omega) t f; rw [dg6_0] at z; exact z), fun q => absurd (by decide) q⟩
  | succ m ih =>
    intro k r hk t f
    refine bX9_digest_112 ⟨fun q => absurd q (nI_ge (b := 8) (by omega) (by decide)), fun _ => ?_⟩
    have oE : okE (nI k) := okEn (by omega)
    have ic : (nI k).toNatClampNeg = k := i_cl (show k < 2 ^ 31 by omega)
    have e1 : A_heard τ 39 (nI k) = simT τ (39 + 1) 4 k := by rw [A_heard, if_pos ⟨by decide, oE⟩, ic]; rfl
    have e2 : A_spilled τ 39 (nI k) = simT τ (39 + 1) 5 k := by rw [A_spilled, if_pos ⟨by decide, oE⟩, ic]; rfl
    have e3 : A_most τ 5 (nI k) = moN (simT τ (5 + 1)) k (NB τ) := by rw [A_most, if_pos ⟨by decide, oE⟩, ic]; rfl
    refine (s_heardOf (d := d + 1) (D := 39) hw t (by decide) (by omega)).mono ?_
    rintro _ σ1 ⟨rfl, t, f1⟩
    replace f := f.tr f1
    refine ⟨_, rfl, (s_spilledOf (d := d + 1) (D := 39) hw t (by decide) (by omega)).mono ?_⟩
    rintro _ σ1 ⟨rfl, t, f1⟩
    replace f := f.tr f1
    refine ⟨_, rfl, (s_mostOf (d := d + 1) (D := 5) hw t (by decide) (by omega)).mono ?_⟩
    rintro _ σ1 ⟨rfl, t, f1⟩
    replace f := f.tr f1
    refine ⟨_, rfl, ?_⟩
    rw [nI_1 k, ← e1, ← e2, ← e3]
    exact ih (k + 1) σ1 (by omega) t f
theorem dgm_k4 {d : Nat} {τ σ : gw_S} (hw : WF τ) : ∀ m k (r : gw_S), k + m = NL τ → TM τ r → PMt τ r → FSc σ r → gG (d + 9) mX9_digest 82 [some (.ref 1), some (.long (dg4 τ k)), none, some (.int (nI k))] [] r (QMl τ σ (A_digest τ)) := by
  have hn := NB_le hw
  have hl := NL_le hw
  have hA := hw.2.2.2.1.2.1
  intro m
  induction m with
  | zero =>
    intro k r hk t p f
    have : k = NL τ := by omega
    subst this
    refine bX9_digest_82 ?_
    rw [show r 1 7 = nI (NL τ) from p.2.2.1]
    exact ⟨fun _ => (by have z := (dgm_k5 (d := d) (σ := σ) hw) 8 0 r (by omega) t f; rw [dg5_0] at z; exact z), fun q => absurd (nI_le (Nat.le_refl _) (by omega)) q⟩
  | succ m ih =>
    intro k r hk t p f
    refine bX9_digest_82 ?_
    rw [show r 1 7 = nI (NL τ) from p.2.2.1, nI_1 k, i_cl (show k < 2 ^ 31 by omega)]
    refine ⟨fun q => absurd q (nI_ge (by omega) (by omega)), fun _ => ⟨vp_in_nI (by omega) (by decide), ?_⟩⟩
    have e : A_note τ (nI k) = r 146 k := by
      rw [A_note, if_pos (okEn (by omega)), if_neg (nI_ge (by omega) (by omega)), i_cl (show k < 2 ^ 31 by omega)]
      exact (p.2.2.2 k (by unfold NL at hk; omega)).symm
    rw [← e]
    exact ih (k + 1) r (by omega) t p f
theorem dgm_k3 {d : Nat} {τ σ : gw_S} (hw : WF τ) : ∀ m k (r : gw_S), k + m = NB τ → TM τ r → PMt τ r → FSc σ r → gG (d + 9) mX9_digest 59 [some (.ref 1), some (.long (dg3 τ k)), none, some (.int (nI k))] [] r (QMl τ σ (A_digest τ)) := by
  have hn := NB_le hw
  have hl := NL_le hw
  have hA := hw.2.2.2.1.2.1
  intro m
  induction m with
  | zero =>
    intro k r hk t p f
    have : k = NB τ := by omega
    subst this
    refine bX9_digest_59 ?_
    rw [show r 1 2 = nI (NB τ) from p.1]
    exact ⟨fun _ => (by have z := (dgm_k4 (d := d) (σ := σ) hw) (NL τ) 0 r (by omega) t p f; rw [dg4_0] at z; exact z), fun q => absurd (nI_le (Nat.le_refl _) (by omega)) q⟩
  | succ m ih =>
    intro k r hk t p f
    refine bX9_digest_59 ?_
    rw [show r 1 2 = nI (NB τ) from p.1]
    refine ⟨fun q => absurd q (nI_ge (by omega) (by omega)), fun _ => ?_⟩
    refine (m_mixB (d := d) hw t p (by omega)).mono ?_
    rintro _ σ1 ⟨rfl, ⟨t, p⟩, f1⟩
    refine ⟨_, rfl, ?_⟩
    rw [nI_1 k]
    exact ih (k + 1) σ1 (by omega) t p (f.tr f1)
theorem dgm_k1 {d : Nat} {τ σ : gw_S} (hw : WF τ) : ∀ m k (r : gw_S), k + m = 8 → TM τ r → FSc σ r → gG (d + 9) mX9_digest 6 [some (.ref 1), some (.long (dg1 τ k)), none, some (.int (nI k))] [] r (QMl τ σ (A_digest τ)) := by
  have hn := NB_le hw
  have hl := NL_le hw
  have hA := hw.2.2.2.1.2.1
  intro m
  induction m with
  | zero =>
    intro k r hk t f
    have : k = 8 := by omega
    subst this
    have e2 : ∀ w, okT w → A_fault τ w = (if w = 0 then fauB (f0 τ) (n0 τ) else fauS (g0 τ) (n1 τ)) := fun w q => by rw [A_fault, if_pos q]
    refine bX9_digest_6 ⟨fun _ => ?_, fun q => absurd (by decide) q⟩
    refine (s_faultT (d := d + 5) hw t).mono ?_
    rintro _ σ1 ⟨rfl, p, t, f1⟩
    replace f := f.tr f1
    refine ⟨_, rfl, (s_faultT (d := d + 5) hw t).mono ?_⟩
    rintro _ σ1 ⟨rfl, p, t, f1⟩
    replace f := f.tr f1
    refine ⟨_, rfl, ?_⟩
    rw [← e2 0 (by decide), ← e2 1 (by decide)]
    exact (by have z := (dgm_k3 (d := d) (σ := σ) hw) (NB τ) 0 σ1 (by omega) t p f; rw [dg3_0] at z; exact z)
  | succ m ih =>
    intro k r hk t f
    refine bX9_digest_6 ⟨fun q => absurd q (nI_ge (b := 8) (by omega) (by decide)), fun _ => ?_⟩
    refine (m_count (d := d) hw t).mono ?_
    rintro _ σ1 ⟨rfl, t, f1⟩
    refine ⟨_, rfl, ?_⟩
    rw [nI_1 k]
    exact ih (k + 1) σ1 (by omega) t (f.tr f1)
theorem m_digest {d : Nat} {τ σ : gw_S} (hw : WF τ) (h : TM τ σ) : gB (d + 9) mX9_digest [.ref 1] σ (QMl τ σ (A_digest τ)) :=
  eX9_digest ((by have z := (dgm_k1 (d := d) (σ := σ) hw) 8 0 σ (by omega) h FM.rf; rw [dg1_0] at z; exact z))
