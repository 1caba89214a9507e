/-! market, in the model -/
def QMp (τ σ : gw_S) (A : Int32) : Option Value → gw_S → Prop := fun v σ' => v = some (.int A) ∧ (TM τ σ' ∧ PMt τ σ') ∧ FSc σ σ'
theorem s_marketOfP {d D : Nat} {seed b : Int32} {τ σ : gw_S} (hw : WF τ) (h : TM τ σ) (hD : D < 40) (hb : b = -1 ∨ ∃ B, B < 8 ∧ b = nI B) : gB (d + 6) mX9_marketOf [.ref 1, .int seed, .int (nI D), .int b] σ (QMp τ σ (aMk τ seed D b)) := by
  have hn := NB_le hw
  refine eX9_marketOf ((s_asTold hw h).mono ?_)
  rintro _ σ1 ⟨rfl, k1, k2⟩
  have t1 := h.frL k2 (by decide) (by decide)
  have f1 : FSc σ σ1 := k2.wk (by decide) (by decide)
  refine ⟨rfl, ?_⟩
  -- the run and the answer
  have fin : ∀ (r : gw_S) (ns : Nat), FM [153, 154] [19] σ1 r → r 1 19 = nI ns → (ns = if NB τ = 0 then 0 else D + 1) → (∀ e, e < ns → r 153 e = nI (sbN seed (NB τ) e) ∧ r 154 e = nI (stN seed e)) → gB (d + 5) mX9_runs [.ref 1, .int (nI D)] r (fun v σ2 => v = none ∧ (((¬ b = (-1)) → (vp_in b 8 ∧ (QMp τ σ (aMk τ seed D b) (some (.int (σ2 156 b.toNatClampNeg))) σ2))) ∧ ((b = (-1)) → (QMp τ σ (aMk τ seed D b) (some (.int (σ2 1 31))) σ2)))) := by
    intro r ns hf h19 hns hp
    have tr := t1.frL hf (by decide) (by decide)
    have hp2 : PMt τ r := k1.1.fr hf (by decide) (by decide)
    have hns40 : ns ≤ 40 := by rw [hns]; split <;> omega
    have hr := mkRun (w := -1) (o := -1) (t := -1) (h := hotF τ) (na := 0) (ck := fun _ => 0) (sl := slM τ seed D) hw tr hp2 (by rw [hf.2 32 (by decide)]; exact k1.2.1) (by rw [hf.2 33 (by decide)]; exact k1.2.2.1) (by rw [hf.2 34 (by decide)]; exact k1.2.2.2.1) (Or.inl ⟨rfl, rfl⟩) (by rw [hf.1 159 (by decide) (by decide)]; exact k1.2.2.2.2.2.2) ⟨by rw [hf.2 17 (by decide)]; exact k1.2.2.2.2.1, by omega, fun k hk => by omega⟩ ⟨ns, hns40, h19, fun e he => ⟨fun q => ?_, fun q => ?_⟩⟩
    · refine (s_runs (d := d + 2) hD hr.1 hr.2).mono ?_
      rintro _ σ2 ⟨rfl, p1, p2⟩
      have p1' : MS (mkS τ (slM τ seed D) (D + 1)) σ2 := by rw [← mk_run]; exact p1
      have t2 : TM τ σ2 ∧ PMt τ σ2 := ⟨tr.fr p2.sc, hp2.fr p2.fm (by decide) (by decide)⟩
      have f2 := (f1.tr (hf.wk (by decide) (by decide))).tr p2.sc
      refine ⟨rfl, fun c => ?_, fun c => ⟨?_, t2, f2⟩⟩
      · obtain ⟨B, hB, rfl⟩ := hb.resolve_left c
        refine ⟨vp_in_nI hB (by decide), ?_, t2, f2⟩
        rw [aMk, if_neg c, i_cl (show B < 2 ^ 31 by omega), (p1'.2.1 B hB).1]
      · rw [aMk, if_pos c, p1'.2.2.2.1]
    · have hz : ¬ NB τ = 0 := fun z => by rw [hns, if_pos z] at q; omega
      rw [if_neg hz] at hns
      have hz0 : 0 < NB τ := by omega
      have l := (sb_e (seed := seed) (d := e) hz0 hn).2
      refine ⟨sbN seed (NB τ) e, nI (stN seed e), ?_, by omega, (hp e q).1, (hp e q).2⟩
      unfold slM
      rw [if_pos ⟨hz0, by omega⟩]
    · unfold slM
      rw [if_neg]
      rintro ⟨z1, z2⟩
      rw [hns, if_neg (by omega)] at q
      omega
  by_cases hz : NB τ = 0
  · have e2 : σ1 1 2 = nI 0 := by rw [← hz]; exact k1.1.1
    have f0 := fin σ1 0 FM.rf k1.2.2.2.2.2.1 (by rw [if_pos hz]) (fun e he => by omega)
    refine bX9_marketOf_10 ?_
    rw [e2]
    exact ⟨fun _ => f0, fun _ => ⟨fun _ => f0, fun q => absurd (by decide) q⟩⟩
  · have hz0 : 0 < NB τ := by omega
    have key : ∀ m k (r : gw_S), k + m = D + 1 → FM [153, 154] [19] σ1 r → r 1 19 = nI k → (∀ e, e < k → r 153 e = nI (sbN seed (NB τ) e) ∧ r 154 e = nI (stN seed e)) → gG (d + 5 + 1) mX9_marketOf 10 [some (.ref 1), none, some (.int (nI D)), some (.int b), some (.int (ltS seed k)), some (.int (nI k))] [] r (QMp τ σ (aMk τ seed D b)) := by
      intro m
      induction m with
      | zero =>
        intro k r hk hf h19 hp
        have : k = D + 1 := by omega
        subst this
        exact bX9_marketOf_10 ⟨fun _ => fin r (D + 1) hf h19 (by rw [if_neg hz]) hp, fun q => absurd (nI_lt (by omega) (by omega)) q⟩
      | succ m ih =>
        intro k r hk hf h19 hp
        have e2 : r 1 2 = nI (NB τ) := by rw [hf.2 2 (by decide)]; exact k1.1.1
        obtain ⟨sb1, sb2⟩ := sb_e (seed := seed) (d := k) hz0 hn
        have e1 : (1103515245 : Int32) * ltS seed k + 12345 = nxL (ltS seed k) := rfl
        have e3 : (1103515245 : Int32) * nxL (ltS seed k) + 12345 = nxL (nxL (ltS seed k)) := rfl
        have vi : vp_in (nI k) 40 := vp_in_nI (by omega) (by decide)
        refine bX9_marketOf_10 ?_
        rw [e2, e1, e3, sb1, st_e, i_cl (show k < 2 ^ 31 by omega), nI_1 k]
        refine ⟨fun q => absurd q (nI_nlt (by omega) (by omega)), fun _ => ⟨fun q => absurd q (nI_nle hz0 (by omega)), fun _ => ⟨nI_ne0 hz0 (by omega), vi, fun s4 q4 => ⟨vi, fun s5 q5 s6 q6 => ?_⟩⟩⟩⟩
        refine ih (k + 1) s6 (by omega) ?_ ?_ (fun e he => ?_)
        · rw [q6, q5, q4]
          exact ((hf.tr (FM.u (Or.inl (by decide)))).tr (FM.u (Or.inl (by decide)))).tr (FM.u (Or.inr (by decide)))
        · rw [q6, gw_self, q5, gw_ne (by decide), q4, gw_ne (by decide), h19, nI_1]
        · rw [q6, gw_ne (by decide), gw_ne (by decide), q5, gw_ne (by decide), q4]
          by_cases ee : e = k
          · subst ee
            rw [gw_self, gw_self]
            exact ⟨rfl, rfl⟩
          · rw [gw_nj ee, gw_nj ee, gw_ne (by decide)]
            exact hp e (by omega)
    exact key (D + 1) 0 σ1 (by omega) FM.rf k1.2.2.2.2.2.1 (fun e he => by omega)
theorem s_marketOf {d D : Nat} {seed b : Int32} {τ σ : gw_S} (hw : WF τ) (h : TM τ σ) (hD : D < 40) (hb : b = -1 ∨ ∃ B, B < 8 ∧ b = nI B) : gB (d + 6) mX9_marketOf [.ref 1, .int seed, .int (nI D), .int b] σ (QM τ σ (aMk τ seed D b)) :=
  (s_marketOfP hw h hD hb).mono (fun _ _ q => ⟨q.1, q.2.1.1, q.2.2⟩)
theorem m_market {d : Nat} {seed day b : Int32} {τ σ : gw_S} (hw : WF τ) (h : TM τ σ) : gB (d + 7) mX9_market [.ref 1, .int seed, .int day, .int b] σ (QM τ σ (A_market τ seed day b)) := by
  have hn := NB_le hw
  have bad : ¬ (okD day ∧ (b = -1 ∨ okB τ b)) → A_market τ seed day b = -2 := fun c => by rw [A_market, if_neg c]
  refine eX9_market (gB_det s_isDay2 ⟨_, rfl, br_bj (fun h1 => ?_) (fun h1 => QM.bad h FM.rf (bad (fun q => h1 q.1)))⟩)
  obtain ⟨D, hD, rfl⟩ := okD_n h1
  refine ⟨fun c => (s_marketOf hw h hD (Or.inl c)).mono ?_, fun c => (s_isBottleM (d := d + 1) hw h).mono ?_⟩
  · rintro _ σ2 ⟨rfl, g1, g2⟩
    exact ⟨_, rfl, by rw [A_market, if_pos ⟨h1, Or.inl c⟩, i_cl (show D < 2 ^ 31 by omega)], g1, g2⟩
  · rintro _ σ5 ⟨rfl, -, k2, k3⟩
    refine ⟨_, rfl, br_bj (fun h2 => ?_) (fun h2 => QM.bad k2 k3 (bad (fun q => q.2.elim c h2)))⟩
    obtain ⟨B, hB, eB⟩ := okB_n hw h2
    refine (s_marketOf hw k2 hD (Or.inr ⟨B, by omega, eB⟩)).mono ?_
    rintro _ σ7 ⟨rfl, g1, g2⟩
    exact ⟨_, rfl, by rw [A_market, if_pos ⟨h1, Or.inr h2⟩, i_cl (show D < 2 ^ 31 by omega)], g1, k3.tr g2⟩
