/-! weigh, in the model -/
def HM (τ : gw_S) (D m : Nat) (σ : gw_S) : Prop := ∀ a b, a < m → b < NB τ → σ 167 (8 * a + b) = hld τ D a b
theorem s_weighOf {d D : Nat} {τ σ : gw_S} (hw : WF τ) (h : TM τ σ) (hD : D < 40) : gB (d + 7) mX9_weighOf [.ref 1, .int (nI D)] σ (QM τ σ (wbN τ D (NB τ)).1) := by
  have l16 := hw.2.2.2.1.2.1
  have hn := NB_le hw
  refine eX9_weighOf ((s_hidNow hw h).mono ?_)
  rintro _ σ1 ⟨rfl, g1, g2⟩
  refine ⟨_, rfl, (s_asTold (d := d + 1) hw g1).mono ?_⟩
  rintro _ σ3 ⟨rfl, k1, k2⟩
  refine ⟨rfl, ?_⟩
  -- the choice
  have fin : ∀ r : gw_S, r 1 2 = nI (NB τ) → TM τ r → FSc σ r → HM τ D (nA τ) r → gG (d + 6 + 1) mX9_weighOf 79 [some (.ref 1), none, some (.int (A_hid τ)), some (.int (-1)), some (.int 0), some (.int (nI 0)), none, none, none, none] [] r (QM τ σ (wbN τ D (NB τ)).1) := by
    intro r hb2 ht hf hh
    have e12 : r 1 12 = nI (nA τ) := by rw [ht.2 12 (by decide)]; exact hw.2.2.2.1.1
    have l79 : ∀ m b, b + m = NB τ → gG (d + 6 + 1) mX9_weighOf 79 [some (.ref 1), none, some (.int (A_hid τ)), some (.int (wbN τ D b).1), some (.int (nI (wbN τ D b).2)), some (.int (nI b)), none, none, none, none] [] r (QM τ σ (wbN τ D (NB τ)).1) := by
      intro m
      induction m with
      | zero =>
        intro b hb
        have : b = NB τ := by omega
        subst this
        refine bX9_weighOf_79 ?_
        rw [hb2]
        exact ⟨fun _ => ⟨rfl, ht, hf⟩, fun q => absurd (nI_le (Nat.le_refl _) (by omega)) q⟩
      | succ m ih =>
        intro b hb
        have nx := ih (b + 1) (by omega)
        have es : wbN τ D (b + 1) = wbS τ D b (wbN τ D b) := rfl
        have lw := wbN_le (D := D) l16 b
        rw [es] at nx
        refine bX9_weighOf_79 ?_
        rw [hb2]
        refine ⟨fun q => absurd q (nI_ge (by omega) (by omega)), fun _ => ?_⟩
        have l94 : ∀ y i, i + y = nA τ → gG (d + 6 + 1) mX9_weighOf 94 [some (.ref 1), none, some (.int (A_hid τ)), some (.int (wbN τ D b).1), some (.int (nI (wbN τ D b).2)), some (.int (nI b)), some (.int (nI (mx2 τ D b (nA τ) i))), some (.int (nI i)), none, none] [] r (QM τ σ (wbN τ D (NB τ)).1) := by
          intro y
          induction y with
          | zero =>
            intro i hi
            have : i = nA τ := by omega
            subst this
            have lm := mx2_le (τ := τ) (D := D) (b := b) (K := nA τ) (nA τ)
            have yes : ((wbN τ D b).1 = -1 ∨ mx2 τ D b (nA τ) (nA τ) < (wbN τ D b).2) → gG (d + 6 + 1) mX9_weighOf 215 [some (.ref 1), none, some (.int (A_hid τ)), some (.int (wbN τ D b).1), some (.int (nI (wbN τ D b).2)), some (.int (nI b)), some (.int (nI (mx2 τ D b (nA τ) (nA τ)))), none, none, none] [] r (QM τ σ (wbN τ D (NB τ)).1) := fun q => by
              unfold wbS at nx
              rw [if_pos q] at nx
              refine bX9_weighOf_215 ⟨fun z => absurd z (by decide), fun _ => ⟨fun z => absurd z (by decide), fun _ => ?_⟩⟩
              rw [nI_1]
              exact nx
            refine bX9_weighOf_94 ?_
            rw [e12, nI_leI (show (wbN τ D b).2 < 2 ^ 31 by omega) (show mx2 τ D b (nA τ) (nA τ) < 2 ^ 31 by omega), nI_1]
            refine ⟨fun _ => ⟨fun c => yes (Or.inl c), fun c => ⟨fun c2 => ⟨fun _ => ⟨fun _ => ?_, fun z => absurd rfl z⟩, fun z => absurd rfl z⟩, fun c2 => yes (Or.inr (by omega))⟩⟩, fun q => absurd (nI_le (Nat.le_refl _) (by omega)) q⟩
            unfold wbS at nx
            rw [if_neg (fun q => q.elim c (fun z => by omega))] at nx
            exact nx
          | succ y ihy =>
            intro i hi
            have hi2 : i < nA τ := by omega
            have nx2 := ihy (i + 1) (by omega)
            have em : mx2 τ D b (nA τ) (i + 1) = max (mx2 τ D b (nA τ) i) (cn2 τ D b i (nA τ)) := rfl
            rw [em] at nx2
            refine bX9_weighOf_94 ?_
            rw [e12]
            refine ⟨fun q => absurd q (nI_ge (by omega) (by omega)), fun _ => ?_⟩
            have l109 : ∀ u k, k + u = nA τ → gG (d + 6 + 1) mX9_weighOf 109 [some (.ref 1), none, some (.int (A_hid τ)), some (.int (wbN τ D b).1), some (.int (nI (wbN τ D b).2)), some (.int (nI b)), some (.int (nI (mx2 τ D b (nA τ) i))), some (.int (nI i)), some (.int (nI (cn2 τ D b i k))), some (.int (nI k))] [] r (QM τ σ (wbN τ D (NB τ)).1) := by
              intro u
              induction u with
              | zero =>
                intro k hk
                have : k = nA τ := by omega
                subst this
                have l1 := mx2_le (τ := τ) (D := D) (b := b) (K := nA τ) i
                have l2 := cn2_le (τ := τ) (D := D) (b := b) (i := i) (nA τ)
                refine bX9_weighOf_109 ?_
                rw [e12, nI_leI (show cn2 τ D b i (nA τ) < 2 ^ 31 by omega) (show mx2 τ D b (nA τ) i < 2 ^ 31 by omega), nI_1 i]
                refine ⟨fun _ => ⟨fun q => ?_, fun q => ?_⟩, fun q => absurd (nI_le (Nat.le_refl _) (by omega)) q⟩
                · rw [Nat.max_eq_left q] at nx2; exact nx2
                · rw [Nat.max_eq_right (by omega)] at nx2; exact nx2
              | succ u ihu =>
                intro k hk
                have hk2 : k < nA τ := by omega
                have nx3 := ihu (k + 1) (by omega)
                have ec : cn2 τ D b i (k + 1) = cn2 τ D b i k + (if eqC τ D b i k = true then 1 else 0) := rfl
                rw [ec] at nx3
                have no : ¬ eqC τ D b i k = true → gG (d + 6 + 1) mX9_weighOf 109 [some (.ref 1), none, some (.int (A_hid τ)), some (.int (wbN τ D b).1), some (.int (nI (wbN τ D b).2)), some (.int (nI b)), some (.int (nI (mx2 τ D b (nA τ) i))), some (.int (nI i)), some (.int (nI (cn2 τ D b i k))), some (.int (nI (k + 1)))] [] r (QM τ σ (wbN τ D (NB τ)).1) := fun q => by
                  rw [if_neg q, Nat.add_zero] at nx3
                  exact nx3
                refine bX9_weighOf_109 ?_
                rw [e12, nI_1 k, nI_1 (cn2 τ D b i k), Int32.add_zero, e8, e8, i_cl (show 8 * i + b < 2 ^ 31 by omega), i_cl (show 8 * k + b < 2 ^ 31 by omega)]
                refine ⟨fun q => absurd q (nI_ge (by omega) (by omega)), fun _ => gB_det s_isIn ⟨_, rfl, br_bj (fun c => ?_) (fun c => no (fun z => ?_))⟩⟩
                · have c' := (hb_iff hw (show i < 32 by omega)).mp c
                  refine gB_det s_isIn ⟨_, rfl, br_bj (fun c2 => ?_) (fun c2 => no (fun z => ?_))⟩
                  · have c2' := (hb_iff hw (show k < 32 by omega)).mp c2
                    have ee : eqC τ D b i k = true ↔ hld τ D i b = hld τ D k b := by
                      unfold eqC
                      rw [c', c2', Bool.true_and, Bool.true_and, decide_eq_true_iff]
                    rw [hh i b hi2 (by omega), hh k b hk2 (by omega)]
                    refine ⟨vp_in_nI (by omega) (by decide), vp_in_nI (by omega) (by decide), fun q => no (fun z => q (ee.mp z)), fun q => ?_⟩
                    rw [if_pos (ee.mpr q)] at nx3
                    exact nx3
                  · unfold eqC at z
                    rw [Bool.and_eq_true, Bool.and_eq_true] at z
                    exact c2 ((hb_iff hw (show k < 32 by omega)).mpr z.1.2)
                · unfold eqC at z
                  rw [Bool.and_eq_true, Bool.and_eq_true] at z
                  exact c ((hb_iff hw (show i < 32 by omega)).mpr z.1.1)
            exact l109 (nA τ) 0 (by omega)
        exact l94 (nA τ) 0 (by omega)
    exact l79 (NB τ) 0 (by omega)
  have key : ∀ m a (r : gw_S) (w : Int32), a + m = nA τ → AW τ w (-1) (-1) r → TM τ r → FSc σ r → HM τ D a r → gG (d + 6 + 1) mX9_weighOf 11 [some (.ref 1), some (.int (nI D)), some (.int (A_hid τ)), some (.int (nI a)), none, none, none, none, none, none] [] r (QM τ σ (wbN τ D (NB τ)).1) := by
    intro m
    induction m with
    | zero =>
      intro a r w ha q1 q2 q3 q4
      have : a = nA τ := by omega
      subst this
      refine bX9_weighOf_11 ?_
      rw [q2.2 12 (by decide), hw.2.2.2.1.1]
      exact ⟨fun _ => fin r q1.1.1 q2 q3 q4, fun q => absurd (nI_le (Nat.le_refl _) (by omega)) q⟩
    | succ m ih =>
      intro a r w ha q1 q2 q3 q4
      refine bX9_weighOf_11 ?_
      rw [q2.2 12 (by decide), hw.2.2.2.1.1]
      refine ⟨fun q => absurd q (nI_ge (by omega) (by omega)), fun _ s4 e4 => ?_⟩
      have a4 : AW τ (nI a) (-1) (-1) s4 := by rw [e4]; exact q1.w
      have fu : FM [] [32] r s4 := by rw [e4]; exact FM.u (by decide)
      have t4 := q2.frL fu (by decide) (by decide)
      have hr := a4.run hw t4 (Or.inl ⟨rfl, rfl⟩)
      refine (s_runs (d := d + 3) hD hr.1 hr.2).mono ?_
      rintro _ σ5 ⟨rfl, p1, p2⟩
      have p1' : MS (simG τ (nI a) (-1) (-1) (D + 1)) σ5 := p1
      refine ⟨rfl, ?_⟩
      have a5 := a4.fr p2.fm (by decide) (by decide) (by decide) (by decide)
      have t5 := t4.fr p2.sc
      have f5 := (q3.tr (fu.wk (by decide) (by decide))).tr p2.sc
      have l32 : ∀ y b (r : gw_S), b + y = NB τ → FM [167] [] σ5 r → HM τ D a r → (∀ b', b' < b → r 167 (8 * a + b') = hld τ D a b') → gG (d + 6 + 1) mX9_weighOf 32 [some (.ref 1), some (.int (nI D)), some (.int (A_hid τ)), some (.int (nI a)), some (.int (nI b)), none, none, none, none, none] [] r (QM τ σ (wbN τ D (NB τ)).1) := by
        intro y
        induction y with
        | zero =>
          intro b r hb hf hh hp
          have a6 := a5.fr hf (by decide) (by decide) (by decide) (by decide)
          refine bX9_weighOf_32 ?_
          rw [show r 1 2 = nI (NB τ) from a6.1.1, nI_1]
          refine ⟨fun _ => ih (a + 1) r (nI a) (by omega) a6 (t5.frL hf (by decide) (by decide)) (f5.tr (hf.wk (by decide) (by decide))) (fun a' b' z1 z2 => ?_), fun q => absurd (nI_le (by omega) (by omega)) q⟩
          by_cases e : a' = a
          · rw [e]; exact hp b' (by omega)
          · exact hh a' b' (by omega) z2
        | succ y ihy =>
          intro b r hb hf hh hp
          have a6 := a5.fr hf (by decide) (by decide) (by decide) (by decide)
          have m6 : MS (simG τ (nI a) (-1) (-1) (D + 1)) r := by
            unfold MS at p1' ⊢
            rw [hf.1 155 (by decide) (by decide), hf.1 156 (by decide) (by decide), hf.1 157 (by decide) (by decide), hf.1 158 (by decide) (by decide), hf.1 161 (by decide) (by decide), hf.1 162 (by decide) (by decide), hf.1 160 (by decide) (by decide), hf.2 30 (by decide), hf.2 31 (by decide)]
            exact p1'
          refine bX9_weighOf_32 ?_
          rw [show r 1 2 = nI (NB τ) from a6.1.1, nI_1 b, e8, i_cl (show 8 * a + b < 2 ^ 31 by omega)]
          refine ⟨fun q => absurd q (nI_ge (by omega) (by omega)), fun _ => gB_det (s_allInM (show b < 8 by omega) m6) ⟨_, rfl, vp_in_nI (by omega) (by decide), fun s8 q8 => ihy (b + 1) s8 (by omega) ?_ ?_ ?_⟩⟩
          · rw [q8]; exact hf.tr (FM.u (Or.inl (by decide)))
          · intro a' b' z1 z2
            rw [q8, gw_nj (by omega)]; exact hh a' b' z1 z2
          · intro b' z
            rw [q8, gw_at]
            by_cases e : b' = b
            · rw [if_pos ⟨rfl, by rw [e]⟩, e]; rfl
            · rw [if_neg (fun q => e (by omega))]; exact hp b' (by omega)
      refine l32 (NB τ) 0 σ5 (by omega) FM.rf (fun a' b' z1 z2 => ?_) (fun b' z => by omega)
      rw [p2.fm.1 167 (by decide) (by decide), fu.1 167 (by decide) (by decide)]
      exact q4 a' b' z1 z2
  exact key (nA τ) 0 σ3 (-1) (by omega) k1.aw (g1.frL k2 (by decide) (by decide)) (g2.tr (k2.wk (by decide) (by decide))) (fun a b z => by omega)
theorem m_weigh {d : Nat} {day : Int32} {τ σ : gw_S} (hw : WF τ) (h : TM τ σ) : gB (d + 8) mX9_weigh [.ref 1, .int day] σ (QM τ σ (A_weigh τ day)) := by
  refine eX9_weigh (gB_det s_isDay2 ⟨_, rfl, br_bj (fun h1 => ?_) (fun h1 => QM.bad h FM.rf (by rw [A_weigh, if_neg h1]))⟩)
  obtain ⟨D, hD, rfl⟩ := okD_n h1
  refine (s_weighOf hw h hD).mono ?_
  rintro _ σ1 ⟨rfl, g1, g2⟩
  exact ⟨_, rfl, by rw [A_weigh, if_pos h1, i_cl (show D < 2 ^ 31 by omega)], g1, g2⟩
