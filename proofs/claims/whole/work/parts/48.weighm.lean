/-! what was weighed, in the model -/
def AW (τ : gw_S) (w o t : Int32) (σ : gw_S) : Prop := PMt τ σ ∧ σ 1 32 = w ∧ σ 1 33 = o ∧ σ 1 34 = t ∧ σ 1 17 = 0 ∧ σ 1 19 = 0 ∧ ∀ d, d < 40 → σ 159 d = bi (hotF τ d = true)
theorem AT.aw {τ σ : gw_S} (h : AT τ σ) : AW τ (-1) (-1) (-1) σ := h
theorem AW.run {τ σ : gw_S} {w o t : Int32} (hw : WF τ) (ht : TM τ σ) (h : AW τ w o t σ) (hs : okSw o t (NB τ)) : okRun (Pt τ w o t) o t σ ∧ okStk (NB τ) o t (Vt τ o t) (Mt τ o t) (Ct τ o t) σ := by
  obtain ⟨hp, h1, h2, h3, h4, h5, h6⟩ := h
  exact mkRun hw ht hp h1 h2 h3 hs h6 ⟨h4, by omega, fun k hk => by omega⟩ ⟨0, by omega, h5, fun d hd => ⟨fun q => by omega, fun _ => rfl⟩⟩
theorem AW.fr {τ σ σ' : gw_S} {w o t : Int32} {L J : List Nat} (h : AW τ w o t σ) (hf : FM L J σ σ') (hL : 142 ∉ L ∧ 143 ∉ L ∧ 144 ∉ L ∧ 145 ∉ L ∧ 146 ∉ L) (hL2 : 159 ∉ L) (hJ : 2 ∉ J ∧ 7 ∉ J) (hJ2 : 32 ∉ J ∧ 33 ∉ J ∧ 34 ∉ J ∧ 17 ∉ J ∧ 19 ∉ J) : AW τ w o t σ' := by
  obtain ⟨hp, h1, h2, h3, h4, h5, h6⟩ := h
  refine ⟨hp.fr hf hL hJ, by rw [hf.2 32 hJ2.1]; exact h1, by rw [hf.2 33 hJ2.2.1]; exact h2, by rw [hf.2 34 hJ2.2.2.1]; exact h3, by rw [hf.2 17 hJ2.2.2.2.1]; exact h4, by rw [hf.2 19 hJ2.2.2.2.2]; exact h5, ?_⟩
  rw [hf.1 159 (by decide) hL2]
  exact h6
theorem AW.w {τ σ : gw_S} {w w' o t : Int32} (h : AW τ w o t σ) : AW τ w' o t (gw_u σ 1 32 w') := by
  obtain ⟨hp, h1, h2, h3, h4, h5, h6⟩ := h
  refine ⟨hp.fr (L := []) (J := [32]) (FM.u (by decide)) (by decide) (by decide), gw_self, by rw [gw_nj (by decide)]; exact h2, by rw [gw_nj (by decide)]; exact h3, by rw [gw_nj (by decide)]; exact h4, by rw [gw_nj (by decide)]; exact h5, by rw [gw_ne (by decide)]; exact h6⟩
theorem AW.ot {τ σ : gw_S} {w o t o' t' : Int32} (h : AW τ w o t σ) : AW τ w o' t' (gw_u (gw_u σ 1 33 o') 1 34 t') := by
  obtain ⟨hp, h1, h2, h3, h4, h5, h6⟩ := h
  refine ⟨(hp.fr (L := []) (J := [33]) (FM.u (by decide)) (by decide) (by decide)).fr (L := []) (J := [34]) (FM.u (by decide)) (by decide) (by decide), ?_, ?_, gw_self, ?_, ?_, ?_⟩
  · rw [gw_nj (by decide), gw_nj (by decide)]; exact h1
  · rw [gw_nj (by decide), gw_self]
  · rw [gw_nj (by decide), gw_nj (by decide)]; exact h4
  · rw [gw_nj (by decide), gw_nj (by decide)]; exact h5
  · rw [gw_ne (by decide), gw_ne (by decide)]; exact h6
def agMP (τ S : gw_S) (D k : Nat) : Bool := decide (¬ nI (NB τ) ≤ τ 165 k ∧ (τ 164 k = nI D → alI S (τ 165 k).toNatClampNeg = τ 166 k))
def agM (τ S : gw_S) (D : Nat) : Bool := alB (agMP τ S D) (nW τ)
theorem cOut_m {τ : gw_S} {w o t : Int32} (hw : WF τ) : alB (fun D => agM τ (simG τ w o t (D + 1)) D) 40 = true ↔ cOut τ w o t = true := by
  unfold cOut
  rw [alB_iff, alB_iff]
  constructor
  · intro h D hD
    refine alB_iff.mpr (fun k hk => ?_)
    have := alB_iff.mp (h D hD) k hk
    unfold agMP at this
    unfold agP
    rw [decide_eq_true_iff] at this ⊢
    exact fun e => ⟨this.1, this.2 e⟩
  · intro h D hD
    refine alB_iff.mpr (fun k hk => ?_)
    obtain ⟨⟨D2, hD2, e2⟩, -⟩ := hw.2.2.2.2.1.2.2 k hk
    have a1 := alB_iff.mp (h D hD) k hk
    have a2 := alB_iff.mp (h D2 hD2) k hk
    unfold agP at a1 a2
    unfold agMP
    rw [decide_eq_true_iff] at a1 a2 ⊢
    exact ⟨(a2 e2).1, fun e => (a1 e).2⟩
theorem s_isWeighed {d : Nat} {w o t : Int32} {τ σ : gw_S} (hw : WF τ) (ht : TM τ σ) (ha : AW τ w o t σ) (hs : okSw o t (NB τ)) : gB (d + 3) mX9_isWeighed [.ref 1] σ (fun v σ' => v = some (.int (bi (cOut τ w o t = true))) ∧ FRs σ σ') := by
  have hn := NB_le hw
  obtain ⟨w1, w2, w3⟩ := hw.2.2.2.2.1
  have hr := ha.run hw ht hs
  refine eX9_isWeighed ((s_begins (d := d + 1) hn hs ha.1.1 ha.2.2.1 ha.2.2.2.1 hr.2).mono ?_)
  rintro _ σ1 ⟨rfl, g1, g2⟩
  refine ⟨rfl, ?_⟩
  have sm : ∀ D, simG τ w o t (D + 1) = sDay (Pt τ w o t) D (simG τ w o t D) := fun D => rfl
  have key : ∀ m D (r : gw_S) (x : Int32), D + m = 40 → FRs σ r → MS (simG τ w o t D) r → x = bi (alB (fun D => agM τ (simG τ w o t (D + 1)) D) D = true) → gG (d + 2 + 1) mX9_isWeighed 8 [some (.ref 1), some (.int x), some (.int (nI D)), none] [] r (fun v σ' => v = some (.int (bi (cOut τ w o t = true))) ∧ FRs σ σ') := by
    intro m
    induction m with
    | zero =>
      intro D r x hD hf hm hx
      have : D = 40 := by omega
      subst this
      refine bX9_isWeighed_8 ⟨fun _ => ⟨by rw [hx]; exact bi_nar, by rw [hx]; exact bi_sm (cOut_m hw), hf⟩, fun q => absurd (by decide) q⟩
    | succ m ih =>
      intro D r x hD hf hm hx
      refine bX9_isWeighed_8 ⟨fun q => absurd q (nI_ge (b := 40) (by omega) (by decide)), fun _ => ⟨fun c => ⟨by rw [hx]; exact bi_nar, ?_, hf⟩, fun c => ?_⟩⟩
      · rw [hx, bi_0] at c
        have : ¬ cOut τ w o t = true := fun q => c (alB_iff.mpr (fun i hi => alB_iff.mp ((cOut_m hw).mpr q) i (by omega)))
        rw [hx, bi_f c, bi_f this]
      · have c1 : alB (fun D => agM τ (simG τ w o t (D + 1)) D) D = true := by
          rw [hx, bi_0] at c
          exact Classical.not_not.mp c
        refine (s_goesBy (d := d) (show D < 40 by omega) (hr.1.fr hf) hm).mono ?_
        rintro _ σ2 ⟨rfl, p1, p2⟩
        refine ⟨rfl, ?_⟩
        have f2 := hf.tr p2
        have t2 := ht.frL f2.fm (by decide) (by decide)
        have b2 : σ2 1 2 = nI (NB τ) := by rw [f2.fm.2 2 (by decide)]; exact ha.1.1
        have i25 : ∀ y k (x : Int32), k + y = nW τ → x = bi (alB (agMP τ (simG τ w o t (D + 1)) D) k = true) → gG (d + 2 + 1) mX9_isWeighed 25 [some (.ref 1), some (.int x), some (.int (nI D)), some (.int (nI k))] [] σ2 (fun v σ' => v = some (.int (bi (cOut τ w o t = true))) ∧ FRs σ σ') := by
          intro y
          induction y with
          | zero =>
            intro k x hk hx
            have : k = nW τ := by omega
            subst this
            refine bX9_isWeighed_25 ?_
            rw [t2.2 36 (by decide), w1, nI_1]
            refine ⟨fun _ => ih (D + 1) σ2 x (by omega) f2 p1 ?_, fun q => absurd (nI_le (Nat.le_refl _) (by omega)) q⟩
            rw [hx]
            refine bi_congr ?_
            show agM τ (simG τ w o t (D + 1)) D = true ↔ (alB (fun D => agM τ (simG τ w o t (D + 1)) D) D && agM τ (simG τ w o t (D + 1)) D) = true
            rw [c1, Bool.true_and]
          | succ y ihy =>
            intro k x hk hx
            have hk2 : k < nW τ := by omega
            obtain ⟨-, ⟨B, hB, eB⟩, -⟩ := w3 k hk2
            have vi : vp_in (nI k) 8 := vp_in_nI (by omega) (by decide)
            have eal : alB (agMP τ (simG τ w o t (D + 1)) D) (k + 1) = (alB (agMP τ (simG τ w o t (D + 1)) D) k && agMP τ (simG τ w o t (D + 1)) D k) := rfl
            refine bX9_isWeighed_25 ?_
            rw [t2.2 36 (by decide), w1, i_cl (show k < 2 ^ 31 by omega), t2.1 164 (by decide), t2.1 165 (by decide), b2, nI_1 k]
            refine ⟨fun q => absurd q (nI_ge (by omega) (by omega)), fun _ => ⟨fun c3 => ?_, fun c3 => ⟨vi, ?_⟩⟩⟩
            · rw [hx, bi_0] at c3
              refine ihy (k + 1) 0 (by omega) ?_
              rw [bi_f]
              rw [eal, Bool.and_eq_true]
              exact fun q => c3 q.1
            · have c4 : alB (agMP τ (simG τ w o t (D + 1)) D) k = true := by
                rw [hx, bi_0] at c3
                exact Classical.not_not.mp c3
              have n0 : ¬ agMP τ (simG τ w o t (D + 1)) D k = true → gG (d + 2 + 1) mX9_isWeighed 25 [some (.ref 1), some (.int 0), some (.int (nI D)), some (.int (nI (k + 1)))] [] σ2 (fun v σ' => v = some (.int (bi (cOut τ w o t = true))) ∧ FRs σ σ') := fun q => ihy (k + 1) 0 (by omega) (by rw [bi_f]; rw [eal, Bool.and_eq_true]; exact fun z => q z.2)
              have n1 : agMP τ (simG τ w o t (D + 1)) D k = true → gG (d + 2 + 1) mX9_isWeighed 25 [some (.ref 1), some (.int 1), some (.int (nI D)), some (.int (nI (k + 1)))] [] σ2 (fun v σ' => v = some (.int (bi (cOut τ w o t = true))) ∧ FRs σ σ') := fun q => ihy (k + 1) 1 (by omega) (by rw [bi_t]; rw [eal, c4, q]; rfl)
              have eag : agMP τ (simG τ w o t (D + 1)) D k = true ↔ (¬ nI (NB τ) ≤ τ 165 k ∧ (τ 164 k = nI D → alI (simG τ w o t (D + 1)) B = τ 166 k)) := by
                unfold agMP
                rw [decide_eq_true_iff, eB, i_cl (show B < 2 ^ 31 by omega)]
              refine ⟨fun c5 => n0 (fun q => (eag.mp q).1 c5), fun c5 => ⟨vi, fun c6 => n1 (eag.mpr ⟨c5, fun q => absurd q c6⟩), fun c6 => ⟨vi, ?_⟩⟩⟩
              rw [eB]
              refine gB_det (s_allInM hB p1) ⟨_, rfl, vi, ?_⟩
              rw [t2.1 166 (by decide)]
              exact ⟨fun z => n0 (fun q => z ((eag.mp q).2 c6)), fun z => n1 (eag.mpr ⟨c5, fun _ => z⟩)⟩
        rw [hx, bi_t c1]
        exact i25 (nW τ) 0 1 (by omega) (by rw [bi_t]; rfl)
  exact key 40 0 σ1 1 (by omega) g2 g1 (by rw [bi_t]; rfl)
theorem FRs.sc {σ σ' : gw_S} (h : FRs σ σ') : FSc σ σ' := h.fm.wk (by decide) (by decide)
theorem s_hidNow {d : Nat} {τ σ : gw_S} (hw : WF τ) (h : TM τ σ) : gB (d + 6) mX9_hidNow [.ref 1] σ (QM τ σ (A_hid τ)) := by
  have l16 := hw.2.2.2.1.2.1
  refine eX9_hidNow ((s_asTold hw h).mono ?_)
  rintro _ σ1 ⟨rfl, k1, k2⟩
  refine ⟨rfl, ?_⟩
  have key : ∀ m a (r : gw_S) (w : Int32), a + m = nA τ → AW τ w (-1) (-1) r → TM τ r → FSc σ r → gG (d + 5 + 1) mX9_hidNow 8 [some (.ref 1), some (.int (orN (hiG τ) a)), some (.int (nI a))] [] r (QM τ σ (A_hid τ)) := by
    intro m
    induction m with
    | zero =>
      intro a r w ha k1 k2 k3
      have : a = nA τ := by omega
      subst this
      refine bX9_hidNow_8 ?_
      rw [k2.2 12 (by decide), hw.2.2.2.1.1]
      exact ⟨fun _ => ⟨rfl, k2, k3⟩, fun q => absurd (nI_le (Nat.le_refl _) (by omega)) q⟩
    | succ m ih =>
      intro a r w ha k1 k2 k3
      refine bX9_hidNow_8 ?_
      rw [k2.2 12 (by decide), hw.2.2.2.1.1, nI_1]
      refine ⟨fun q => absurd q (nI_ge (by omega) (by omega)), fun _ s2 q2 => ?_⟩
      have a2 : AW τ (nI a) (-1) (-1) s2 := by rw [q2]; exact k1.w
      have fu : FM [] [32] r s2 := by rw [q2]; exact FM.u (by decide)
      have t2 := k2.frL fu (by decide) (by decide)
      refine (s_isWeighed (d := d + 2) hw t2 a2 (Or.inl ⟨rfl, rfl⟩)).mono ?_
      rintro _ σ3 ⟨rfl, p⟩
      have nx := ih (a + 1) σ3 (nI a) (by omega) (a2.fr p.fm (by decide) (by decide) (by decide) (by decide)) (t2.fr p.sc) ((k3.tr (fu.wk (by decide) (by decide))).tr p.sc)
      have eo : orN (hiG τ) (a + 1) = orN (hiG τ) a ||| hiG τ a := rfl
      rw [eo] at nx
      refine ⟨_, rfl, br_bj (fun c => ?_) (fun c => ?_)⟩
      · unfold hiG at nx
        rw [if_pos c] at nx
        exact nx
      · have e0 : hiG τ a = 0 := by unfold hiG; rw [if_neg c]
        rw [e0] at nx
        exact nx
  exact key (nA τ) 0 σ1 (-1) (by omega) k1.aw (h.frL k2 (by decide) (by decide)) (k2.wk (by decide) (by decide))
theorem m_hid {d : Nat} {τ σ : gw_S} (hw : WF τ) (h : TM τ σ) : gB (d + 7) mX9_hid [.ref 1] σ (QM τ σ (A_hid τ)) := by
  refine eX9_hid ((s_hidNow hw h).mono ?_)
  rintro _ σ1 ⟨rfl, g1, g2⟩
  exact ⟨_, rfl, rfl, g1, g2⟩
theorem s_swappedOf {d : Nat} {w : Int32} {τ σ : gw_S} (hw : WF τ) (h : TM τ σ) : gB (d + 6) mX9_swappedOf [.ref 1, .int w] σ (QM τ σ (if w = 0 then (swO τ (NB τ) 0 (0, -1)).1 else (swO τ (NB τ) 0 (0, -1)).2)) := by
  have hn := NB_le hw
  refine eX9_swappedOf ((s_asTold hw h).mono ?_)
  rintro _ σ1 ⟨rfl, k1, k2⟩
  refine ⟨rfl, ?_⟩
  have ou : ∀ m a q (r : gw_S) (o t : Int32), a + m = NB τ → AW τ (-1) o t r → TM τ r → FSc σ r → swO τ (NB τ) 0 (0, -1) = swO τ m a q → gG (d + 5 + 1) mX9_swappedOf 11 [some (.ref 1), some (.int w), some (.int q.1), some (.int q.2), some (.int (nI a)), none, none] [] r (QM τ σ (if w = 0 then (swO τ (NB τ) 0 (0, -1)).1 else (swO τ (NB τ) 0 (0, -1)).2)) := by
    intro m
    induction m with
    | zero =>
      intro a q r o t ha k1 k2 k3 e
      refine bX9_swappedOf_11 ?_
      rw [show r 1 2 = nI (NB τ) from k1.1.1]
      refine ⟨fun _ => ⟨fun c => ⟨?_, k2, k3⟩, fun c => ⟨?_, k2, k3⟩⟩, fun q => absurd (nI_le (by omega) (by omega)) q⟩
      · rw [if_neg c, e]; rfl
      · rw [if_pos c, e]; rfl
    | succ m ih =>
      intro a q r o t ha k1 k2 k3 e
      refine bX9_swappedOf_11 ?_
      rw [show r 1 2 = nI (NB τ) from k1.1.1, nI_1]
      refine ⟨fun z => absurd z (nI_ge (by omega) (by omega)), fun _ => ?_⟩
      have i : ∀ y b q2 (r : gw_S) (o t : Int32), b + y = NB τ → a < b → AW τ (-1) o t r → TM τ r → FSc σ r → swI τ a (NB τ - (a + 1)) (a + 1) q = swI τ a y b q2 → gG (d + 5 + 1) mX9_swappedOf 26 [some (.ref 1), some (.int w), some (.int q2.1), some (.int q2.2), some (.int (nI a)), some (.int (nI b)), none] [] r (QM τ σ (if w = 0 then (swO τ (NB τ) 0 (0, -1)).1 else (swO τ (NB τ) 0 (0, -1)).2)) := by
        intro y
        induction y with
        | zero =>
          intro b q2 r o t hb hab k1 k2 k3 e2
          refine bX9_swappedOf_26 ?_
          rw [show r 1 2 = nI (NB τ) from k1.1.1, nI_1 a]
          refine ⟨fun _ => ih (a + 1) q2 r o t (by omega) k1 k2 k3 ?_, fun z => absurd (nI_le (by omega) (by omega)) z⟩
          rw [e]
          show swO τ m (a + 1) (swI τ a (NB τ - (a + 1)) (a + 1) q) = _
          rw [e2]
          rfl
        | succ y ihy =>
          intro b q2 r o t hb hab k1 k2 k3 e2
          refine bX9_swappedOf_26 ?_
          rw [show r 1 2 = nI (NB τ) from k1.1.1, nI_1 b, e8]
          refine ⟨fun z => absurd z (nI_ge (by omega) (by omega)), fun _ s2 q2' s3 q3 => ?_⟩
          have a3 : AW τ (-1) (nI a) (nI b) s3 := by rw [q3, q2']; exact k1.ot
          have fu : FM [] [33, 34] r s3 := by rw [q3, q2']; exact (FM.u (by decide)).tr (FM.u (by decide))
          have t3 := k2.frL fu (by decide) (by decide)
          refine (s_isWeighed (d := d + 2) hw t3 a3 (Or.inr ⟨a, b, by omega, by omega, rfl, rfl⟩)).mono ?_
          rintro _ σ4 ⟨rfl, p⟩
          have a4 := a3.fr p.fm (by decide) (by decide) (by decide) (by decide)
          have t4 := t3.fr p.sc
          have f4 := (k3.tr (fu.wk (by decide) (by decide))).tr p.sc
          have st : swI τ a (y + 1) b q2 = swI τ a y (b + 1) (if cOut τ (-1) (nI a) (nI b) = true then (q2.1 + 1, if q2.2 = -1 then nI (8 * a + b) else q2.2) else q2) := rfl
          rw [st] at e2
          refine ⟨_, rfl, br_bj (fun c => ?_) (fun c => ?_)⟩
          · rw [if_pos c] at e2
            refine br_bj (fun _ => ⟨fun c2 => ?_, fun c2 => ?_⟩) (fun z => absurd c z)
            · rw [if_neg c2] at e2
              exact ihy (b + 1) (q2.1 + 1, q2.2) σ4 _ _ (by omega) (by omega) a4 t4 f4 e2
            · rw [if_pos c2] at e2
              exact ihy (b + 1) (q2.1 + 1, nI (8 * a + b)) σ4 _ _ (by omega) (by omega) a4 t4 f4 e2
          · rw [if_neg c] at e2
            refine br_bj (fun z => absurd z c) (fun _ => ?_)
            rw [Int32.add_zero]
            exact ihy (b + 1) q2 σ4 _ _ (by omega) (by omega) a4 t4 f4 e2
      exact i (NB τ - (a + 1)) (a + 1) q r o t (by omega) (by omega) k1 k2 k3 rfl
  exact ou (NB τ) 0 (0, -1) σ1 (-1) (-1) (by omega) k1.aw (h.frL k2 (by decide) (by decide)) (k2.wk (by decide) (by decide)) rfl
theorem m_swapped {d : Nat} {w : Int32} {τ σ : gw_S} (hw : WF τ) (h : TM τ σ) : gB (d + 7) mX9_swapped [.ref 1, .int w] σ (QM τ σ (A_swapped τ w)) := by
  refine eX9_swapped (gB_det s_in ?_)
  rw [bi_congr (by rw [lt_k (c := 1) (c' := 2) (by decide)] : (0 ≤ w ∧ w ≤ 1) ↔ okT w)]
  refine ⟨_, rfl, br_bj (fun h1 => ?_) (fun h1 => QM.bad h FM.rf (by rw [A_swapped, if_neg h1]))⟩
  refine (s_swappedOf hw h).mono ?_
  rintro _ σ1 ⟨rfl, g1, g2⟩
  exact ⟨_, rfl, by rw [A_swapped, if_pos h1], g1, g2⟩
