theorem gB.mono' {d d2 : Nat} {M : gw_M} {vs : List Value} {σ : gw_S} {Q Q' : Option Value → gw_S → Prop} (h : gB d M vs σ Q) (e : d = d2) (hq : ∀ v σ', Q v σ' → Q' v σ') : gB d2 M vs σ Q' := e ▸ h.mono hq
def ntT (τ : gw_S) (i : Nat) : Nat := (g0 τ i - 97).toNatClampNeg
theorem ntT_ok {τ : gw_S} (hw : WF τ) {i : Nat} (hi : i < NL τ) : g0 τ i - 97 = nI (ntT τ i) ∧ ntT τ i < 8 := by
  obtain ⟨m, hm, e⟩ := let_n (nLe_in (by have := hw.1.2.2.2; omega) hi)
  unfold ntT
  rw [e, i_cl (show m < 2 ^ 31 by omega)]
  exact ⟨rfl, hm⟩
abbrev spT (τ S : gw_S) : Nat → Nat → Nat := spL S (NB τ) (ntT τ)
theorem mkMSo {τ S σ : gw_S} (hw : WF τ) (hp : PMt τ σ) (hm : MS S σ) (hv : VB (NB τ) S) : MSo S (NB τ) (NL τ) (ntT τ) σ :=
  ⟨hp.1, NB_le hw, hp.2.2.1, NL_le hw, hm, fun i hi => ⟨by rw [hp.2.2.2 i hi]; exact (ntT_ok hw hi).1, (ntT_ok hw hi).2⟩, hv⟩
theorem simVB {τ : gw_S} (hw : WF τ) (k : Nat) : VB (NB τ) (simT τ k) := runVB hw (Or.inl ⟨rfl, rfl⟩) rfl k
def A_sing (τ : gw_S) (day i : Int32) : Int32 := if okD day ∧ (i = -1 ∨ okE i) then aSing (spT τ (simT τ (day.toNatClampNeg + 1))) (NL τ) i else -2
theorem FM.c163 {σ σ' : gw_S} (h : FM [163] [] σ σ') : FSc σ σ' := h.wk (by decide) (by decide)
theorem s_singOf {d D : Nat} {i : Int32} {τ σ : gw_S} (hw : WF τ) (h : TM τ σ) (hD : D < 40) (hi : i = -1 ∨ okE i) : gB (d + 7) mX9_singOf [.ref 1, .int (nI D), .int i] σ (QM τ σ (aSing (spT τ (simT τ (D + 1))) (NL τ) i)) := by
  refine eX9_singOf ((s_runsTold hw h hD).mono ?_)
  rintro _ σ1 ⟨rfl, k1, k2, k3⟩
  have ms := mkMSo hw k2.1 k1 (simVB hw (D + 1))
  refine ⟨rfl, (s_lays (d := d + 4) ms).mono ?_⟩
  rintro _ σ2 ⟨rfl, g1, g2⟩
  have k4 := k3.tr g2.c163
  have kt := h.fr k4
  have lr : lsF (spT τ (simT τ (D + 1))) (NL τ) (NL τ) 0 ≤ 1000000 := lsF_le
  refine ⟨_, rfl, fun c => ⟨?_, kt, k4⟩, fun c => ⟨fun c2 => ?_, fun c2 => ⟨?_, kt, k4⟩⟩⟩
  · show some (Value.int (aLays (spT τ (simT τ (D + 1))) (NL τ))) = _
    unfold aLays aSing
    rw [if_pos c]
  · have hl : lsF (spT τ (simT τ (D + 1))) (NL τ) (NL τ) 0 < 1000000 := by
      by_cases q : lsF (spT τ (simT τ (D + 1))) (NL τ) (NL τ) 0 < 1000000
      · exact q
      · exact absurd (if_neg q) c2
    obtain ⟨I, hI, rfl⟩ := okE_n (hi.resolve_left c)
    refine (l_sing (d := d + 5) (ms.fr g2) g1 hl hI (min (I + 1) (NL τ)) 0 (-1) (by omega) (fun q => by omega)).mono ?_
    rintro _ σ3 ⟨rfl, rfl⟩
    refine ⟨?_, kt, k4⟩
    rw [aSing, if_pos hl, if_neg c, i_cl (show I < 2 ^ 31 by omega)]
  · have hl : ¬ lsF (spT τ (simT τ (D + 1))) (NL τ) (NL τ) 0 < 1000000 := fun q => by
      have c3 : aLays (spT τ (simT τ (D + 1))) (NL τ) = -1 := c2
      rw [aLays, if_pos q] at c3
      exact nI_ne_m1 (by omega) c3
    rw [c2, aSing, if_neg hl]
theorem m_sing {d : Nat} {day i : Int32} {τ σ : gw_S} (hw : WF τ) (h : TM τ σ) : gB (d + 8) mX9_sing [.ref 1, .int day, .int i] σ (QM τ σ (A_sing τ day i)) := by
  have bad : ¬ (okD day ∧ (i = -1 ∨ okE i)) → A_sing τ day i = -2 := fun c => by rw [A_sing, if_neg c]
  refine eX9_sing (gB_det s_isDay2 ⟨_, rfl, br_bj (fun h1 => ?_) (fun h1 => QM.bad h FM.rf (bad (fun q => h1 q.1)))⟩)
  refine gB_det s_inE1 ⟨_, rfl, br_bj (fun h2 => ?_) (fun h2 => QM.bad h FM.rf (bad (fun q => h2 q.2)))⟩
  obtain ⟨D, hD, rfl⟩ := okD_n h1
  refine (s_singOf hw h hD h2).mono ?_
  rintro _ σ2 ⟨rfl, g1, g2⟩
  exact ⟨_, rfl, by rw [A_sing, if_pos ⟨h1, h2⟩, i_cl (show D < 2 ^ 31 by omega)], g1, g2⟩
/-! the song, in the class -/
def MEM (sp : Nat → Nat → Nat) (L : Nat) (σ : gw_S) : Prop := ∀ u, u < 256 → σ 21 u = -1 ∨ σ 21 u = nI (lsF sp L (L - pcN u 8) u)
def OTH (sp : Nat → Nat → Nat) (L : Nat) (σ : gw_S) : Prop := σ 17 4 = nI L ∧ L ≤ 8 ∧ ∀ i b, i < L → b < 8 → σ 20 (8 * i + b) = nI (sp i b) ∧ sp i b ≤ 1000000
def FL (σ σ' : gw_S) : Prop := ∀ k, k ≠ 21 → σ' k = σ k
theorem OTH.fl {sp : Nat → Nat → Nat} {L : Nat} {σ σ' : gw_S} (h : OTH sp L σ) (hf : FL σ σ') : OTH sp L σ' := by
  unfold OTH at h ⊢
  rw [hf 17 (by decide), hf 20 (by decide)]
  exact h
theorem s_isFree {d i b s L : Nat} {sp : Nat → Nat → Nat} {σ : gw_S} (h : OTH sp L σ) (hi : i < L) (hb : b < 8) (hs : s < 256) : gB d mX2_isFree [.ref 17, .int (nI s), .int (nI i), .int (nI b)] σ (fun v σ' => v = some (.int (bi (s.testBit b = false ∧ sp i b < 1000000))) ∧ σ' = σ) := by
  obtain ⟨e, l⟩ := h.2.2 i b hi hb
  have hL := h.2.1
  refine eX2_isFree ?_
  rw [bit_bi (by omega), bi_0, tbn (by omega) (by omega), e8, i_cl (show 8 * i + b < 2 ^ 31 by omega), e, e6, nI_leI (by omega) (by omega)]
  refine ⟨fun c => ⟨?_, rfl⟩, fun c => ⟨vp_in_nI (by omega) (by decide), fun c2 => ⟨?_, rfl⟩, fun c2 => ⟨?_, rfl⟩⟩⟩
  · rw [bi_f (fun q => c (by rw [q.1]; decide))]
  · rw [bi_f (fun q => by omega)]
  · rw [bi_t ⟨by simpa using c, by omega⟩]
theorem s_least {sp : Nat → Nat → Nat} {L : Nat} : ∀ (m d i s : Nat) (σ : gw_S), i + m = L → s < 256 → pcN s 8 = i → OTH sp L σ → MEM sp L σ → gB (d + m + 1) mX2_leastFrom [.ref 17, .int (nI s), .int (nI i)] σ (fun v σ' => v = some (.int (nI (lsF sp L m s))) ∧ MEM sp L σ' ∧ FL σ σ') := by
  intro m
  induction m with
  | zero =>
    intro d i s σ hi hs hp ho hm
    have hL := ho.2.1
    refine eX2_leastFrom ?_
    rw [ho.1, show i = L by omega]
    exact ⟨fun c => absurd c (nI_nlt (Nat.le_refl _) (by omega)), fun _ => ⟨rfl, hm, fun _ _ => rfl⟩⟩
  | succ m ih =>
    intro d i s σ hi hs hp ho hm
    have hL := ho.2.1
    have vs : vp_in (nI s) 256 := vp_in_nI hs (by decide)
    have em : L - pcN s 8 = m + 1 := by omega
    refine eX2_leastFrom ?_
    rw [ho.1, i_cl (show s < 2 ^ 31 by omega)]
    refine ⟨fun _ => ⟨vs, fun c => ?_, fun c => ⟨vs, ?_, hm, fun _ _ => rfl⟩⟩, fun c => absurd (nI_lt (by omega) (by omega)) c⟩
    · have key : ∀ k b (r : gw_S), b + k = 8 → MEM sp L r → FL σ r → gG (d + (m + 1) + 1) mX2_leastFrom 33 [some (.ref 17), some (.int (nI s)), some (.int (nI i)), some (.int (nI (miN (lsG sp L m s) b))), some (.int (nI b))] [] r (fun v σ' => v = some (.int (nI (lsF sp L (m + 1) s))) ∧ MEM sp L σ' ∧ FL σ σ') := by
        intro k
        induction k with
        | zero =>
          intro b r hb k1 k2
          have : b = 8 := by omega
          subst this
          refine bX2_leastFrom_33 ?_
          rw [i_cl (show s < 2 ^ 31 by omega)]
          refine ⟨fun _ => ⟨vs, fun s1 q1 => ⟨rfl, fun u hu => ?_, fun k hk => by rw [q1, gw_ne hk]; exact k2 k hk⟩⟩, fun q => absurd (by decide) q⟩
          rw [q1, gw_at]
          by_cases e : u = s
          · rw [if_pos ⟨rfl, e⟩, e, em]
            exact Or.inr rfl
          · rw [if_neg (fun q => e q.2)]
            exact k1 u hu
        | succ k ihk =>
          intro b r hb k1 k2
          have hb8 : b < 8 := by omega
          have hr := ho.fl k2
          have lb := miN_le (g := lsG sp L m s) b
          have emn : miN (lsG sp L m s) (b + 1) = min (miN (lsG sp L m s) b) (lsG sp L m s b) := rfl
          have mk : L - (m + 1) = i := by omega
          obtain ⟨eo, lo⟩ := hr.2.2 i b (by omega) hb8
          refine bX2_leastFrom_33 ⟨fun q => absurd q (nI_ge (b := 8) hb8 (by decide)), fun _ => gB_det (s_isFree hr (by omega) hb8 hs) ⟨_, rfl, br_bj (fun c3 => ?_) (fun c3 => ?_)⟩⟩
          · have eg : lsG sp L m s b = sp i b + lsF sp L m (s ||| 2 ^ b) := by
              unfold lsG
              rw [if_neg (by rw [c3.1]; decide), mk]
            have ll := lsF_le (sp := sp) (L := L) (m := m) (s := s ||| 2 ^ b)
            rw [e8, i_cl (show 8 * i + b < 2 ^ 31 by omega), (nI_or1 hs hb8).1, nI_1 i, nI_1 b, eo]
            refine ⟨vp_in_nI (by omega) (by decide), (ih d (i + 1) (s ||| 2 ^ b) r (by omega) (nI_or1 hs hb8).2 (by rw [pcN_bit c3.1, if_pos hb8, hp]) hr k1).mono ?_⟩
            rintro _ σ4 ⟨rfl, g1, g2⟩
            refine ⟨_, rfl, ?_⟩
            rw [nI_add, ← eg, gw_min_n (by omega) (by omega), ← emn]
            exact ihk (b + 1) σ4 (by omega) g1 (fun k hk => (g2 k hk).trans (k2 k hk))
          · have ge : 1000000 ≤ lsG sp L m s b := by
              unfold lsG
              split
              · exact Nat.le_refl _
              · rename_i c4
                have : ¬ sp i b < 1000000 := fun q => c3 ⟨by simpa using c4, q⟩
                rw [mk]
                omega
            have := ihk (b + 1) r (by omega) k1 k2
            rw [emn, Nat.min_eq_left (by omega)] at this
            rw [nI_1]
            exact this
      exact key 8 0 σ (by omega) hm (fun _ _ => rfl)
    · rcases hm s hs with q | q
      · exact absurd q c
      · rw [q, em]
theorem s_next {sp : Nat → Nat → Nat} {L d m i s : Nat} {σ : gw_S} (hi : i + (m + 1) = L) (hs : s < 256) (hp : pcN s 8 = i) (ho : OTH sp L σ) (hm : MEM sp L σ) (hl : lsF sp L (m + 1) s < 1000000) : gB (d + m + 3) mX2_leastNext [.ref 17, .int (nI s), .int (nI i)] σ (fun v σ' => v = some (.int (nI (fB (nxP sp L m s) 8 0))) ∧ MEM sp L σ' ∧ FL σ σ') := by
  obtain ⟨f1, -, f2, f3⟩ := fB_ok 8 0 (nx_ex hl)
  have mk : L - (m + 1) = i := by omega
  have hL := ho.2.1
  have hl0 := lsF_le (sp := sp) (L := L) (m := m + 1) (s := s)
  refine eX2_leastNext ((s_least (m + 1) d i s σ hi hs hp ho hm).mono ?_)
  rintro _ σ1 ⟨rfl, g1, g2⟩
  refine ⟨_, rfl, ?_⟩
  have key : ∀ k b (r : gw_S), b + k = fB (nxP sp L m s) 8 0 → MEM sp L r → FL σ r → gG (d + m + 2 + 1) mX2_leastNext 10 [some (.ref 17), some (.int (nI s)), some (.int (nI i)), some (.int (nI (lsF sp L (m + 1) s))), some (.int (nI b))] [] r (fun v σ' => v = some (.int (nI (fB (nxP sp L m s) 8 0))) ∧ MEM sp L σ' ∧ FL σ σ') := by
    intro k
    induction k with
    | zero =>
      intro b r hb k1 k2
      have hb8 : b < 8 := by omega
      have eb : b = fB (nxP sp L m s) 8 0 := by omega
      rw [← eb] at f1 ⊢
      obtain ⟨z1, z2, z3⟩ := nxP_iff.mp f1
      rw [mk] at z2 z3
      have hr := ho.fl k2
      obtain ⟨eo, lo⟩ := hr.2.2 i b (by omega) hb8
      refine bX2_leastNext_10 ⟨fun q => absurd q (nI_ge (b := 8) hb8 (by decide)), fun _ => gB_det (s_isFree hr (by omega) hb8 hs) ⟨_, rfl, br_bj (fun c3 => ?_) (fun c3 => absurd ⟨z1, z2⟩ c3)⟩⟩
      rw [e8, i_cl (show 8 * i + b < 2 ^ 31 by omega), (nI_or1 hs hb8).1, nI_1 i, eo]
      refine ⟨vp_in_nI (by omega) (by decide), (s_least m (d + 1) (i + 1) (s ||| 2 ^ b) r (by omega) (nI_or1 hs hb8).2 (by rw [pcN_bit c3.1, if_pos hb8, hp]) hr k1).mono' (by omega) ?_⟩
      rintro _ σ4 ⟨rfl, g1, g2⟩
      refine ⟨_, rfl, ?_⟩
      rw [nI_add, z3]
      exact ⟨fun q => absurd rfl q, fun _ => ⟨rfl, g1, fun k hk => (g2 k hk).trans (k2 k hk)⟩⟩
    | succ k ihk =>
      intro b r hb k1 k2
      have hb8 : b < 8 := by omega
      have hr := ho.fl k2
      obtain ⟨eo, lo⟩ := hr.2.2 i b (by omega) hb8
      have nb := f3 b (Nat.zero_le _) (by omega)
      refine bX2_leastNext_10 ⟨fun q => absurd q (nI_ge (b := 8) hb8 (by decide)), fun _ => gB_det (s_isFree hr (by omega) hb8 hs) ⟨_, rfl, br_bj (fun c3 => ?_) (fun c3 => ?_)⟩⟩
      · have ll := lsF_le (sp := sp) (L := L) (m := m) (s := s ||| 2 ^ b)
        rw [e8, i_cl (show 8 * i + b < 2 ^ 31 by omega), (nI_or1 hs hb8).1, nI_1 i, nI_1 b, eo]
        refine ⟨vp_in_nI (by omega) (by decide), (s_least m (d + 1) (i + 1) (s ||| 2 ^ b) r (by omega) (nI_or1 hs hb8).2 (by rw [pcN_bit c3.1, if_pos hb8, hp]) hr k1).mono' (by omega) ?_⟩
        rintro _ σ4 ⟨rfl, g1, g2⟩
        refine ⟨_, rfl, ?_⟩
        rw [nI_add, nI_eq (by omega) (by omega)]
        refine ⟨fun q => ihk (b + 1) σ4 (by omega) g1 (fun k hk => (g2 k hk).trans (k2 k hk)), fun q => ?_⟩
        have : nxP sp L m s b = true := nxP_iff.mpr ⟨c3.1, by rw [mk]; exact c3.2, by rw [mk]; exact q⟩
        rw [nb] at this
        exact absurd this (by decide)
      · rw [nI_1]
        exact ihk (b + 1) r (by omega) k1 k2
  exact key (fB (nxP sp L m s) 8 0) 0 σ1 (Nat.zero_add _) g1 g2
/-! a state is sung -/
def FSg (σ σ' : gw_S) : Prop := (∀ k, k ≠ 17 → k ≠ 19 → k ≠ 20 → k ≠ 21 → σ' k = σ k) ∧ ∀ j, j ≠ 5 → σ' 17 j = σ 17 j
theorem FSg.rf {σ : gw_S} : FSg σ σ := ⟨fun _ _ _ _ _ => rfl, fun _ _ => rfl⟩
theorem FSg.tr {σ σ1 σ2 : gw_S} (h : FSg σ σ1) (h2 : FSg σ1 σ2) : FSg σ σ2 := ⟨fun k a b c d => (h2.1 k a b c d).trans (h.1 k a b c d), fun j a => (h2.2 j a).trans (h.2 j a)⟩
theorem FSg.u {σ : gw_S} {k j : Nat} {v : Int32} (h : k = 17 ∧ j = 5 ∨ k = 19 ∨ k = 20 ∨ k = 21) : FSg σ (gw_u σ k j v) := by
  refine ⟨fun m a b c d => gw_ne (by omega), fun i hi => ?_⟩
  rw [gw_at, if_neg (by omega)]
theorem FL.sg {σ σ' : gw_S} (h : FL σ σ') : FSg σ σ' := ⟨fun k _ _ _ a => h k a, fun j _ => by rw [h 17 (by decide)]⟩
theorem Rp.sg {n k : Nat} {So : Nat → Bool} {S σ σ' : gw_S} (hk : 36 ≤ k) (h : Rp n So S (vw k σ)) (hf : FSg σ σ') : Rp n So S (vw k σ') := h.eqv (fun i hi => hf.1 (k + i) (by omega) (by omega) (by omega) (by omega))
theorem s_voicesS {d : Nat} {τ σ : gw_S} (hw : WF τ) (h : SG (g0 τ) (n1 τ) σ) : gB d mX2_voices [.ref 17] σ (fun v σ' => v = some (.int (orN (fun i => (1 : Int32) <<< (nI (ntT τ i) &&& 31)) (NL τ))) ∧ σ' = σ) := by
  have hl := NL_le hw
  have key : ∀ m i, i + m = NL τ → gG d mX2_voices 4 [some (.ref 17), some (.int (orN (fun i => (1 : Int32) <<< (nI (ntT τ i) &&& 31)) i)), some (.int (nI i))] [] σ (fun v σ' => v = some (.int (orN (fun i => (1 : Int32) <<< (nI (ntT τ i) &&& 31)) (NL τ))) ∧ σ' = σ) := by
    intro m
    induction m with
    | zero =>
      intro i hi
      have : i = NL τ := by omega
      subst this
      refine bX2_voices_4 ?_
      rw [show σ 17 4 = nI (NL τ) from h.1]
      exact ⟨fun _ => ⟨rfl, rfl⟩, fun c => absurd (nI_le (Nat.le_refl _) (by omega)) c⟩
    | succ m ih =>
      intro i hi
      refine bX2_voices_4 ?_
      rw [show σ 17 4 = nI (NL τ) from h.1, i_cl (show i < 2 ^ 31 by omega), h.2 i (show i < NL τ by omega), (ntT_ok hw (show i < NL τ by omega)).1, nI_1]
      exact ⟨fun c => absurd c (nI_ge (by omega) (by omega)), fun _ => ⟨vp_in_nI (by omega) (by decide), ih (i + 1) (by omega)⟩⟩
  exact eX2_voices (key (NL τ) 0 (by omega))
theorem tb_still {S : gw_S} {n u : Nat} (hu : u < 8) : tb (aStill S n) u ↔ ∃ b, b < n ∧ ¬ S 0 (8 * b + u) ≤ 0 := by
  unfold aStill
  rw [tb_orN (by omega)]
  constructor
  · rintro ⟨b, hb, h⟩
    obtain ⟨v, hv, h⟩ := (tb_orN (by omega)).mp h
    unfold stG at h
    split at h
    · rename_i c
      have : v = u := (tb_one (by omega) (by omega)).mp h
      exact ⟨b, hb, by rw [← this]; exact c⟩
    · exact absurd h (tb_0 (by omega))
  · rintro ⟨b, hb, h⟩
    refine ⟨b, hb, (tb_orN (by omega)).mpr ⟨u, hu, ?_⟩⟩
    unfold stG
    rw [if_pos h]
    exact (tb_one (by omega) (by omega)).mpr rfl
theorem s_seekLeast {d k : Nat} {So : Nat → Bool} {τ S σ : gw_S} (hk : gw_st k) (hk36 : 36 ≤ k) (hw : WF τ) (hg : SG (g0 τ) (n1 τ) σ) (hr : Rp (NB τ) So S (vw k σ)) (hv : VB (NB τ) S) : gB (d + 10) mX2_seekLeast [.ref 17, .ref k] σ (fun v σ' => v = none ∧ σ' 17 5 = aLays (spT τ S) (NL τ) ∧ (lsF (spT τ S) (NL τ) (NL τ) 0 < 1000000 → OTH (spT τ S) (NL τ) σ' ∧ MEM (spT τ S) (NL τ) σ') ∧ FSg σ σ') := by
  have hl := NL_le hw
  have hn := NB_le hw
  have spo : ∀ i b, NB τ ≤ b → b < 8 → 1000000 ≤ spT τ S i b := fun i b hb _ => by
    show 1000000 ≤ spN S (NB τ) (ntT τ i) b
    rw [spN_out (by omega)]
    exact Nat.le_refl _
  have e7 : σ k 7 = nI (NB τ) := hr.1.1
  refine eX2_seekLeast hk (fun s1 q1 => ?_)
  have f1 : FSg σ s1 := by rw [q1]; exact FSg.u (by decide)
  have v1 : s1 17 5 = -1 := by rw [q1, gw_self]
  have g1 : SG (g0 τ) (n1 τ) s1 := by
    unfold SG at hg ⊢
    rw [f1.2 4 (by decide), f1.1 18 (by decide) (by decide) (by decide) (by decide)]
    exact hg
  have r1 := hr.sg hk36 f1
  rw [show s1 17 4 = nI (NL τ) from g1.1, f1.1 k (by omega) (by omega) (by omega) (by omega), e7]
  have nope : ¬ lsF (spT τ S) (NL τ) (NL τ) 0 < 1000000 → s1 17 5 = aLays (spT τ S) (NL τ) ∧ (lsF (spT τ S) (NL τ) (NL τ) 0 < 1000000 → OTH (spT τ S) (NL τ) s1 ∧ MEM (spT τ S) (NL τ) s1) ∧ FSg σ s1 := fun q => ⟨by rw [v1, aLays, if_neg q], fun z => absurd z q, f1⟩
  refine ⟨fun c => ⟨rfl, nope (fun q => ?_)⟩, fun c => gB_det (s_voicesS hw g1) ⟨_, rfl, gB_det (s_voicesWith hk r1) ⟨_, rfl, ?_⟩⟩⟩
  · rw [nI_ltI (by omega) (by omega)] at c
    have := lsF_few (L := NL τ) spo (NL τ) 0 q
    omega
  · rw [if_pos rfl]
    refine ⟨fun c2 => ?_, fun c2 => ⟨rfl, nope ?_⟩⟩
    · -- the rows of others are laid
      have fin : ∀ r : gw_S, FSg σ r → r 17 5 = -1 → (∀ i b, i < NL τ → b < 8 → r 20 (8 * i + b) = nI (spT τ S i b)) → gG (d + 9 + 1) mX2_seekLeast 34 [some (.ref 17), some (.ref k), some (.int (nI (NL τ))), none, none] [] r (fun v σ' => v = none ∧ σ' 17 5 = aLays (spT τ S) (NL τ) ∧ (lsF (spT τ S) (NL τ) (NL τ) 0 < 1000000 → OTH (spT τ S) (NL τ) σ' ∧ MEM (spT τ S) (NL τ) σ') ∧ FSg σ σ') := by
        intro r hf h5 ho
        refine bX2_seekLeast_34 hk ?_
        rw [hf.2 4 (by decide), show σ 17 4 = nI (NL τ) from hg.1]
        refine ⟨fun _ => (s_fill gk_21 (by decide)).mono ?_, fun q => absurd (nI_le (Nat.le_refl _) (by omega)) q⟩
        rintro _ σ6 ⟨rfl, p1, p2⟩
        have f6 : FSg σ σ6 := hf.tr ⟨fun k a b c d => p2 k d, fun j _ => by rw [p2 17 (by decide)]⟩
        have o6 : OTH (spT τ S) (NL τ) σ6 := by
          refine ⟨by rw [f6.2 4 (by decide)]; exact hg.1, hl, fun i b hi hb => ⟨?_, ?_⟩⟩
          · rw [p2 20 (by decide)]; exact ho i b hi hb
          · exact (spI_n (b := b) hv hn (ntT_ok hw hi).2).2
        have m6 : MEM (spT τ S) (NL τ) σ6 := fun u hu => Or.inl (p1 u hu)
        refine ⟨rfl, (s_least (NL τ) (d + 8 - NL τ) 0 0 σ6 (by omega) (by decide) (by decide) o6 m6).mono' (by omega) ?_⟩
        rintro _ σ7 ⟨rfl, t1, t2⟩
        have ll := lsF_le (sp := spT τ S) (L := NL τ) (m := NL τ) (s := 0)
        refine ⟨_, rfl, ?_⟩
        rw [e6, nI_leI (by omega) (by omega)]
        refine ⟨fun q s9 q9 => ⟨rfl, ?_, fun z => by omega, ?_⟩, fun q s9 q9 => ⟨rfl, ?_, fun z => ⟨?_, ?_⟩, ?_⟩⟩
        · rw [q9, gw_self, aLays, if_neg (by omega)]
        · rw [q9]; exact (f6.tr t2.sg).tr (FSg.u (by decide))
        · rw [q9, gw_self, aLays, if_pos (by omega)]
        · have o7 := o6.fl t2
          unfold OTH at o7 ⊢
          rw [q9, gw_nj (by decide), gw_ne (by decide)]
          exact o7
        · unfold MEM at t1 ⊢
          rw [q9, gw_ne (by decide)]
          exact t1
        · rw [q9]; exact (f6.tr t2.sg).tr (FSg.u (by decide))
      have l34 : ∀ m i (r : gw_S), i + m = NL τ → FSg σ r → r 17 5 = -1 → (∀ i' b, i' < i → b < 8 → r 20 (8 * i' + b) = nI (spT τ S i' b)) → gG (d + 9 + 1) mX2_seekLeast 34 [some (.ref 17), some (.ref k), some (.int (nI i)), none, none] [] r (fun v σ' => v = none ∧ σ' 17 5 = aLays (spT τ S) (NL τ) ∧ (lsF (spT τ S) (NL τ) (NL τ) 0 < 1000000 → OTH (spT τ S) (NL τ) σ' ∧ MEM (spT τ S) (NL τ) σ') ∧ FSg σ σ') := by
        intro m
        induction m with
        | zero =>
          intro i r hi hf h5 ho
          have : i = NL τ := by omega
          subst this
          exact fin r hf h5 ho
        | succ m ih =>
          intro i r hi hf h5 ho
          have hiL : i < NL τ := by omega
          obtain ⟨nt1, nt2⟩ := ntT_ok hw hiL
          refine bX2_seekLeast_34 hk ?_
          rw [hf.2 4 (by decide), show σ 17 4 = nI (NL τ) from hg.1]
          refine ⟨fun q => absurd q (nI_ge (by omega) (by omega)), fun _ => ?_⟩
          have l44 : ∀ y b (r : gw_S), b + y = 8 → FSg σ r → r 17 5 = -1 → (∀ i' b', i' < i → b' < 8 → r 20 (8 * i' + b') = nI (spT τ S i' b')) → (∀ b', b' < b → r 20 (8 * i + b') = nI (spT τ S i b')) → gG (d + 9 + 1) mX2_seekLeast 44 [some (.ref 17), some (.ref k), some (.int (nI i)), some (.int (nI b)), none] [] r (fun v σ' => v = none ∧ σ' 17 5 = aLays (spT τ S) (NL τ) ∧ (lsF (spT τ S) (NL τ) (NL τ) 0 < 1000000 → OTH (spT τ S) (NL τ) σ' ∧ MEM (spT τ S) (NL τ) σ') ∧ FSg σ σ') := by
            intro y
            induction y with
            | zero =>
              intro b r hb hf h5 ho hp
              have : b = 8 := by omega
              subst this
              refine bX2_seekLeast_44 hk ⟨fun _ => ?_, fun q => absurd (by decide) q⟩
              rw [nI_1]
              refine ih (i + 1) r (by omega) hf h5 (fun i' b' a1 a2 => ?_)
              by_cases e : i' = i
              · rw [e]; exact hp b' a2
              · exact ho i' b' (by omega) a2
            | succ y ihy =>
              intro b r hb hf h5 ho hp
              have hb8 : b < 8 := by omega
              have rr := hr.sg hk36 hf
              have esp := (spI_n (b := b) hv hn nt2).1
              have go : ∀ r2 : gw_S, r2 = gw_u r 20 (8 * i + b) (nI (spT τ S i b)) → gG (d + 9 + 1) mX2_seekLeast 44 [some (.ref 17), some (.ref k), some (.int (nI i)), some (.int (nI (b + 1))), none] [] r2 (fun v σ' => v = none ∧ σ' 17 5 = aLays (spT τ S) (NL τ) ∧ (lsF (spT τ S) (NL τ) (NL τ) 0 < 1000000 → OTH (spT τ S) (NL τ) σ' ∧ MEM (spT τ S) (NL τ) σ') ∧ FSg σ σ') := fun r2 q2 => by
                refine ihy (b + 1) r2 (by omega) (by rw [q2]; exact hf.tr (FSg.u (by omega))) (by rw [q2, gw_ne (by decide)]; exact h5) (fun i' b' a1 a2 => ?_) (fun b' a => ?_)
                · rw [q2, gw_nj (by omega)]; exact ho i' b' a1 a2
                · rw [q2, gw_at]
                  by_cases e : b' = b
                  · rw [if_pos ⟨rfl, by rw [e]⟩, e]
                  · rw [if_neg (fun q => e (by omega))]
                    exact hp b' (by omega)
              refine bX2_seekLeast_44 hk ⟨fun q => absurd q (nI_ge (b := 8) hb8 (by decide)), fun _ => ⟨vp_in_nI (by omega) (by decide), ?_⟩⟩
              rw [i_cl (show i < 2 ^ 31 by omega), hf.1 18 (by decide) (by decide) (by decide) (by decide), hg.2 i hiL, nt1, e8, i_cl (show 8 * i + b < 2 ^ 31 by omega), nI_1]
              have vi : vp_in (nI (8 * i + b)) 64 := vp_in_nI (by omega) (by decide)
              by_cases hbn : b < NB τ
              · refine gB_det (s_muchOf hk rr hbn nt2) ⟨_, rfl, fun q => ⟨vi, fun s13 q13 => go s13 ?_⟩, fun q => gB_det (s_allIn hk rr hbn) ⟨_, rfl, vi, fun s16 q16 => go s16 ?_⟩⟩
                · rw [q13]
                  show _ = gw_u r 20 (8 * i + b) (nI (spN S (NB τ) (ntT τ i) b))
                  rw [← esp, spI, if_neg (fun z => z.2 q)]
                · rw [q16]
                  show _ = gw_u r 20 (8 * i + b) (nI (spN S (NB τ) (ntT τ i) b))
                  rw [← esp, spI, if_pos ⟨hbn, q⟩]
              · refine gB_det (s_muchOf0 hk rr hbn (by omega)) ⟨_, rfl, fun q => ⟨vi, fun s13 q13 => go s13 ?_⟩, fun q => absurd (by decide) q⟩
                rw [q13]
                show _ = gw_u r 20 (8 * i + b) (nI (spN S (NB τ) (ntT τ i) b))
                rw [← esp, spI, if_neg (fun z => hbn z.1)]
          exact l44 8 0 r (by omega) hf h5 ho (fun b' a => by omega)
      exact l34 (NL τ) 0 s1 (by omega) f1 v1 (fun i' b a => by omega)
    · -- some letter's voice is nowhere
      have : ∃ u, u < 32 ∧ tb (orN (fun i => (1 : Int32) <<< (nI (ntT τ i) &&& 31)) (NL τ)) u ∧ ¬ tb (aStill S (NB τ)) u := by
        refine Classical.byContradiction (fun no => c2 (tb_ext (fun u hu => ?_)))
        rw [tb_and hu, tb_not hu]
        exact ⟨fun q => absurd ⟨u, hu, q⟩ no, fun q => absurd q (tb_0 hu)⟩
      obtain ⟨u, hu, t1, t2⟩ := this
      obtain ⟨i, hi, t3⟩ := (tb_orN hu).mp t1
      obtain ⟨nt1, nt2⟩ := ntT_ok hw hi
      have eu : ntT τ i = u := (tb_one (by omega) hu).mp t3
      have : lsF (spT τ S) (NL τ) (NL τ) 0 = 1000000 := lsF_no hi (fun b hb => by
        show 1000000 ≤ spN S (NB τ) (ntT τ i) b
        by_cases z : b < NB τ ∧ ¬ S 0 (8 * b + ntT τ i) ≤ 0
        · exact absurd ((tb_still (by omega)).mpr ⟨b, z.1, by rw [← eu]; exact z.2⟩) t2
        · unfold spN spI
          rw [if_neg z, show (1000000 : Int32) = nI 1000000 from rfl, i_cl (show 1000000 < 2 ^ 31 by decide)]
          exact Nat.le_refl _) (NL τ) 0 (by omega) (Nat.le_refl _)
      omega
theorem s_seekRow {d k : Nat} {So : Nat → Bool} {τ S σ : gw_S} (hk : gw_st k) (hk36 : 36 ≤ k) (hw : WF τ) (hg : SG (g0 τ) (n1 τ) σ) (hr : Rp (NB τ) So S (vw k σ)) (hv : VB (NB τ) S) : gB (d + 11) mX2_seekRow [.ref 17, .ref k] σ (fun v σ' => v = none ∧ σ' 17 5 = aLays (spT τ S) (NL τ) ∧ (lsF (spT τ S) (NL τ) (NL τ) 0 < 1000000 → ∀ i, i < NL τ → σ' 19 i = nI (rwB (spT τ S) (NL τ) i)) ∧ FSg σ σ') := by
  have hl := NL_le hw
  refine eX2_seekRow hk ((s_seekLeast hk hk36 hw hg hr hv).mono ?_)
  rintro _ σ1 ⟨rfl, p1, p2, p3⟩
  refine ⟨rfl, ?_⟩
  have ll := lsF_le (sp := spT τ S) (L := NL τ) (m := NL τ) (s := 0)
  by_cases c : lsF (spT τ S) (NL τ) (NL τ) 0 < 1000000
  · obtain ⟨o1, m1⟩ := p2 c
    have v5 : σ1 17 5 = nI (lsF (spT τ S) (NL τ) (NL τ) 0) := by rw [p1, aLays, if_pos c]
    have key : ∀ m i (r : gw_S), i + m = NL τ → OTH (spT τ S) (NL τ) r → MEM (spT τ S) (NL τ) r → FSg σ r → r 17 5 = nI (lsF (spT τ S) (NL τ) (NL τ) 0) → (∀ i', i' < i → r 19 i' = nI (rwB (spT τ S) (NL τ) i')) → gG (d + 10 + 1) mX2_seekRow 9 [some (.ref 17), none, some (.int (nI (rwS (spT τ S) (NL τ) i))), some (.int (nI i))] [] r (fun v σ' => v = none ∧ σ' 17 5 = aLays (spT τ S) (NL τ) ∧ (lsF (spT τ S) (NL τ) (NL τ) 0 < 1000000 → ∀ i, i < NL τ → σ' 19 i = nI (rwB (spT τ S) (NL τ) i)) ∧ FSg σ σ') := by
      intro m
      induction m with
      | zero =>
        intro i r hi ho hm hf h5 hp
        have : i = NL τ := by omega
        subst this
        refine bX2_seekRow_9 ?_
        rw [ho.1]
        exact ⟨fun _ => ⟨rfl, by rw [h5, aLays, if_pos c], fun _ => hp, hf⟩, fun q => absurd (nI_le (Nat.le_refl _) (by omega)) q⟩
      | succ m ih =>
        intro i r hi ho hm hf h5 hp
        have hiL : i < NL τ := by omega
        obtain ⟨w1, w2, w3⟩ := rw_ok c i (by omega)
        obtain ⟨b1, b2, b3, b4⟩ := rwB_ok c hiL
        refine bX2_seekRow_9 ?_
        rw [ho.1, h5]
        refine ⟨fun q => absurd q (nI_ge (by omega) (by omega)), fun _ => ⟨fun q => absurd q (nI_ne_m1 (by omega)), fun _ => (s_next (d := d + 7 - m) (m := m) (i := i) (by omega) w2 w3 ho hm (by rw [show m + 1 = NL τ - i by omega]; exact w1)).mono' (by omega) ?_⟩⟩
        rintro _ σ2 ⟨rfl, t1, t2⟩
        have em : m = NL τ - (i + 1) := by omega
        refine ⟨_, rfl, vp_in_nI (by omega) (by decide), fun s4 q4 => ⟨vp_in_nI (by omega) (by decide), ?_⟩⟩
        rw [i_cl (show i < 2 ^ 31 by omega)] at q4 ⊢
        have e4 : s4 19 i = nI (rwB (spT τ S) (NL τ) i) := by
          rw [q4, gw_self, em]
          rfl
        have o2 := ho.fl t2
        rw [e4, (nI_or1 w2 b1).1, ← b4, nI_1]
        refine ih (i + 1) s4 (by omega) ?_ ?_ ?_ ?_ (fun i' a => ?_)
        · unfold OTH at o2 ⊢
          rw [q4, gw_ne (by decide), gw_ne (by decide)]; exact o2
        · unfold MEM at t1 ⊢
          rw [q4, gw_ne (by decide)]; exact t1
        · rw [q4]; exact (hf.tr t2.sg).tr (FSg.u (by omega))
        · rw [q4, gw_ne (by decide), t2 17 (by decide)]; exact h5
        · by_cases e : i' = i
          · rw [e]; exact e4
          · rw [q4, gw_nj e, t2 19 (by decide)]
            exact hp i' (by omega)
    exact key (NL τ) 0 σ1 (by omega) o1 m1 p3 v5 (fun i' a => by omega)
  · have v5 : σ1 17 5 = -1 := by rw [p1, aLays, if_neg c]
    refine bX2_seekRow_9 ⟨fun _ => ⟨rfl, p1, fun q => absurd q c, p3⟩, fun _ => ⟨fun _ => ⟨rfl, p1, fun q => absurd q c, p3⟩, fun q => absurd v5 q⟩⟩
theorem FSg.tc {σ σ' : gw_S} (h : FSg σ σ') : FTc σ σ' := ⟨fun k _ _ a b c d => h.1 k a b c d, h.2, by rw [h.1 0 (by decide) (by decide) (by decide) (by decide)]⟩
theorem FSg.cl {σ σ' : gw_S} (h : FSg σ σ') : FCl σ σ' := fun k hk => h.1 k (by omega) (by omega) (by omega) (by omega)
theorem FB.cl {σ σ' : gw_S} (h : FB σ σ') : FCl σ σ' := fun k hk => h.1 k (by omega) (by omega)
theorem FSg.kp {σ σ' : gw_S} (h : FSg σ σ') : KP σ σ' := by
  have e0 := h.1 0 (by decide) (by decide) (by decide) (by decide)
  exact ⟨by rw [e0], by rw [e0], by rw [e0], fun m a b => h.1 m (by omega) (by omega) (by omega) (by omega)⟩
theorem c_sing {d : Nat} {day i : Int32} {τ σ : gw_S} (hw : WF τ) (h : TC τ σ) (hc : CN τ σ) : gB (d + 12) mX8_sing [.ref 0, .int day, .int i] σ (QX τ τ σ (A_sing τ day i)) := by
  have bad : ¬ (okD day ∧ (i = -1 ∨ okE i)) → QX τ τ σ (A_sing τ day i) (some (.int (-2))) σ := fun c => by
    rw [A_sing, if_neg c]
    exact ⟨rfl, h, hc, SD.rf, ⟨rfl, rfl⟩, FCl.rf⟩
  refine eX8_sing (gB_det s_isWithin ⟨_, rfl, br_bj (fun h1 => ?_) (fun h1 => bad (fun q => h1 q.1))⟩)
  obtain ⟨D, hD, rfl⟩ := okD_n h1
  have hl := NL_le hw
  have go : (i = -1 ∨ okE i) → gG (d + 11 + 1) mX8_sing 26 [some (.ref 0), some (.int (nI D)), some (.int i)] [] σ (QX τ τ σ (A_sing τ (nI D) i)) := by
    intro hi
    refine bX8_sing_26 ((s_behind (d := d + 7) hw h hc hD).mono ?_)
    rintro _ σ5 ⟨rfl, g1, g2, g3, g4⟩
    have t5 := h.fr g4.tc
    have c5 := CN.of hD g2 g3
    refine ⟨rfl, (s_seekRow (d := d) st_now (by decide) hw t5.1.2.2.2.2.2.2.2 g3 (simVB hw (D + 1))).mono ?_⟩
    rintro _ σ6 ⟨rfl, p1, p2, p3⟩
    have ll := lsF_le (sp := spT τ (simT τ (D + 1))) (L := NL τ) (m := NL τ) (s := 0)
    have eA : A_sing τ (nI D) i = aSing (spT τ (simT τ (D + 1))) (NL τ) i := by rw [A_sing, if_pos ⟨h1, hi⟩, i_cl (show D < 2 ^ 31 by omega)]
    have ok : ∀ r : Int32, r = aSing (spT τ (simT τ (D + 1))) (NL τ) i → QX τ τ σ (A_sing τ (nI D) i) (some (.int r)) σ6 := fun r e => by
      rw [eA]
      refine ⟨by rw [e], t5.fr p3.tc, c5.kp p3.kp, SD.rf, ⟨?_, ?_⟩, g4.cl.tr p3.cl⟩
      · rw [p3.kp.2.1, g4.2 11 (by decide)]
      · rw [p3.kp.2.2.1, g4.2 12 (by decide)]
    have e4 : σ6 17 4 = nI (NL τ) := by rw [p3.2 4 (by decide)]; exact t5.1.2.2.2.2.2.2.2.1
    rw [e4]
    refine ⟨rfl, fun c => ok _ ?_, fun c => ⟨fun c2 => ?_, fun c2 => ok _ ?_⟩⟩
    · rw [p1]
      unfold aLays aSing
      rw [if_pos c]
    · have hlt : lsF (spT τ (simT τ (D + 1))) (NL τ) (NL τ) 0 < 1000000 := by
        by_cases q : lsF (spT τ (simT τ (D + 1))) (NL τ) (NL τ) 0 < 1000000
        · exact q
        · rw [p1, aLays, if_neg q] at c2
          exact absurd rfl c2
      obtain ⟨I, hI, rfl⟩ := okE_n (hi.resolve_left c)
      refine ⟨fun q => ok _ ?_, fun q => ⟨vp_in_nI hI (by decide), ok _ ?_⟩⟩
      · rw [aSing, if_pos hlt, if_neg c, if_pos q]
      · rw [aSing, if_pos hlt, if_neg c, if_neg q, i_cl (show I < 2 ^ 31 by omega)]
        rw [nI_leI (by omega) (by omega)] at q
        exact p2 hlt I (by omega)
    · have hlt : ¬ lsF (spT τ (simT τ (D + 1))) (NL τ) (NL τ) 0 < 1000000 := fun q => by
        rw [p1, aLays, if_pos q] at c2
        exact nI_ne_m1 (by omega) c2
      rw [c2, aSing, if_neg hlt]
  exact ⟨fun c => go (Or.inl c), fun c => gB_det s_isWithin ⟨_, rfl, br_bi (fun h3 => go (Or.inr h3)) (fun h3 => bad (fun q => q.2.elim c h3))⟩⟩
