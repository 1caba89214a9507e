/-! what was weighed -/
def alB (p : Nat → Bool) : Nat → Bool
  | 0 => true
  | n + 1 => alB p n && p n
theorem alB_iff {p : Nat → Bool} : ∀ {n : Nat}, alB p n = true ↔ ∀ i, i < n → p i = true
  | 0 => ⟨fun _ i hi => by omega, fun _ => rfl⟩
  | n + 1 => by
    unfold alB
    rw [Bool.and_eq_true, alB_iff]
    constructor
    · rintro ⟨h1, h2⟩ i hi
      by_cases e : i = n
      · rw [e]; exact h2
      · exact h1 i (by omega)
    · intro h
      exact ⟨fun i hi => h i (by omega), h n (by omega)⟩
theorem alB_f {p : Nat → Bool} {n i : Nat} (hi : i < n) (h : ¬ p i = true) : ¬ alB p n = true := fun q => h (alB_iff.mp q i hi)
def agP (τ S : gw_S) (D k : Nat) : Bool := decide (τ 164 k = nI D → (¬ nI (NB τ) ≤ τ 165 k ∧ alI S (τ 165 k).toNatClampNeg = τ 166 k))
def agB (τ S : gw_S) (D : Nat) : Bool := alB (agP τ S D) (nW τ)
def cOut (τ : gw_S) (w o t : Int32) : Bool := alB (fun D => agB τ (simG τ w o t (D + 1)) D) 40
theorem pr_toInt {n : Nat} (hn : n < 2 ^ 31) : (nI n - 1).toInt = (n : Int) - 1 := by
  rcases Nat.eq_zero_or_pos n with h | h
  · subst h; decide
  · rw [show (1 : Int32) = nI 1 from rfl, nI_sub h, nI_toInt (by omega)]
    omega
theorem gw_max_p {a D : Nat} (ha : a ≤ 40) (hD : D < 40) : gw_max (nI a - 1) (nI D) = nI (max a (D + 1)) - 1 := by
  unfold gw_max
  by_cases c : a ≤ D
  · rw [if_pos (by rw [i_lt, pr_toInt (by omega), nI_toInt (by omega)]; omega), Nat.max_eq_right (by omega)]
    exact (nI_pred D).symm
  · rw [if_neg (by rw [i_lt, pr_toInt (by omega), nI_toInt (by omega)]; omega), Nat.max_eq_left (by omega)]
theorem s_lastDay {d : Nat} {τ σ : gw_S} (hw : WF τ) (h : TCw τ σ) : gB (d + 1) mX7_lastDay [.ref 22] σ (fun v σ' => ∃ m, v = some (.int (nI m - 1)) ∧ m ≤ 40 ∧ (∀ k, k < nW τ → ∀ D, τ 164 k = nI D → D < 40 → D < m) ∧ σ' = σ) := by
  obtain ⟨w1, w2, w3⟩ := hw.2.2.2.2.1
  have key : ∀ m k a, k + m = nW τ → a ≤ 40 → (∀ k', k' < k → ∀ D, τ 164 k' = nI D → D < 40 → D < a) → gG (d + 1) mX7_lastDay 4 [some (.ref 22), some (.int (nI a - 1)), some (.int (nI k))] [] σ (fun v σ' => ∃ m, v = some (.int (nI m - 1)) ∧ m ≤ 40 ∧ (∀ k, k < nW τ → ∀ D, τ 164 k = nI D → D < 40 → D < m) ∧ σ' = σ) := by
    intro m
    induction m with
    | zero =>
      intro k a hk ha hp
      have : k = nW τ := by omega
      subst this
      refine bX7_lastDay_4 ?_
      rw [h.1]
      exact ⟨fun _ => ⟨a, rfl, ha, hp, rfl⟩, fun q => absurd (nI_le (Nat.le_refl _) (by omega)) q⟩
    | succ m ih =>
      intro k a hk ha hp
      obtain ⟨⟨D, hD, eD⟩, -⟩ := w3 k (by omega)
      refine bX7_lastDay_4 ?_
      rw [h.1, i_cl (show k < 2 ^ 31 by omega), (h.2 k (by omega)).1, eD, gw_max_p ha hD, nI_1]
      refine ⟨fun q => absurd q (nI_ge (by omega) (by omega)), fun _ => ⟨vp_in_nI (by omega) (by decide), ih (k + 1) _ (by omega) (by omega) (fun k' a1 D' e1 e2 => ?_)⟩⟩
      by_cases e : k' = k
      · rw [e, eD, nI_eq (by omega) (by omega)] at e1
        omega
      · have := hp k' (by omega) D' e1 e2
        omega
  have := key (nW τ) 0 0 (by omega) (by omega) (fun k' a => by omega)
  exact eX7_lastDay this
theorem s_agree {d D : Nat} {So : Nat → Bool} {τ S σ : gw_S} (hw : WF τ) (h : TCw τ σ) (hr : Rp (NB τ) So S (vw 44 σ)) (hd : σ 44 12 = nI D) : gB (d + 1) mX7_agreeWith [.ref 22, .ref 44] σ (fun v σ' => v = some (.int (bi (agB τ S D = true))) ∧ σ' = σ) := by
  obtain ⟨w1, w2, w3⟩ := hw.2.2.2.2.1
  have hn := NB_le hw
  have e7 : σ 44 7 = nI (NB τ) := hr.1.1
  have key : ∀ m k, k + m = nW τ → (∀ k', k' < k → agP τ S D k' = true) → gG (d + 1) mX7_agreeWith 2 [some (.ref 22), some (.ref 44), some (.int (nI k))] [] σ (fun v σ' => v = some (.int (bi (agB τ S D = true))) ∧ σ' = σ) := by
    intro m
    induction m with
    | zero =>
      intro k hk hp
      have : k = nW τ := by omega
      subst this
      refine bX7_agreeWith_2 st_trial ?_
      rw [h.1]
      exact ⟨fun _ => ⟨by rw [bi_t (show agB τ S D = true from alB_iff.mpr hp)], rfl⟩, fun q => absurd (nI_le (Nat.le_refl _) (by omega)) q⟩
    | succ m ih =>
      intro k hk hp
      have hk2 : k < nW τ := by omega
      obtain ⟨-, ⟨B, hB, eB⟩, -⟩ := w3 k hk2
      have vi : vp_in (nI k) 8 := vp_in_nI (by omega) (by decide)
      have nx : agP τ S D k = true → gG (d + 1) mX7_agreeWith 2 [some (.ref 22), some (.ref 44), some (.int (nI (k + 1)))] [] σ (fun v σ' => v = some (.int (bi (agB τ S D = true))) ∧ σ' = σ) := fun q => ih (k + 1) (by omega) (fun k' a => by
        by_cases e : k' = k
        · rw [e]; exact q
        · exact hp k' (by omega))
      have st : ¬ agP τ S D k = true → some (Value.int 0) = some (Value.int (bi (agB τ S D = true))) ∧ σ = σ := fun q => ⟨by rw [bi_f (show ¬ agB τ S D = true from alB_f hk2 q)], rfl⟩
      refine bX7_agreeWith_2 st_trial ?_
      rw [h.1, i_cl (show k < 2 ^ 31 by omega), (h.2 k hk2).1, (h.2 k hk2).2.1, hd, e7, nI_1]
      refine ⟨fun q => absurd q (nI_ge (by omega) (by omega)), fun _ => ⟨vi, fun c => nx (by unfold agP; rw [decide_eq_true_iff]; exact fun z => absurd z c), fun c => ⟨vi, fun c2 => st (fun z => ?_), fun c2 => ⟨vi, ?_⟩⟩⟩⟩
      · unfold agP at z
        rw [decide_eq_true_iff] at z
        exact (z c).1 c2
      · have hbn : B < NB τ := by
          rw [eB, nI_leI (by omega) (by omega)] at c2
          omega
        have eag : agP τ S D k = true ↔ alI S B = τ 166 k := by
          unfold agP
          rw [decide_eq_true_iff, eB, i_cl (show B < 2 ^ 31 by omega)]
          exact ⟨fun z => (z c).2, fun z _ => ⟨by rw [nI_leI (by omega) (by omega)]; omega, z⟩⟩
        rw [eB]
        refine gB_det (s_allIn st_trial hr hbn) ⟨_, rfl, vi, ?_⟩
        rw [(h.2 k hk2).2.2]
        exact ⟨fun z => nx (eag.mpr z), fun z => st (fun y => z (eag.mp y))⟩
  exact eX7_agreeWith st_trial (key (nW τ) 0 (by omega) (fun k' a => by omega))
theorem FS.tcT {σ σ' : gw_S} (h : FS 44 σ σ') : FTc σ σ' := h.ft.tc
theorem s_comesOut {d x y : Nat} {w : Int32} {τ σ : gw_S} (hw : WF τ) (h : TC τ σ) (hx : okSwC x y (NB τ)) : gB (d + 4) mX8_comesOut [.ref 0, .int w, .int (nI x), .int (nI y)] σ (fun v σ' => v = some (.int (bi (cOut τ w (nI x) (nI y) = true))) ∧ FS 44 σ σ') := by
  have hn := NB_le hw
  refine eX8_comesOut ((s_lastDay (d := d + 2) hw h.2.2.1).mono ?_)
  rintro _ σ1 ⟨M, rfl, hM, hlast, rfl⟩
  refine ⟨_, rfl, (s_beginC (d := d + 2) (n := NB τ) (m0 := n0 τ) (f := f0 τ) st_trial (by decide) hw.1.2.1 rfl (fun b hb => pV_ok hw hb) hx h.1.2.2.2.2.2.2.1).mono ?_⟩
  rintro _ σ3 ⟨rfl, g1, g2, g3⟩
  refine ⟨rfl, ?_⟩
  have late : ∀ D, M ≤ D → D < 40 → agB τ (simG τ w (nI x) (nI y) (D + 1)) D = true := fun D h1 h2 => by
    refine alB_iff.mpr (fun k hk => ?_)
    unfold agP
    rw [decide_eq_true_iff]
    intro e
    have := hlast k hk D e h2
    omega
  have key : ∀ m k (r : gw_S), k + m = M → FS 44 σ1 r → r 44 12 + 1 = nI k → Rp (NB τ) (fun b => pS (f0 τ) (swp (nI x) (nI y) b)) (simG τ w (nI x) (nI y) k) (vw 44 r) → (∀ D, D < k → agB τ (simG τ w (nI x) (nI y) (D + 1)) D = true) → gG (d + 3 + 1) mX8_comesOut 28 [some (.ref 0), some (.int w), none, none, some (.int (nI M - 1)), some (.int (nI k))] [] r (fun v σ' => v = some (.int (bi (cOut τ w (nI x) (nI y) = true))) ∧ FS 44 σ1 σ') := by
    intro m
    induction m with
    | zero =>
      intro k r hk hf hd hr hp
      have : k = M := by omega
      subst this
      refine bX8_comesOut_28 ⟨fun _ => ⟨?_, hf⟩, fun q => absurd (by rw [i_lt, pr_toInt (by omega), nI_toInt (by omega)]; omega) q⟩
      rw [bi_t]
      refine alB_iff.mpr (fun D hD => ?_)
      by_cases c : D < k
      · exact hp D c
      · exact late D (by omega) hD
    | succ m ih =>
      intro k r hk hf hd hr hp
      have tr := h.fr hf.tcT
      refine bX8_comesOut_28 ⟨fun q => absurd q (by rw [i_lt, pr_toInt (by omega), nI_toInt (by omega)]; omega), fun _ => (s_passDay (d := d) hw st_trial (by decide) tr.2.1 (show k < 40 by omega) hd (simG_z (by omega)) hr).mono ?_⟩
      rintro _ σ4 ⟨rfl, p1, p2, p3⟩
      have f4 := hf.tr p3
      have t4 := h.fr f4.tcT
      have r4 : Rp (NB τ) (fun b => pS (f0 τ) (swp (nI x) (nI y) b)) (simG τ w (nI x) (nI y) (k + 1)) (vw 44 σ4) := by rw [simG_s]; exact p1
      refine ⟨rfl, gB_det (s_agree (d := d + 2) hw t4.2.2.1 r4 p2) ⟨_, rfl, br_bi (fun c => ?_) (fun c => ⟨?_, f4⟩)⟩⟩
      · rw [nI_1]
        refine ih (k + 1) σ4 (by omega) f4 (by rw [p2, nI_1]) r4 (fun D hD => ?_)
        by_cases e : D = k
        · rw [e]; exact c
        · exact hp D (by omega)
      · rw [bi_f (show ¬ cOut τ w (nI x) (nI y) = true from alB_f (p := fun D => agB τ (simG τ w (nI x) (nI y) (D + 1)) D) (show k < 40 by omega) c)]
  exact key M 0 σ3 (by omega) g3 (by rw [g2]; rfl) g1 (fun D hD => by omega)
/-- an answer of the class for which only its trial has changed -/
theorem QK.tr {τ σ σ' : gw_S} {A r : Int32} (h : TC τ σ) (hc : CN τ σ) (hk : CK τ σ) (hf : FT σ σ') (e : A = r) : QK τ σ A (some (.int r)) σ' := by
  have e0 := hf.1 0 (by decide) (by decide) (by decide) (by decide) (by decide)
  refine ⟨by rw [e], h.fr hf.tc, hc.kp hf.kp, ?_, hf.cl⟩
  unfold CK at hk ⊢
  rw [e0]
  exact hk
def hiG (τ : gw_S) (a : Nat) : Int32 := if cOut τ (nI a) (-1) (-1) = true then (1 : Int32) <<< (nI a &&& 31) else 0
def A_hid (τ : gw_S) : Int32 := orN (hiG τ) (nA τ)
theorem cOut_0 {τ : gw_S} {w : Int32} (hw : WF τ) : cOut τ w (nI 0) (nI 0) = cOut τ w (-1) (-1) := by
  have e : (fun D => agB τ (simG τ w (nI 0) (nI 0) (D + 1)) D) = (fun D => agB τ (simG τ w (-1) (-1) (D + 1)) D) := by
    funext D
    rw [simG_0 hw]
  unfold cOut
  rw [e]
theorem s_hidC {d : Nat} {τ σ : gw_S} (hw : WF τ) (h : TC τ σ) : gB (d + 5) mX8_hid [.ref 0] σ (fun v σ' => v = some (.int (A_hid τ)) ∧ FS 44 σ σ') := by
  have l16 := hw.2.2.2.1.2.1
  have key : ∀ m a (r : gw_S), a + m = nA τ → FS 44 σ r → gG (d + 4 + 1) mX8_hid 4 [some (.ref 0), some (.int (orN (hiG τ) a)), some (.int (nI a))] [] r (fun v σ' => v = some (.int (A_hid τ)) ∧ FS 44 σ σ') := by
    intro m
    induction m with
    | zero =>
      intro a r ha hf
      have : a = nA τ := by omega
      subst this
      refine bX8_hid_4 ?_
      rw [(h.fr hf.tcT).2.1.1]
      exact ⟨fun _ => ⟨rfl, hf⟩, fun q => absurd (nI_le (Nat.le_refl _) (by omega)) q⟩
    | succ m ih =>
      intro a r ha hf
      have tr := h.fr hf.tcT
      refine bX8_hid_4 ?_
      rw [tr.2.1.1, nI_1]
      refine ⟨fun q => absurd q (nI_ge (by omega) (by omega)), fun _ => (s_comesOut (d := d) (x := 0) (y := 0) hw tr (Or.inr ⟨rfl, rfl⟩)).mono ?_⟩
      rintro _ σ1 ⟨rfl, p1⟩
      have nx := ih (a + 1) σ1 (by omega) (hf.tr p1)
      have eo : orN (hiG τ) (a + 1) = orN (hiG τ) a ||| hiG τ a := rfl
      rw [eo] at nx
      refine ⟨_, rfl, br_bj (fun c => ?_) (fun c => ?_)⟩
      · rw [cOut_0 hw] at c
        unfold hiG at nx
        rw [if_pos c] at nx
        exact nx
      · rw [cOut_0 hw] at c
        have e0 : hiG τ a = 0 := by unfold hiG; rw [if_neg c]
        rw [e0, Int32.or_zero] at nx
        exact nx
  exact eX8_hid (key (nA τ) 0 σ (by omega) FS.rf)
theorem c_hid {d : Nat} {τ σ : gw_S} (hw : WF τ) (h : TC τ σ) (hc : CN τ σ) (hk : CK τ σ) : gB (d + 5) mX8_hid [.ref 0] σ (QK τ σ (A_hid τ)) := by
  refine (s_hidC hw h).mono ?_
  rintro _ σ' ⟨rfl, p⟩
  exact QK.tr h hc hk p.ft rfl
/-! swapped -/
def swI (τ : gw_S) (a : Nat) : Nat → Nat → Int32 × Int32 → Int32 × Int32
  | 0, _, q => q
  | m + 1, b, q => swI τ a m (b + 1) (if cOut τ (-1) (nI a) (nI b) = true then (q.1 + 1, if q.2 = -1 then nI (8 * a + b) else q.2) else q)
def swO (τ : gw_S) : Nat → Nat → Int32 × Int32 → Int32 × Int32
  | 0, _, q => q
  | m + 1, a, q => swO τ m (a + 1) (swI τ a (NB τ - (a + 1)) (a + 1) q)
def A_swapped (τ : gw_S) (w : Int32) : Int32 := if okT w then (if w = 0 then (swO τ (NB τ) 0 (0, -1)).1 else (swO τ (NB τ) 0 (0, -1)).2) else -2
theorem c_swapped {d : Nat} {w : Int32} {τ σ : gw_S} (hw : WF τ) (h : TC τ σ) (hc : CN τ σ) (hk : CK τ σ) : gB (d + 5) mX8_swapped [.ref 0, .int w] σ (QK τ σ (A_swapped τ w)) := by
  have hn := NB_le hw
  refine eX8_swapped (gB_det s_isWithin ⟨_, rfl, br_bi (fun h1 => ?_) (fun h1 => QK.tr h hc hk FT.rf (by rw [A_swapped, if_neg h1]))⟩)
  have e74 : ∀ r, FS 44 σ r → r 7 4 = nI (NB τ) := fun r hf => (h.fr hf.tcT).1.2.2.2.2.2.2.1.1
  have o : ∀ m a q (r : gw_S), a + m = NB τ → FS 44 σ r → swO τ (NB τ) 0 (0, -1) = swO τ m a q → gG (d + 4 + 1) mX8_swapped 18 [some (.ref 0), some (.int w), some (.int q.1), some (.int q.2), some (.int (nI a)), none] [] r (QK τ σ (A_swapped τ w)) := by
    intro m
    induction m with
    | zero =>
      intro a q r ha hf e
      refine bX8_swapped_18 ?_
      rw [e74 r hf]
      refine ⟨fun _ => ⟨fun c => QK.tr h hc hk hf.ft ?_, fun c => QK.tr h hc hk hf.ft ?_⟩, fun q => absurd (nI_le (by omega) (by omega)) q⟩
      · rw [A_swapped, if_pos h1, if_neg c, e]; rfl
      · rw [A_swapped, if_pos h1, if_pos c, e]; rfl
    | succ m ih =>
      intro a q r ha hf e
      refine bX8_swapped_18 ?_
      rw [e74 r hf, nI_1]
      refine ⟨fun z => absurd z (nI_ge (by omega) (by omega)), fun _ => ?_⟩
      have i : ∀ y b q2 (r : gw_S), b + y = NB τ → a < b → FS 44 σ r → swI τ a (NB τ - (a + 1)) (a + 1) q = swI τ a y b q2 → gG (d + 4 + 1) mX8_swapped 39 [some (.ref 0), some (.int w), some (.int q2.1), some (.int q2.2), some (.int (nI a)), some (.int (nI b))] [] r (QK τ σ (A_swapped τ w)) := by
        intro y
        induction y with
        | zero =>
          intro b q2 r hb hab hf e2
          refine bX8_swapped_39 ?_
          rw [e74 r hf, nI_1]
          refine ⟨fun _ => ih (a + 1) q2 r (by omega) hf ?_, fun z => absurd (nI_le (by omega) (by omega)) z⟩
          rw [e]
          show swO τ m (a + 1) (swI τ a (NB τ - (a + 1)) (a + 1) q) = _
          rw [e2]
          rfl
        | succ y ihy =>
          intro b q2 r hb hab hf e2
          refine bX8_swapped_39 ?_
          rw [e74 r hf, nI_1 b, e8]
          refine ⟨fun z => absurd z (nI_ge (by omega) (by omega)), fun _ => (s_comesOut (d := d) (x := a) (y := b) hw (h.fr hf.tcT) (Or.inl ⟨by omega, by omega⟩)).mono ?_⟩
          rintro _ σ3 ⟨rfl, p1⟩
          have st : swI τ a (y + 1) b q2 = swI τ a y (b + 1) (if cOut τ (-1) (nI a) (nI b) = true then (q2.1 + 1, if q2.2 = -1 then nI (8 * a + b) else q2.2) else q2) := rfl
          rw [st] at e2
          refine ⟨_, rfl, br_bi (fun c => ?_) (fun c => ?_)⟩
          · rw [if_pos c] at e2
            refine ⟨fun c2 => ?_, fun c2 => ?_⟩
            · rw [if_neg c2] at e2
              exact ihy (b + 1) (q2.1 + 1, q2.2) σ3 (by omega) (by omega) (hf.tr p1) e2
            · rw [if_pos c2] at e2
              exact ihy (b + 1) (q2.1 + 1, nI (8 * a + b)) σ3 (by omega) (by omega) (hf.tr p1) e2
          · rw [if_neg c] at e2
            exact ihy (b + 1) q2 σ3 (by omega) (by omega) (hf.tr p1) e2
      exact i (NB τ - (a + 1)) (a + 1) q r (by omega) (by omega) hf rfl
  exact o (NB τ) 0 (0, -1) σ (by omega) FS.rf rfl
