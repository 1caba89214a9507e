/-! weigh -/
theorem sr0 (w : Int32) : w >>> (nI 0 &&& 31) = w := by
  show w >>> (0 : Int32) = w
  simp
theorem tb_both {x : Int32} {a b : Nat} (ha : a < 32) (hb : b < 32) : ((x >>> (nI a &&& 31)) &&& (x >>> (nI b &&& 31))) &&& 1 = 1 ↔ tb x a ∧ tb x b := by
  have h := tb_and (x := x >>> (nI a &&& 31)) (y := x >>> (nI b &&& 31)) (b := 0) (by decide)
  unfold tb at h
  rw [sr0, sr0, sr0] at h
  exact h
def hb (τ : gw_S) (a : Nat) : Bool := decide (a < nA τ) && cOut τ (nI a) (-1) (-1)
theorem hb_iff {τ : gw_S} {a : Nat} (hw : WF τ) (ha : a < 32) : tb (A_hid τ) a ↔ hb τ a = true := by
  have l16 := hw.2.2.2.1.2.1
  unfold A_hid hb
  rw [tb_orN ha, Bool.and_eq_true, decide_eq_true_iff]
  constructor
  · rintro ⟨i, hi, h⟩
    unfold hiG at h
    split at h
    · rename_i c
      have : i = a := (tb_one (by omega) ha).mp h
      subst this
      exact ⟨hi, c⟩
    · exact absurd h (tb_0 ha)
  · rintro ⟨h1, h2⟩
    refine ⟨a, h1, ?_⟩
    unfold hiG
    rw [if_pos h2]
    exact (tb_one ha ha).mpr rfl
def hld (τ : gw_S) (D a b : Nat) : Int32 := alI (simG τ (nI a) (-1) (-1) (D + 1)) b
def eqC (τ : gw_S) (D b i k : Nat) : Bool := hb τ i && hb τ k && decide (hld τ D i b = hld τ D k b)
def cn2 (τ : gw_S) (D b i : Nat) : Nat → Nat
  | 0 => 0
  | m + 1 => cn2 τ D b i m + if eqC τ D b i m = true then 1 else 0
def mx2 (τ : gw_S) (D b K : Nat) : Nat → Nat
  | 0 => 0
  | m + 1 => max (mx2 τ D b K m) (cn2 τ D b m K)
theorem cn2_le {τ : gw_S} {D b i : Nat} : ∀ m, cn2 τ D b i m ≤ m
  | 0 => Nat.le_refl _
  | m + 1 => by
    unfold cn2
    have := cn2_le (τ := τ) (D := D) (b := b) (i := i) m
    split <;> omega
theorem mx2_le {τ : gw_S} {D b K : Nat} : ∀ m, mx2 τ D b K m ≤ K
  | 0 => Nat.zero_le _
  | m + 1 => by
    unfold mx2
    have := mx2_le (τ := τ) (D := D) (b := b) (K := K) m
    have := cn2_le (τ := τ) (D := D) (b := b) (i := m) K
    omega
theorem hb_n {τ : gw_S} {a : Nat} (h : nA τ ≤ a) : hb τ a = false := by
  unfold hb
  rw [decide_eq_false (by omega), Bool.false_and]
theorem cn2_more {τ : gw_S} {D b i : Nat} : ∀ m, cn2 τ D b i (nA τ + m) = cn2 τ D b i (nA τ)
  | 0 => rfl
  | m + 1 => by
    show cn2 τ D b i (nA τ + m) + (if eqC τ D b i (nA τ + m) = true then 1 else 0) = _
    have hz : ¬ eqC τ D b i (nA τ + m) = true := by
      unfold eqC
      rw [hb_n (show nA τ ≤ nA τ + m by omega), Bool.and_false, Bool.false_and]
      decide
    rw [cn2_more m, if_neg hz, Nat.add_zero]
theorem cn2_z {τ : gw_S} {D b i : Nat} (h : nA τ ≤ i) : ∀ m, cn2 τ D b i m = 0
  | 0 => rfl
  | m + 1 => by
    unfold cn2
    rw [cn2_z h m, if_neg]
    unfold eqC
    rw [hb_n h, Bool.false_and, Bool.false_and]
    decide
theorem mx2_eq {τ : gw_S} {D b K : Nat} (hK : nA τ ≤ K) : ∀ m, mx2 τ D b K m = mx2 τ D b (nA τ) m
  | 0 => rfl
  | m + 1 => by
    unfold mx2
    rw [mx2_eq hK m, show K = nA τ + (K - nA τ) by omega, cn2_more]
theorem mx2_more {τ : gw_S} {D b : Nat} : ∀ m, mx2 τ D b (nA τ) (nA τ + m) = mx2 τ D b (nA τ) (nA τ)
  | 0 => rfl
  | m + 1 => by
    show max (mx2 τ D b (nA τ) (nA τ + m)) (cn2 τ D b (nA τ + m) (nA τ)) = _
    rw [mx2_more m, cn2_z (by omega)]
    omega
theorem mx2_16 {τ : gw_S} {D b : Nat} (h : nA τ ≤ 16) : mx2 τ D b 16 16 = mx2 τ D b (nA τ) (nA τ) := by
  rw [mx2_eq h, show (16 : Nat) = nA τ + (16 - nA τ) by omega, mx2_more]
def wbS (τ : gw_S) (D b : Nat) (q : Int32 × Nat) : Int32 × Nat := if q.1 = -1 ∨ mx2 τ D b (nA τ) (nA τ) < q.2 then (nI b, mx2 τ D b (nA τ) (nA τ)) else q
def wbN (τ : gw_S) (D : Nat) : Nat → Int32 × Nat
  | 0 => (-1, 0)
  | b + 1 => wbS τ D b (wbN τ D b)
theorem wbN_le {τ : gw_S} {D : Nat} (h : nA τ ≤ 16) : ∀ b, (wbN τ D b).2 ≤ 16
  | 0 => Nat.zero_le _
  | b + 1 => by
    unfold wbN wbS
    have := wbN_le (D := D) h b
    have := mx2_le (τ := τ) (D := D) (b := b) (K := nA τ) (nA τ)
    split
    · show mx2 τ D b (nA τ) (nA τ) ≤ 16; omega
    · assumption
def A_weigh (τ : gw_S) (day : Int32) : Int32 := if okD day then (wbN τ day.toNatClampNeg (NB τ)).1 else -2
/-! the class -/
def FW (σ σ' : gw_S) : Prop := ∀ k, k ≠ 35 → (k < 44 ∨ 52 ≤ k) → σ' k = σ k
theorem FW.rf {σ : gw_S} : FW σ σ := fun _ _ _ => rfl
theorem FW.tr {σ σ1 σ2 : gw_S} (h : FW σ σ1) (h2 : FW σ1 σ2) : FW σ σ2 := fun k a b => (h2 k a b).trans (h k a b)
theorem FS.fw {σ σ' : gw_S} (h : FS 44 σ σ') : FW σ σ' := fun k _ b => h k (by omega)
theorem FW.tc {σ σ' : gw_S} (h : FW σ σ') : FTc σ σ' := ⟨fun k _ e _ _ _ _ => h k (by omega) (by omega), fun j _ => by rw [h 17 (by decide) (by decide)], by rw [h 0 (by decide) (by decide)]⟩
theorem QK.fw {τ σ σ' : gw_S} {A r : Int32} (h : TC τ σ) (hc : CN τ σ) (hk : CK τ σ) (hf : FW σ σ') (e : A = r) : QK τ σ A (some (.int r)) σ' := by
  have e0 := hf 0 (by decide) (by decide)
  refine ⟨by rw [e], h.fr hf.tc, hc.kp ⟨by rw [e0], by rw [e0], by rw [e0], fun m a b => hf m (by omega) (by omega)⟩, ?_, fun k hk => hf k (by omega) (by omega)⟩
  unfold CK at hk ⊢
  rw [e0]
  exact hk
def HW (τ : gw_S) (D m : Nat) (σ : gw_S) : Prop := ∀ a b, a < m → hb τ a = true → b < NB τ → σ 35 (8 * a + b) = hld τ D a b
theorem s_hwe {d D : Nat} {τ σ : gw_S} (hw : WF τ) (h : TC τ σ) (hD : D < 40) : gB (d + 4) mX8_holdWithoutEach [.ref 0, .int (A_hid τ), .int (nI D)] σ (fun v σ' => v = none ∧ HW τ D (nA τ) σ' ∧ FW σ σ') := by
  have l16 := hw.2.2.2.1.2.1
  have hn := NB_le hw
  have key : ∀ m a (r : gw_S), a + m = nA τ → FW σ r → HW τ D a r → gG (d + 3 + 1) mX8_holdWithoutEach 2 [some (.ref 0), some (.int (A_hid τ)), some (.int (nI D)), some (.int (nI a)), none] [] r (fun v σ' => v = none ∧ HW τ D (nA τ) σ' ∧ FW σ σ') := by
    intro m
    induction m with
    | zero =>
      intro a r ha hf hh
      have : a = nA τ := by omega
      subst this
      refine bX8_holdWithoutEach_2 ?_
      rw [(h.fr hf.tc).2.1.1]
      exact ⟨fun _ => ⟨rfl, hh, hf⟩, fun q => absurd (nI_le (Nat.le_refl _) (by omega)) q⟩
    | succ m ih =>
      intro a r ha hf hh
      have ha2 : a < nA τ := by omega
      have tr := h.fr hf.tc
      refine bX8_holdWithoutEach_2 ?_
      rw [tr.2.1.1, bit_bi (by omega), nI_1]
      refine ⟨fun q => absurd q (nI_ge (by omega) (by omega)), fun _ => br_bi (fun c => ?_) (fun c => ?_)⟩
      · rw [hb_iff hw (by omega)] at c
        refine (s_begin0 (d := d + 2) hw st_trial (by decide) tr).mono ?_
        rintro _ σ1 ⟨rfl, g1, g2, g3⟩
        refine ⟨rfl, ?_⟩
        have l73 : ∀ y b (r : gw_S), b + y = NB τ → FW σ r → Rp (NB τ) (soT τ) (simG τ (nI a) (-1) (-1) (D + 1)) (vw 44 r) → HW τ D a r → (∀ b', b' < b → r 35 (8 * a + b') = hld τ D a b') → gG (d + 3 + 1) mX8_holdWithoutEach 73 [some (.ref 0), some (.int (A_hid τ)), some (.int (nI D)), some (.int (nI a)), some (.int (nI b))] [] r (fun v σ' => v = none ∧ HW τ D (nA τ) σ' ∧ FW σ σ') := by
          intro y
          induction y with
          | zero =>
            intro b r hb2 hf hr hh hp
            refine bX8_holdWithoutEach_73 ?_
            rw [show r 7 4 = nI (NB τ) from (h.fr hf.tc).1.2.2.2.2.2.2.1.1, nI_1]
            refine ⟨fun _ => ih (a + 1) r (by omega) hf (fun a' b' z1 z2 z3 => ?_), fun q => absurd (nI_le (by omega) (by omega)) q⟩
            by_cases e : a' = a
            · rw [e]; exact hp b' (by omega)
            · exact hh a' b' (by omega) z2 z3
          | succ y ihy =>
            intro b r hb2 hf hr hh hp
            have hbn : b < NB τ := by omega
            refine bX8_holdWithoutEach_73 ?_
            rw [show r 7 4 = nI (NB τ) from (h.fr hf.tc).1.2.2.2.2.2.2.1.1, nI_1 b, e8, i_cl (show 8 * a + b < 2 ^ 31 by omega)]
            refine ⟨fun q => absurd q (nI_ge (by omega) (by omega)), fun _ => gB_det (s_allIn st_trial hr hbn) ⟨_, rfl, vp_in_nI (by omega) (by decide), fun s5 q5 => ihy (b + 1) s5 (by omega) ?_ ?_ ?_ ?_⟩⟩
            · rw [q5]; exact hf.tr (fun k a _ => gw_ne a)
            · rw [q5]; exact hr.eqv (fun i hi => gw_ne (by omega))
            · intro a' b' z1 z2 z3
              rw [q5, gw_nj (by omega)]; exact hh a' b' z1 z2 z3
            · intro b' z
              rw [q5, gw_at]
              by_cases e : b' = b
              · rw [if_pos ⟨rfl, by rw [e]⟩, e]; rfl
              · rw [if_neg (fun q => e (by omega))]; exact hp b' (by omega)
        have l46 : ∀ y k (r : gw_S), k + y = D + 1 → FW σ r → r 44 12 + 1 = nI k → Rp (NB τ) (soT τ) (simG τ (nI a) (-1) (-1) k) (vw 44 r) → HW τ D a r → gG (d + 3 + 1) mX8_holdWithoutEach 46 [some (.ref 0), some (.int (A_hid τ)), some (.int (nI D)), some (.int (nI a)), some (.int (nI k))] [] r (fun v σ' => v = none ∧ HW τ D (nA τ) σ' ∧ FW σ σ') := by
          intro y
          induction y with
          | zero =>
            intro k r hk hf hd hr hh
            have : k = D + 1 := by omega
            subst this
            exact bX8_holdWithoutEach_46 ⟨fun _ => l73 (NB τ) 0 r (by omega) hf hr hh (fun b' z => by omega), fun q => absurd (nI_lt (by omega) (by omega)) q⟩
          | succ y ihy =>
            intro k r hk hf hd hr hh
            have tr := h.fr hf.tc
            refine bX8_holdWithoutEach_46 ⟨fun q => absurd q (nI_nlt (by omega) (by omega)), fun _ => (s_passDay (d := d) hw st_trial (by decide) tr.2.1 (show k < 40 by omega) hd (simG_z (by omega)) hr).mono ?_⟩
            rintro _ σ2 ⟨rfl, p1, p2, p3⟩
            rw [nI_1]
            refine ⟨rfl, ihy (k + 1) σ2 (by omega) (hf.tr p3.fw) (by rw [p2, nI_1]) (by rw [simG_s]; exact p1) (fun a' b' z1 z2 z3 => ?_)⟩
            rw [p3 35 (by decide)]
            exact hh a' b' z1 z2 z3
        refine l46 (D + 1) 0 σ1 (by omega) (hf.tr g3.fw) (by rw [g2]; rfl) g1 (fun a' b' z1 z2 z3 => ?_)
        rw [g3 35 (by decide)]
        exact hh a' b' z1 z2 z3
      · rw [hb_iff hw (by omega)] at c
        refine ih (a + 1) r (by omega) hf (fun a' b' z1 z2 z3 => ?_)
        by_cases e : a' = a
        · rw [e] at z2; exact absurd z2 c
        · exact hh a' b' (by omega) z2 z3
  exact eX8_holdWithoutEach (key (nA τ) 0 σ (by omega) FW.rf (fun a b z => by omega))
theorem gw_max_n {a b : Nat} (ha : a < 2 ^ 31) (hb : b < 2 ^ 31) : gw_max (nI a) (nI b) = nI (max a b) := by
  unfold gw_max
  by_cases c : a < b
  · rw [if_pos ((nI_ltI ha hb).mpr c), Nat.max_eq_right (by omega)]
  · rw [if_neg (fun q => c ((nI_ltI ha hb).mp q)), Nat.max_eq_left (by omega)]
theorem s_mostAlike {d D b : Nat} {τ σ : gw_S} (hw : WF τ) (hh : HW τ D (nA τ) σ) (hb8 : b < NB τ) : gB (d + 1) mX8_mostAlike [.ref 0, .int (A_hid τ), .int (nI b)] σ (fun v σ' => v = some (.int (nI (mx2 τ D b (nA τ) (nA τ)))) ∧ σ' = σ) := by
  have l16 := hw.2.2.2.1.2.1
  have hn := NB_le hw
  have at_ : ∀ a, hb τ a = true → σ 35 (8 * a + b) = hld τ D a b := fun a q => by
    refine hh a b ?_ q hb8
    by_cases z : a < nA τ
    · exact z
    · rw [hb_n (by omega)] at q; exact absurd q (by decide)
  rw [← mx2_16 l16]
  have key : ∀ m a, a + m = 16 → gG (d + 1) mX8_mostAlike 5 [some (.ref 0), some (.int (A_hid τ)), some (.int (nI b)), some (.int (nI (mx2 τ D b 16 a))), some (.int (nI a)), none, none, none] [] σ (fun v σ' => v = some (.int (nI (mx2 τ D b 16 16))) ∧ σ' = σ) := by
    intro m
    induction m with
    | zero =>
      intro a ha
      have : a = 16 := by omega
      subst this
      exact bX8_mostAlike_5 ⟨fun _ => ⟨rfl, rfl⟩, fun q => absurd (by decide) q⟩
    | succ m ih =>
      intro a ha
      have ha16 : a < 16 := by omega
      refine bX8_mostAlike_5 ⟨fun q => absurd q (nI_ge (b := 16) ha16 (by decide)), fun _ => ?_⟩
      have i18 : ∀ y k, k + y = 16 → gG (d + 1) mX8_mostAlike 18 [some (.ref 0), some (.int (A_hid τ)), some (.int (nI b)), some (.int (nI (mx2 τ D b 16 a))), some (.int (nI a)), some (.int (nI (cn2 τ D b a k))), some (.int (nI k)), none] [] σ (fun v σ' => v = some (.int (nI (mx2 τ D b 16 16))) ∧ σ' = σ) := by
        intro y
        induction y with
        | zero =>
          intro k hk
          have : k = 16 := by omega
          subst this
          have l1 := mx2_le (τ := τ) (D := D) (b := b) (K := 16) a
          have l2 := cn2_le (τ := τ) (D := D) (b := b) (i := a) 16
          refine bX8_mostAlike_18 ⟨fun _ => ?_, fun q => absurd (by decide) q⟩
          rw [gw_max_n (by omega) (by omega), nI_1]
          exact ih (a + 1) (by omega)
        | succ y ihy =>
          intro k hk
          have hk16 : k < 16 := by omega
          have nx := ihy (k + 1) (by omega)
          have ec : cn2 τ D b a (k + 1) = cn2 τ D b a k + (if eqC τ D b a k = true then 1 else 0) := rfl
          rw [ec] at nx
          refine bX8_mostAlike_18 ⟨fun q => absurd q (nI_ge (b := 16) hk16 (by decide)), fun _ => ?_⟩
          rw [tb_both (by omega) (by omega), hb_iff hw (by omega), hb_iff hw (by omega), nI_1 k, nI_1 (cn2 τ D b a k), e8, e8, i_cl (show 8 * a + b < 2 ^ 31 by omega), i_cl (show 8 * k + b < 2 ^ 31 by omega)]
          refine ⟨fun c => ⟨fun _ => ?_, fun q => absurd rfl q⟩, fun c => ⟨fun q => absurd q (by decide), fun _ => ⟨vp_in_nI (by omega) (by decide), vp_in_nI (by omega) (by decide), ?_⟩⟩⟩
          · have : ¬ eqC τ D b a k = true := fun q => by
              unfold eqC at q
              rw [Bool.and_eq_true, Bool.and_eq_true] at q
              exact c q.1
            rw [if_neg this, Nat.add_zero] at nx
            exact nx
          · rw [at_ a c.1, at_ k c.2]
            have ee : eqC τ D b a k = true ↔ hld τ D a b = hld τ D k b := by
              unfold eqC
              rw [c.1, c.2, Bool.true_and, Bool.true_and, decide_eq_true_iff]
            refine ⟨fun q => ?_, fun q => ?_⟩
            · rw [if_neg (fun z => q (ee.mp z)), Nat.add_zero] at nx
              exact nx
            · rw [if_pos (ee.mpr q)] at nx
              exact nx
      exact i18 16 0 (by omega)
  exact eX8_mostAlike (key 16 0 (by omega))
theorem c_weigh {d : Nat} {day : Int32} {τ σ : gw_S} (hw : WF τ) (h : TC τ σ) (hc : CN τ σ) (hk : CK τ σ) : gB (d + 6) mX8_weigh [.ref 0, .int day] σ (QK τ σ (A_weigh τ day)) := by
  have l16 := hw.2.2.2.1.2.1
  have hn := NB_le hw
  refine eX8_weigh (gB_det s_isWithin ⟨_, rfl, br_bi (fun h1 => ?_) (fun h1 => QK.tr h hc hk FT.rf (by rw [A_weigh, if_neg h1]))⟩)
  obtain ⟨D, hD, rfl⟩ := okD_n h1
  refine (s_hidC (d := d) hw h).mono ?_
  rintro _ σ3 ⟨rfl, p3⟩
  refine ⟨_, rfl, (s_hwe (d := d + 1) hw (h.fr p3.tcT) hD).mono ?_⟩
  rintro _ σ5 ⟨rfl, g1, g2⟩
  refine ⟨rfl, ?_⟩
  have f5 : FW σ σ5 := p3.fw.tr g2
  have key : ∀ m b, b + m = NB τ → gG (d + 5 + 1) mX8_weigh 31 [some (.ref 0), none, some (.int (A_hid τ)), some (.int (wbN τ D b).1), some (.int (nI (wbN τ D b).2)), some (.int (nI b)), none] [] σ5 (QK τ σ (A_weigh τ (nI D))) := by
    intro m
    induction m with
    | zero =>
      intro b hb
      have : b = NB τ := by omega
      subst this
      refine bX8_weigh_31 ?_
      rw [show σ5 7 4 = nI (NB τ) from (h.fr f5.tc).1.2.2.2.2.2.2.1.1]
      refine ⟨fun _ => QK.fw h hc hk f5 ?_, fun q => absurd (nI_le (Nat.le_refl _) (by omega)) q⟩
      rw [A_weigh, if_pos h1, i_cl (show D < 2 ^ 31 by omega)]
    | succ m ih =>
      intro b hb
      have nx := ih (b + 1) (by omega)
      have es : wbN τ D (b + 1) = wbS τ D b (wbN τ D b) := rfl
      have lw := wbN_le (D := D) l16 b
      have lm := mx2_le (τ := τ) (D := D) (b := b) (K := nA τ) (nA τ)
      rw [es] at nx
      refine bX8_weigh_31 ?_
      rw [show σ5 7 4 = nI (NB τ) from (h.fr f5.tc).1.2.2.2.2.2.2.1.1, nI_1]
      refine ⟨fun q => absurd q (nI_ge (by omega) (by omega)), fun _ => gB_det (s_mostAlike (d := d + 4) hw g1 (by omega)) ⟨_, rfl, ?_⟩⟩
      rw [nI_leI (by omega) (by omega)]
      refine ⟨fun c => ?_, fun c => ⟨fun c2 => ?_, fun c2 => ?_⟩⟩
      · unfold wbS at nx
        rw [if_pos (Or.inl c)] at nx
        exact nx
      · unfold wbS at nx
        rw [if_neg (fun q => q.elim c (fun z => by omega))] at nx
        exact nx
      · unfold wbS at nx
        rw [if_pos (Or.inr (by omega))] at nx
        exact nx
  exact key (NB τ) 0 (by omega)
