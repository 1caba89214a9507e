/-! heat, in the model: a sum over the sets of hot days -/
def itB (τ : gw_S) : (Nat → Bool) → Nat → Nat → gw_S → gw_S
  | _, 0, _, S => S
  | h, m + 1, D, S => itB τ (fun d => h (d + 1)) m (D + 1) (dyH τ (h 0) D S)
theorem itB_s {τ : gw_S} : ∀ (m : Nat) (h : Nat → Bool) (D : Nat) (S : gw_S), itB τ h (m + 1) D S = dyH τ (h m) (D + m) (itB τ h m D S)
  | 0, _, _, _ => rfl
  | m + 1, h, D, S => by
    show itB τ (fun d => h (d + 1)) (m + 1) (D + 1) (dyH τ (h 0) D S) = _
    rw [itB_s m (fun d => h (d + 1)) (D + 1) (dyH τ (h 0) D S), show D + 1 + m = D + (m + 1) by omega]
    rfl
def wtN (c : Nat) (h : Nat → Bool) : Nat → Nat
  | 0 => 1
  | m + 1 => wtN c h m * (if h m = true then c else 16 - c)
theorem wtN_s {c : Nat} {h : Nat → Bool} : ∀ m, wtN c h (m + 1) = (if h 0 = true then c else 16 - c) * wtN c (fun d => h (d + 1)) m
  | 0 => by
    show 1 * (if h 0 = true then c else 16 - c) = (if h 0 = true then c else 16 - c) * 1
    omega
  | m + 1 => by
    show wtN c h (m + 1) * (if h (m + 1) = true then c else 16 - c) = _ * (wtN c (fun d => h (d + 1)) m * (if h (m + 1) = true then c else 16 - c))
    rw [wtN_s m, Nat.mul_assoc]
def suS (F : Nat → Nat) : Nat → Nat
  | 0 => 0
  | n + 1 => suS F n + F n
theorem suS_two {F : Nat → Nat} : ∀ n, suS F (2 * n) = suS (fun t => F (2 * t) + F (2 * t + 1)) n
  | 0 => rfl
  | n + 1 => by
    show suS F (2 * n + 1 + 1) = suS (fun t => F (2 * t) + F (2 * t + 1)) n + (F (2 * n) + F (2 * n + 1))
    rw [← suS_two n]
    show suS F (2 * n) + F (2 * n) + F (2 * n + 1) = _
    omega
theorem suS_add {F G : Nat → Nat} : ∀ n, suS (fun t => F t + G t) n = suS F n + suS G n
  | 0 => rfl
  | n + 1 => by
    show suS (fun t => F t + G t) n + (F n + G n) = suS F n + F n + (suS G n + G n)
    rw [suS_add n]
    omega
theorem suS_mul {a : Nat} {F : Nat → Nat} : ∀ n, suS (fun t => a * F t) n = a * suS F n
  | 0 => rfl
  | n + 1 => by
    show suS (fun t => a * F t) n + a * F n = a * (suS F n + F n)
    rw [suS_mul n, Nat.mul_add]
theorem suS_congr {F G : Nat → Nat} (h : ∀ t, F t = G t) (n : Nat) : suS F n = suS G n := by
  have : F = G := funext h
  rw [this]
theorem suS_le {F : Nat → Nat} {a : Nat} : ∀ n m, m ≤ n → suS F m ≤ suS F n
  | 0, m, h => by
    have : m = 0 := by omega
    subst this
    exact Nat.le_refl _
  | n + 1, m, h => by
    show suS F m ≤ suS F n + F n
    by_cases e : m = n + 1
    · subst e; exact Nat.le_refl _
    · have := suS_le (F := F) (a := a) n m (by omega)
      omega
abbrev btS (s : Nat) : Nat → Bool := fun d => s.testBit d
def whN (b : Nat) (S : gw_S) : Nat := if S 3 b = 0 then 0 else 1
def seF (τ : gw_S) (c b m D : Nat) (S : gw_S) (s : Nat) : Nat := wtN c (btS s) m * whN b (itB τ (btS s) m D S)
theorem btS_e {t : Nat} : btS (2 * t) 0 = false ∧ btS (2 * t + 1) 0 = true ∧ (fun d => btS (2 * t) (d + 1)) = btS t ∧ (fun d => btS (2 * t + 1) (d + 1)) = btS t := by
  refine ⟨?_, ?_, funext (fun d => ?_), funext (fun d => ?_)⟩
  · show (2 * t).testBit 0 = false
    rw [Nat.testBit_zero]
    simp
  · show (2 * t + 1).testBit 0 = true
    rw [Nat.testBit_zero, decide_eq_true_iff]
    omega
  · show (2 * t).testBit (d + 1) = _
    rw [Nat.testBit_succ, show 2 * t / 2 = t by omega]
  · show (2 * t + 1).testBit (d + 1) = _
    rw [Nat.testBit_succ, show (2 * t + 1) / 2 = t by omega]
theorem wyN_su {τ : gw_S} {c b : Nat} : ∀ (m D : Nat) (S : gw_S), suS (seF τ c b m D S) (2 ^ m) = wyN τ c b m D S
  | 0, D, S => by
    show 0 + 1 * whN b S = if S 3 b = 0 then 0 else 1
    unfold whN
    omega
  | m + 1, D, S => by
    rw [Nat.pow_succ, Nat.mul_comm (2 ^ m) 2, suS_two, suS_add]
    have e0 : ∀ t, seF τ c b (m + 1) D S (2 * t) = (16 - c) * seF τ c b m (D + 1) (dyH τ false D S) t := fun t => by
      unfold seF
      rw [wtN_s]
      show (if btS (2 * t) 0 = true then c else 16 - c) * wtN c (fun d => btS (2 * t) (d + 1)) m * whN b (itB τ (fun d => btS (2 * t) (d + 1)) m (D + 1) (dyH τ (btS (2 * t) 0) D S)) = _
      rw [btS_e.2.2.1, btS_e.1, if_neg (by decide), Nat.mul_assoc]
    have e1 : ∀ t, seF τ c b (m + 1) D S (2 * t + 1) = c * seF τ c b m (D + 1) (dyH τ true D S) t := fun t => by
      unfold seF
      rw [wtN_s]
      show (if btS (2 * t + 1) 0 = true then c else 16 - c) * wtN c (fun d => btS (2 * t + 1) (d + 1)) m * whN b (itB τ (fun d => btS (2 * t + 1) (d + 1)) m (D + 1) (dyH τ (btS (2 * t + 1) 0) D S)) = _
      rw [btS_e.2.2.2, btS_e.2.1, if_pos rfl, Nat.mul_assoc]
    rw [suS_congr e0, suS_congr e1, suS_mul, suS_mul, wyN_su m, wyN_su m]
    rfl
theorem sRun_H {τ : gw_S} {h g : Nat → Bool} {S : gw_S} : ∀ k, (∀ e, e < k → h e = g e) → itN (sDay (NB τ, soT τ, τ, nA τ, -1, h, τ 1 9, 0, (fun _ => 0), fun _ => none)) k S = itB τ g k 0 S
  | 0, _ => rfl
  | k + 1, he => by
    show sDay (NB τ, soT τ, τ, nA τ, -1, h, τ 1 9, 0, (fun _ => 0), fun _ => none) k (itN (sDay (NB τ, soT τ, τ, nA τ, -1, h, τ 1 9, 0, (fun _ => 0), fun _ => none)) k S) = _
    rw [sRun_H k (fun e q => he e (by omega)), itB_s, ← he k (by omega), Nat.zero_add]
    unfold sDay sMorn dyH
    split <;> rfl
theorem sh_D : ∀ D : Fin 10, (1 : Int32) <<< ((nI D.val + 1) &&& 31) = nI (2 ^ (D.val + 1)) := by decide +kernel
def QMl (τ σ : gw_S) (A : Int64) : Option Value → gw_S → Prop := fun v σ' => v = some (.long A) ∧ TM τ σ' ∧ FSc σ σ'
theorem s_heatOf {d c B D : Nat} {w : Int32} {τ σ : gw_S} (hw : WF τ) (h : TM τ σ) (hc : c ≤ 16) (hB : B < 8) (hD : D < 10) : gB (d + 6) mX9_heatOf [.ref 1, .int (nI c), .int (nI B), .int (nI D), .int w] σ (QMl τ σ (aHeat τ c B D w)) := by
  have hn := NB_le hw
  have el : 2 ^ (4 * (D + 1)) ≤ 2 ^ 40 := Nat.pow_le_pow_right (by decide) (by omega)
  have e16 : 16 ^ (D + 1) = 2 ^ (4 * (D + 1)) := by rw [Nat.pow_mul]
  have wl := wyN_le (τ := τ) (b := B) hc (D + 1) 0 (simT τ 0)
  have p2 : 2 ^ (D + 1) ≤ 2 ^ 10 := Nat.pow_le_pow_right (by decide) (by omega)
  refine eX9_heatOf ((s_asTold hw h).mono ?_)
  rintro _ σ1 ⟨rfl, k1, k2⟩
  refine ⟨rfl, ?_⟩
  -- all but the row of hot days is as told
  have key : ∀ m s (r : gw_S), s + m = 2 ^ (D + 1) → AT τ σ1 → TM τ r → FSc σ r → PMt τ r → (r 1 32 = -1 ∧ r 1 33 = -1 ∧ r 1 34 = -1 ∧ r 1 17 = 0 ∧ r 1 19 = 0) → (∀ e, D < e → e < 40 → r 159 e = bi (hotF τ e = true)) → gG (d + 5 + 1) mX9_heatOf 10 [some (.ref 1), some (.int (nI c)), some (.int (nI B)), some (.int (nI D)), some (.int w), some (.long (lN (suS (seF τ c B (D + 1) 0 (simT τ 0)) s))), none, some (.int (nI s)), none, none, none] [] r (QMl τ σ (aHeat τ c B D w)) := by
    intro m
    induction m with
    | zero =>
      intro s r hs _ t1 f1 hp hj hh
      have : s = 2 ^ (D + 1) := by omega
      subst this
      refine bX9_heatOf_10 ?_
      have els : gw_lshl 1 (4 * (nI D + 1)) = lN (2 ^ (4 * (D + 1))) := lsh_e ⟨D, hD⟩
      have esh : (1 : Int32) <<< ((nI D + 1) &&& 31) = nI (2 ^ (D + 1)) := sh_D ⟨D, hD⟩
      rw [els, esh, wyN_su]
      refine ⟨fun _ => gB_det (s_lowest (by omega) (Nat.pow_pos (by decide)) (by omega)) ⟨_, rfl, rfl, t1, f1⟩, fun q => absurd (nI_le (Nat.le_refl _) (by omega)) q⟩
    | succ m ih =>
      intro s r hs k1 t1 f1 hp hj hh
      refine bX9_heatOf_10 ?_
      have esh : (1 : Int32) <<< ((nI D + 1) &&& 31) = nI (2 ^ (D + 1)) := sh_D ⟨D, hD⟩
      rw [esh]
      refine ⟨fun q => absurd q (nI_ge (by omega) (by omega)), fun _ => ?_⟩
      have inn : ∀ y k (r : gw_S), k + y = D + 1 → TM τ r → FSc σ r → PMt τ r → (r 1 32 = -1 ∧ r 1 33 = -1 ∧ r 1 34 = -1 ∧ r 1 17 = 0 ∧ r 1 19 = 0) → (∀ e, D < e → e < 40 → r 159 e = bi (hotF τ e = true)) → (∀ e, e < k → r 159 e = bi (btS s e = true)) → gG (d + 5 + 1) mX9_heatOf 26 [some (.ref 1), some (.int (nI c)), some (.int (nI B)), some (.int (nI D)), some (.int w), some (.long (lN (suS (seF τ c B (D + 1) 0 (simT τ 0)) s))), none, some (.int (nI s)), some (.long (lN (wtN c (btS s) k))), none, some (.int (nI k))] [] r (QMl τ σ (aHeat τ c B D w)) := by
        intro y
        induction y with
        | zero =>
          intro k r hk t1 f1 hp hj hh hb
          have : k = D + 1 := by omega
          subst this
          refine bX9_heatOf_26 ⟨fun _ => ?_, fun q => absurd (nI_lt (by omega) (by omega)) q⟩
          have hr := mkRun (w := -1) (o := -1) (t := -1) (h := fun e => if e < D + 1 then btS s e else hotF τ e) (na := 0) (ck := fun _ => 0) (sl := fun _ => none) hw t1 hp hj.1 hj.2.1 hj.2.2.1 (Or.inl ⟨rfl, rfl⟩) (fun e he => by
            by_cases c : e < D + 1
            · rw [hb e c]; simp only [if_pos c]
            · rw [hh e (by omega) he]; simp only [if_neg c]) ⟨hj.2.2.2.1, by omega, fun k hk => by omega⟩ ⟨0, by omega, hj.2.2.2.2, fun e he => ⟨fun q => by omega, fun _ => rfl⟩⟩
          refine (s_runs (d := d + 2) (show D < 40 by omega) hr.1 hr.2).mono ?_
          rintro _ σ2 ⟨rfl, p1, p2⟩
          have er : sRun (NB τ, soT τ, τ, nA τ, -1, (fun e => if e < D + 1 then btS s e else hotF τ e), τ 1 9, 0, (fun _ => 0), fun _ => none) (Vt τ (-1) (-1)) (Mt τ (-1) (-1)) (Ct τ (-1) (-1)) (D + 1) = itB τ (btS s) (D + 1) 0 (simT τ 0) := sRun_H (D + 1) (fun e q => by simp only [if_pos q])
          have p1' : MS (itB τ (btS s) (D + 1) 0 (simT τ 0)) σ2 := by rw [← er]; exact p1
          have nx := ih (s + 1) σ2 (by omega) k1 (t1.fr p2.sc) (f1.tr p2.sc) (hp.fr p2.fm (by decide) (by decide)) ⟨by rw [p2.fm.2 32 (by decide)]; exact hj.1, by rw [p2.fm.2 33 (by decide)]; exact hj.2.1, by rw [p2.fm.2 34 (by decide)]; exact hj.2.2.1, by rw [p2.fm.2 17 (by decide)]; exact hj.2.2.2.1, by rw [p2.fm.2 19 (by decide)]; exact hj.2.2.2.2⟩ (fun e q1 q2 => by rw [p2.fm.1 159 (by decide) (by decide)]; exact hh e q1 q2)
          have es : suS (seF τ c B (D + 1) 0 (simT τ 0)) (s + 1) = suS (seF τ c B (D + 1) 0 (simT τ 0)) s + seF τ c B (D + 1) 0 (simT τ 0) s := rfl
          rw [es] at nx
          have e3 : seF τ c B (D + 1) 0 (simT τ 0) s = wtN c (btS s) (D + 1) * whN B (itB τ (btS s) (D + 1) 0 (simT τ 0)) := rfl
          rw [i_cl (show B < 2 ^ 31 by omega), (p1'.2.1 B hB).2.2.1, nI_1 s]
          refine ⟨rfl, vp_in_nI hB (by decide), fun z => ?_, fun z => ?_⟩
          · rw [e3, whN, if_pos z, Nat.mul_zero] at nx
            rw [show (0 : Int64) = lN 0 from rfl, lN_add]
            exact nx
          · rw [e3, whN, if_neg z, Nat.mul_one] at nx
            rw [lN_add]
            exact nx
        | succ y ihy =>
          intro k r hk t1 f1 hp hj hh hb
          have vi : vp_in (nI k) 40 := vp_in_nI (by omega) (by decide)
          refine bX9_heatOf_26 ⟨fun q => absurd q (nI_nlt (by omega) (by omega)), fun _ => gB_det s_isIn ?_⟩
          have et : (nI s >>> (nI k &&& 31) &&& 1 = 1) ↔ btS s k = true := tbN (show k < 32 by omega)
          rw [bi_congr et, i_cl (show k < 2 ^ 31 by omega), nI_1 k]
          refine ⟨_, rfl, vi, fun s7 q7 => ⟨vi, ?_⟩⟩
          have en : vp_nar .boolean (bi (btS s k = true)) = bi (btS s k = true) := bi_vnar
          rw [en] at q7
          have fu : FM [159] [] r s7 := by rw [q7]; exact FM.u (Or.inl (by decide))
          have e7 : s7 159 k = bi (btS s k = true) := by rw [q7, gw_self]
          have nx := ihy (k + 1) s7 (by omega) (t1.frL fu (by decide) (by decide)) (f1.tr (fu.wk (by decide) (by decide))) (hp.fr fu (by decide) (by decide)) ⟨by rw [fu.2 32 (by decide)]; exact hj.1, by rw [fu.2 33 (by decide)]; exact hj.2.1, by rw [fu.2 34 (by decide)]; exact hj.2.2.1, by rw [fu.2 17 (by decide)]; exact hj.2.2.2.1, by rw [fu.2 19 (by decide)]; exact hj.2.2.2.2⟩ (fun e q1 q2 => by rw [q7, gw_nj (by omega)]; exact hh e q1 q2) (fun e q => by
            by_cases ee : e = k
            · subst ee; exact e7
            · rw [q7, gw_nj ee]; exact hb e (by omega))
          have ew : wtN c (btS s) (k + 1) = wtN c (btS s) k * (if btS s k = true then c else 16 - c) := rfl
          rw [ew] at nx
          rw [e7]
          refine br_bj (fun z => ?_) (fun z => ?_)
          · rw [if_pos z] at nx
            rw [nI_l (by omega), lN_mul]
            exact nx
          · rw [if_neg z] at nx
            rw [show (16 : Int32) = nI 16 from rfl, nI_sub hc, nI_l (by omega), lN_mul]
            exact nx
      exact inn (D + 1) 0 r (by omega) t1 f1 hp hj hh (fun e q => by omega)
  exact key (2 ^ (D + 1)) 0 σ1 (by omega) k1 (h.frL k2 (by decide) (by decide)) (k2.wk (by decide) (by decide)) k1.1 ⟨k1.2.1, k1.2.2.1, k1.2.2.2.1, k1.2.2.2.2.1, k1.2.2.2.2.2.1⟩ (fun e _ q => k1.2.2.2.2.2.2 e q)
theorem s_no {d : Nat} {σ : gw_S} : gB d mX9_no [.int (-2)] σ (fun v σ' => v = some (.long (-9223372036854775806)) ∧ σ' = σ) := eX9_no ⟨by decide, rfl⟩
theorem m_heat {d : Nat} {c b day w : Int32} {τ σ : gw_S} (hw : WF τ) (h : TM τ σ) : gB (d + 7) mX9_heat [.ref 1, .int c, .int b, .int day, .int w] σ (QMl τ σ (A_heat τ c b day w)) := by
  have hn := NB_le hw
  have bad : ∀ r, TM τ r → FSc σ r → ¬ (ok17 c ∧ okB τ b ∧ ok10 day ∧ okT w) → QMl τ σ (A_heat τ c b day w) (some (.long (-9223372036854775806))) r := fun r t f z => by
    rw [A_heat, if_neg z]
    exact ⟨rfl, t, f⟩
  refine eX9_heat (gB_det s_in ?_)
  rw [bi_congr (by rw [lt_k (c := 16) (c' := 17) (by decide)] : (0 ≤ c ∧ c ≤ 16) ↔ ok17 c)]
  refine ⟨_, rfl, br_bj (fun h1 => ?_) (fun h1 => gB_det s_no ⟨_, rfl, bad σ h FM.rf (fun q => h1 q.1)⟩)⟩
  refine (s_isBottleM (d := d + 1) hw h).mono ?_
  rintro _ σ5 ⟨rfl, -, k2, k3⟩
  refine ⟨_, rfl, br_bj (fun h2 => ?_) (fun h2 => gB_det s_no ⟨_, rfl, bad σ5 k2 k3 (fun q => h2 q.2.1)⟩)⟩
  refine gB_det s_in ?_
  rw [bi_congr (by rw [lt_k (c := 9) (c' := 10) (by decide)] : (0 ≤ day ∧ day ≤ 9) ↔ ok10 day)]
  refine ⟨_, rfl, br_bj (fun h3 => ?_) (fun h3 => gB_det s_no ⟨_, rfl, bad σ5 k2 k3 (fun q => h3 q.2.2.1)⟩)⟩
  refine gB_det s_in ?_
  rw [bi_congr (by rw [lt_k (c := 1) (c' := 2) (by decide)] : (0 ≤ w ∧ w ≤ 1) ↔ okT w)]
  refine ⟨_, rfl, br_bj (fun h4 => ?_) (fun h4 => gB_det s_no ⟨_, rfl, bad σ5 k2 k3 (fun q => h4 q.2.2.2)⟩)⟩
  obtain ⟨C, hC, rfl⟩ : ∃ C, C < 17 ∧ c = nI C := i_in (by decide) h1.1 (i_lt.mp h1.2)
  obtain ⟨B, hB, rfl⟩ := okB_n hw h2
  obtain ⟨D, hD, rfl⟩ : ∃ D, D < 10 ∧ day = nI D := i_in (by decide) h3.1 (i_lt.mp h3.2)
  have eA : A_heat τ (nI C) (nI B) (nI D) w = aHeat τ C B D w := by rw [A_heat, if_pos ⟨h1, h2, h3, h4⟩, i_cl (show C < 2 ^ 31 by omega), i_cl (show B < 2 ^ 31 by omega), i_cl (show D < 2 ^ 31 by omega)]
  rw [eA]
  refine (s_heatOf hw k2 (by omega) (by omega) hD).mono ?_
  rintro _ σ7 ⟨rfl, g1, g2⟩
  exact ⟨_, rfl, rfl, g1, k3.tr g2⟩
