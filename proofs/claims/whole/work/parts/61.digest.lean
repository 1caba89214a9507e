/-! the digest: one number of all answers -/
def fo (F : Nat → Int64 → Int64) : Nat → Int64 → Int64
  | 0, h => h
  | n + 1, h => F n (fo F n h)
def mx (h : Int64) (x : Int32) : Int64 := 31 * h + x.toInt64
def mxL (h x : Int64) : Int64 := 31 * h + x
def dgB (τ : gw_S) (b : Nat) (h : Int64) : Int64 := mx (mxL (mxL (mx (mx (mx (mx (fo (fun w h => mx h (A_bottle τ (nI b) (nI w))) 4 h) (A_holds τ 5 (nI b) (-1))) (A_holds τ 39 (nI b) (-1))) (A_who τ 9 (nI b))) (A_whole τ 39 (nI b))) (A_heat τ 5 (nI b) 6 0)) (A_heat τ 5 (nI b) 6 1)) (A_market τ 7 20 (nI b))
def dgD (τ : gw_S) (D : Int32) (h : Int64) : Int64 := mx (mx (mx (mx (mx (mx (mx h (A_leaked τ D)) (A_lost τ D)) (A_sing τ D (-1))) (A_sing τ D 0)) (A_corks τ D (-1))) (A_corks τ D 0)) (A_weigh τ D)
def dgN : Nat → Int32 := fun i => if i = 0 then 0 else if i = 1 then 5 else 39
def dg1 (τ : gw_S) (n : Nat) : Int64 := fo (fun w h => mx h (A_count τ (nI w))) n 17
def dg2 (τ : gw_S) (n : Nat) : Int64 := fo (fun w h => mx h (A_fault τ (nI w))) n (dg1 τ 8)
def dg3 (τ : gw_S) (n : Nat) : Int64 := fo (dgB τ) n (dg2 τ 2)
def dg4 (τ : gw_S) (n : Nat) : Int64 := fo (fun i h => mx h (A_note τ (nI i))) n (dg3 τ (NB τ))
def dg5 (τ : gw_S) (n : Nat) : Int64 := fo (fun v h => mx (mx (mx h (A_heard τ 39 (nI v))) (A_spilled τ 39 (nI v))) (A_most τ 5 (nI v))) n (dg4 τ (NL τ))
def dg6 (τ : gw_S) (n : Nat) : Int64 := fo (fun p h => mx h (A_has τ 9 (nI p))) n (dg5 τ 8)
def dg7 (τ : gw_S) (n : Nat) : Int64 := fo (fun i h => dgD τ (dgN i) h) n (dg6 τ 6)
def dg8 (τ : gw_S) (n : Nat) : Int64 := fo (fun a h => mx h (A_works τ (nI a))) n (dg7 τ 3)
def A_digest (τ : gw_S) : Int64 := mx (mx (mx (mx (dg8 τ (nA τ)) (A_hid τ)) (A_swapped τ 0)) (A_swapped τ 1)) (A_market τ 7 20 (-1))
theorem fo_0 {F : Nat → Int64 → Int64} {h : Int64} : fo F 0 h = h := rfl
theorem dg2_0 {τ : gw_S} : dg2 τ 0 = dg1 τ 8 := by unfold dg2; exact fo_0
theorem dg3_0 {τ : gw_S} : dg3 τ 0 = dg2 τ 2 := by unfold dg3; exact fo_0
theorem dg4_0 {τ : gw_S} : dg4 τ 0 = dg3 τ (NB τ) := by unfold dg4; exact fo_0
theorem dg5_0 {τ : gw_S} : dg5 τ 0 = dg4 τ (NL τ) := by unfold dg5; exact fo_0
theorem dg6_0 {τ : gw_S} : dg6 τ 0 = dg5 τ 8 := by unfold dg6; exact fo_0
theorem dg7_0 {τ : gw_S} : dg7 τ 0 = dg6 τ 6 := by unfold dg7; exact fo_0
theorem dg8_0 {τ : gw_S} : dg8 τ 0 = dg7 τ 3 := by unfold dg8; exact fo_0
theorem dg1_0 {τ : gw_S} : dg1 τ 0 = 17 := by unfold dg1; exact fo_0
theorem c_mixB {d b : Nat} {x : Int64} {τ σ : gw_S} (hw : WF τ) (h : IC τ σ) : gB (d + 15) mX8_mixBottle [.ref 0, .long x, .int (nI b)] σ (QL τ σ (dgB τ b x)) := by
  have key : ∀ m k (r : gw_S), k + m = 4 → IC τ r → FCl σ r → gG (d + 15) mX8_mixBottle 6 [some (.ref 0), none, none, some (.int (nI b)), some (.long (fo (fun w h => mx h (A_bottle τ (nI b) (nI w))) k x)), none, some (.int (nI k))] [] r (QL τ σ (dgB τ b x)) := by
    intro m
    induction m with
    | zero =>
      intro k r hk i f
      have : k = 4 := by omega
      subst this
      refine bX8_mixBottle_6 ⟨fun _ => ?_, fun q => absurd (by decide) q⟩
      refine (c_holds (d := d + 9) hw i.1 i.2.1).mono ?_
      intro v σ1 q
      obtain ⟨rfl, i, f1⟩ := QC.ic i q
      replace f := f.tr f1
      refine ⟨_, rfl, (c_holds (d := d + 9) hw i.1 i.2.1).mono ?_⟩
      intro v σ1 q
      obtain ⟨rfl, i, f1⟩ := QC.ic i q
      replace f := f.tr f1
      refine ⟨_, rfl, (c_who (d := d + 9) hw i.1 i.2.1).mono ?_⟩
      intro v σ1 q
      obtain ⟨rfl, i, f1⟩ := QC.ic i q
      replace f := f.tr f1
      refine ⟨_, rfl, (c_whole (d := d + 9) hw i.1 i.2.1).mono ?_⟩
      intro v σ1 q
      obtain ⟨rfl, i, f1⟩ := QC.ic i q
      replace f := f.tr f1
      refine ⟨_, rfl, (c_heat (d := d) hw i).mono ?_⟩
      rintro v σ1 ⟨rfl, i, f1⟩
      replace f := f.tr f1
      refine ⟨_, rfl, (c_heat (d := d) hw i).mono ?_⟩
      rintro v σ1 ⟨rfl, i, f1⟩
      replace f := f.tr f1
      refine ⟨_, rfl, (c_market (d := d + 10) hw i.1 i.2.1 i.2.2).mono ?_⟩
      intro v σ1 q
      obtain ⟨rfl, i, f1⟩ := QK.ic q
      exact ⟨_, rfl, rfl, i, f.tr f1⟩
    | succ m ih =>
      intro k r hk i f
      refine bX8_mixBottle_6 ⟨fun q => absurd q (nI_nlt (a := 3) (by omega) (by omega)), fun _ => ?_⟩
      refine (c_bottle (d := d + 12) hw i.1 i.2.1).mono ?_
      intro v σ1 q
      obtain ⟨rfl, i, f1⟩ := QC.ic i q
      refine ⟨_, rfl, ?_⟩
      rw [nI_1 k]
      exact ih (k + 1) σ1 (by omega) i (f.tr f1)
  exact eX8_mixBottle (key 4 0 σ (by omega) h FCl.rf)
theorem dgc_k8 {d : Nat} {τ σ : gw_S} (hw : WF τ) : ∀ m k (r : gw_S), k + m = nA τ → IC τ r → FCl σ r → gG (d + 16) mX8_digest 343 [some (.ref 0), some (.long (dg8 τ k)), none, some (.int (nI k)), none] [] r (QL τ σ (A_digest τ)) := by
  have hn := NB_le hw
  have hl := NL_le hw
  have hA := hw.2.2.2.1.2.1
  intro m
  induction m with
  | zero =>
    intro k r hk i f
    have : k = nA τ := by omega
    subst this
    refine bX8_digest_343 ?_
    rw [i.1.2.1.1]
    refine ⟨fun _ => ?_, fun q => absurd (nI_le (Nat.le_refl _) (by omega)) q⟩
    refine (c_hid (d := d + 10) hw i.1 i.2.1 i.2.2).mono ?_
    intro v σ1 q
    obtain ⟨rfl, i, f1⟩ := QK.ic q
    replace f := f.tr f1
    refine ⟨_, rfl, (c_swapped (d := d + 10) hw i.1 i.2.1 i.2.2).mono ?_⟩
    intro v σ1 q
    obtain ⟨rfl, i, f1⟩ := QK.ic q
    replace f := f.tr f1
    refine ⟨_, rfl, (c_swapped (d := d + 10) hw i.1 i.2.1 i.2.2).mono ?_⟩
    intro v σ1 q
    obtain ⟨rfl, i, f1⟩ := QK.ic q
    replace f := f.tr f1
    refine ⟨_, rfl, (c_market (d := d + 11) hw i.1 i.2.1 i.2.2).mono ?_⟩
    intro v σ1 q
    obtain ⟨rfl, i, f1⟩ := QK.ic q
    exact ⟨_, rfl, rfl, i, f.tr f1⟩
  | succ m ih =>
    intro k r hk i f
    refine bX8_digest_343 ?_
    rw [i.1.2.1.1]
    refine ⟨fun q => absurd q (nI_ge (by omega) (by omega)), fun _ => ?_⟩
    refine (c_works (d := d + 10) hw i.1 i.2.1).mono ?_
    intro v σ1 q
    obtain ⟨rfl, i, f1⟩ := QC.ic i q
    refine ⟨_, rfl, ?_⟩
    rw [nI_1 k]
    exact ih (k + 1) σ1 (by omega) i (f.tr f1)
theorem dgc_y7 {d : Nat} {τ σ : gw_S} (hw : WF τ) : ∀ k (r : gw_S) (D : Int32), k < 3 → D = dgN k → (∀ (r2 : gw_S), IC τ r2 → FCl σ r2 → gG (d + 16) mX8_digest 207 [some (.ref 0), some (.long (dg7 τ (k + 1))), none, some (.int (nI (k + 1))), none] [] r2 (QL τ σ (A_digest τ))) → IC τ r → FCl σ r → gG (d + 16) mX8_digest 231 [some (.ref 0), some (.long (dg7 τ k)), none, some (.int (nI k)), none] [.int D] r (QL τ σ (A_digest τ)) := by
  have hn := NB_le hw
  have hl := NL_le hw
  have hA := hw.2.2.2.1.2.1
  intro k r D hk hD nx i f
  subst hD
  refine bX8_digest_231 ?_
  refine (c_leaked (d := d + 10) hw i.1 i.2.1).mono ?_
  intro v σ1 q
  obtain ⟨rfl, i, f1⟩ := QC.ic i q
  replace f := f.tr f1
  refine ⟨_, rfl, (c_lost (d := d + 10) hw i.1 i.2.1).mono ?_⟩
  intro v σ1 q
  obtain ⟨rfl, i, f1⟩ := QC.ic i q
  replace f := f.tr f1
  refine ⟨_, rfl, (c_sing (d := d + 3) hw i.1 i.2.1).mono ?_⟩
  intro v σ1 q
  obtain ⟨rfl, i, f1⟩ := QX.ic i q
  replace f := f.tr f1
  refine ⟨_, rfl, (c_sing (d := d + 3) hw i.1 i.2.1).mono ?_⟩
  intro v σ1 q
  obtain ⟨rfl, i, f1⟩ := QX.ic i q
  replace f := f.tr f1
  refine ⟨_, rfl, (c_corks (d := d + 2) hw i.1 i.2.1 i.2.2).mono ?_⟩
  intro v σ1 q
  obtain ⟨rfl, i, f1⟩ := QK.ic q
  replace f := f.tr f1
  refine ⟨_, rfl, (c_corks (d := d + 2) hw i.1 i.2.1 i.2.2).mono ?_⟩
  intro v σ1 q
  obtain ⟨rfl, i, f1⟩ := QK.ic q
  replace f := f.tr f1
  refine ⟨_, rfl, (c_weigh (d := d + 9) hw i.1 i.2.1 i.2.2).mono ?_⟩
  intro v σ1 q
  obtain ⟨rfl, i, f1⟩ := QK.ic q
  replace f := f.tr f1
  refine ⟨_, rfl, ?_⟩
  rw [nI_1 k]
  exact nx σ1 i f
theorem dgc_k73 {d : Nat} {τ σ : gw_S} (hw : WF τ) : ∀ (r : gw_S), IC τ r → FCl σ r → gG (d + 16) mX8_digest 207 [some (.ref 0), some (.long (dg7 τ 3)), none, some (.int (nI 3)), none] [] r (QL τ σ (A_digest τ)) := by
  have hn := NB_le hw
  have hl := NL_le hw
  have hA := hw.2.2.2.1.2.1
  exact fun r i f =>
    bX8_digest_207 ⟨fun _ => (by have z := (dgc_k8 (d := d) (σ := σ) hw) (nA τ) 0 r (by omega) i f; rw [dg8_0] at z; exact z), fun q => absurd (by decide) q⟩
theorem dgc_k72 {d : Nat} {τ σ : gw_S} (hw : WF τ) : ∀ (r : gw_S), IC τ r → FCl σ r → gG (d + 16) mX8_digest 207 [some (.ref 0), some (.long (dg7 τ 2)), none, some (.int (nI 2)), none] [] r (QL τ σ (A_digest τ)) := by
  have hn := NB_le hw
  have hl := NL_le hw
  have hA := hw.2.2.2.1.2.1
  exact fun r i f =>
    bX8_digest_207 ⟨fun q => absurd q (by decide), fun _ => ⟨fun _ => ⟨fun _ => (dgc_y7 (d := d) (σ := σ) hw) 2 r 39 (by omega) rfl (dgc_k73 (d := d) (σ := σ) hw) i f, fun q => absurd q (by decide)⟩, fun q => absurd q (by decide)⟩⟩
theorem dgc_k71 {d : Nat} {τ σ : gw_S} (hw : WF τ) : ∀ (r : gw_S), IC τ r → FCl σ r → gG (d + 16) mX8_digest 207 [some (.ref 0), some (.long (dg7 τ 1)), none, some (.int (nI 1)), none] [] r (QL τ σ (A_digest τ)) := by
  have hn := NB_le hw
  have hl := NL_le hw
  have hA := hw.2.2.2.1.2.1
  exact fun r i f =>
    bX8_digest_207 ⟨fun q => absurd q (by decide), fun _ => ⟨fun _ => ⟨fun q => absurd (by decide) q, fun _ => (dgc_y7 (d := d) (σ := σ) hw) 1 r 5 (by omega) rfl (dgc_k72 (d := d) (σ := σ) hw) i f⟩, fun q => absurd q (by decide)⟩⟩
theorem dgc_k70 {d : Nat} {τ σ : gw_S} (hw : WF τ) : ∀ (r : gw_S), IC τ r → FCl σ r → gG (d + 16) mX8_digest 207 [some (.ref 0), some (.long (dg7 τ 0)), none, some (.int (nI 0)), none] [] r (QL τ σ (A_digest τ)) := by
  have hn := NB_le hw
  have hl := NL_le hw
  have hA := hw.2.2.2.1.2.1
  exact fun r i f =>
    bX8_digest_207 ⟨fun q => absurd q (by decide), fun _ => ⟨fun q => absurd (by decide) q, fun _ => (dgc_y7 (d := d) (σ := σ) hw) 0 r 0 (by omega) rfl (dgc_k71 (d := d) (σ := σ) hw) i f⟩⟩
theorem dgc_k6 {d : Nat} {τ σ : gw_S} (hw : WF τ) : ∀ m k (r : gw_S), k + m = 6 → IC τ r → FCl σ r → gG (d + 16) mX8_digest 178 [some (.ref 0), some (.long (dg6 τ k)), none, some (.int (nI k)), none] [] r (QL τ σ (A_digest τ)) := by
  have hn := NB_le hw
  have hl := NL_le hw
  have hA := hw.2.2.2.1.2.1
  intro m
  induction m with
  | zero =>
    intro k r hk i f
    have : k = 6 := by omega
    subst this
    exact bX8_digest_178 ⟨fun _ => (by have z := (dgc_k70 (d := d) (σ := σ) hw) r i f; rw [dg7_0] at z; exact z), fun q => absurd (by decide) q⟩
  | succ m ih =>
    intro k r hk i f
    refine bX8_digest_178 ⟨fun q => absurd q (nI_ge (b := 6) (by omega) (by decide)), fun _ => ?_⟩
    refine (c_has (d := d + 10) hw i.1 i.2.1).mono ?_
    intro v σ1 q
    obtain ⟨rfl, i, f1⟩ := QC.ic i q
    refine ⟨_, rfl, ?_⟩
    rw [nI_1 k]
    exact ih (k + 1) σ1 (by omega) i (f.tr f1)
theorem dgc_k5 {d : Nat} {τ σ : gw_S} (hw : WF τ) : ∀ m k (r : gw_S), k + m = 8 → IC τ r → FCl σ r → gG (d + 16) mX8_digest 120 [some (.ref 0), some (.long (dg5 τ k)), none, some (.int (nI k)), none] [] r (QL τ σ (A_digest τ)) := by
  have hn := NB_le hw
  have hl := NL_le hw
  have hA := hw.2.2.2.1.2.1
  intro m
  induction m with
  | zero =>
    intro k r hk i f
    have : k = 8 := by omega
    subst this
    exact bX8_digest_120 ⟨fun _ => (by have z := (dgc_k6 (d := d) (σ := σ) hw) 6 0 r (by omega) i f; rw [dg6_0] at z; exact z), fun q => absurd (by decide) q⟩
  | succ m ih =>
    intro k r hk i f
    refine bX8_digest_120 ⟨fun q => absurd q (nI_ge (b := 8) (by omega) (by decide)), fun _ => ?_⟩
    refine (c_heard (d := d + 10) hw i.1 i.2.1).mono ?_
    intro v σ1 q
    obtain ⟨rfl, i, f1⟩ := QC.ic i q
    replace f := f.tr f1
    refine ⟨_, rfl, (c_spilled (d := d + 10) hw i.1 i.2.1).mono ?_⟩
    intro v σ1 q
    obtain ⟨rfl, i, f1⟩ := QC.ic i q
    replace f := f.tr f1
    refine ⟨_, rfl, (c_most (d := d + 10) hw i.1 i.2.1).mono ?_⟩
    intro v σ1 q
    obtain ⟨rfl, i, f1⟩ := QC.ic i q
    replace f := f.tr f1
    refine ⟨_, rfl, ?_⟩
    rw [nI_1 k]
    exact ih (k + 1) σ1 (by omega) i f
theorem dgc_k4 {d : Nat} {τ σ : gw_S} (hw : WF τ) : ∀ m k (r : gw_S), k + m = NL τ → IC τ r → FCl σ r → gG (d + 16) mX8_digest 88 [some (.ref 0), some (.long (dg4 τ k)), none, some (.int (nI k)), none] [] r (QL τ σ (A_digest τ)) := by
  have hn := NB_le hw
  have hl := NL_le hw
  have hA := hw.2.2.2.1.2.1
  intro m
  induction m with
  | zero =>
    intro k r hk i f
    have : k = NL τ := by omega
    subst this
    refine bX8_digest_88 ?_
    rw [show r 17 4 = nI (NL τ) from i.1.1.2.2.2.2.2.2.2.1]
    exact ⟨fun _ => (by have z := (dgc_k5 (d := d) (σ := σ) hw) 8 0 r (by omega) i f; rw [dg5_0] at z; exact z), fun q => absurd (nI_le (Nat.le_refl _) (by omega)) q⟩
  | succ m ih =>
    intro k r hk i f
    refine bX8_digest_88 ?_
    rw [show r 17 4 = nI (NL τ) from i.1.1.2.2.2.2.2.2.2.1]
    refine ⟨fun q => absurd q (nI_ge (by omega) (by omega)), fun _ => ?_⟩
    refine (c_note (d := d + 14) hw i.1 i.2.1).mono ?_
    intro v σ1 q
    obtain ⟨rfl, i, f1⟩ := QC.ic i q
    refine ⟨_, rfl, ?_⟩
    rw [nI_1 k]
    exact ih (k + 1) σ1 (by omega) i (f.tr f1)
theorem dgc_k3 {d : Nat} {τ σ : gw_S} (hw : WF τ) : ∀ m k (r : gw_S), k + m = NB τ → IC τ r → FCl σ r → gG (d + 16) mX8_digest 59 [some (.ref 0), some (.long (dg3 τ k)), none, some (.int (nI k)), none] [] r (QL τ σ (A_digest τ)) := by
  have hn := NB_le hw
  have hl := NL_le hw
  have hA := hw.2.2.2.1.2.1
  intro m
  induction m with
  | zero =>
    intro k r hk i f
    have : k = NB τ := by omega
    subst this
    refine bX8_digest_59 ?_
    rw [show r 7 4 = nI (NB τ) from i.1.1.2.2.2.2.2.2.1.1]
    exact ⟨fun _ => (by have z := (dgc_k4 (d := d) (σ := σ) hw) (NL τ) 0 r (by omega) i f; rw [dg4_0] at z; exact z), fun q => absurd (nI_le (Nat.le_refl _) (by omega)) q⟩
  | succ m ih =>
    intro k r hk i f
    refine bX8_digest_59 ?_
    rw [show r 7 4 = nI (NB τ) from i.1.1.2.2.2.2.2.2.1.1]
    refine ⟨fun q => absurd q (nI_ge (by omega) (by omega)), fun _ => ?_⟩
    refine (c_mixB (d := d) hw i).mono ?_
    rintro v σ1 ⟨rfl, i, f1⟩
    refine ⟨_, rfl, ?_⟩
    rw [nI_1 k]
    exact ih (k + 1) σ1 (by omega) i (f.tr f1)
theorem dgc_k2 {d : Nat} {τ σ : gw_S} (hw : WF τ) : ∀ m k (r : gw_S), k + m = 2 → IC τ r → FCl σ r → gG (d + 16) mX8_digest 33 [some (.ref 0), some (.long (dg2 τ k)), none, some (.int (nI k)), none] [] r (QL τ σ (A_digest τ)) := by
  have hn := NB_le hw
  have hl := NL_le hw
  have hA := hw.2.2.2.1.2.1
  intro m
  induction m with
  | zero =>
    intro k r hk i f
    have : k = 2 := by omega
    subst this
    exact bX8_digest_33 ⟨fun _ => (by have z := (dgc_k3 (d := d) (σ := σ) hw) (NB τ) 0 r (by omega) i f; rw [dg3_0] at z; exact z), fun q => absurd (by decide) q⟩
  | succ m ih =>
    intro k r hk i f
    refine bX8_digest_33 ⟨fun q => absurd q (nI_ge (b := 2) (by omega) (by decide)), fun _ => ?_⟩
    refine (c_fault (d := d + 12) hw i.1 i.2.1).mono ?_
    intro v σ1 q
    obtain ⟨rfl, i, f1⟩ := QC.ic i q
    refine ⟨_, rfl, ?_⟩
    rw [nI_1 k]
    exact ih (k + 1) σ1 (by omega) i (f.tr f1)
theorem dgc_k1 {d : Nat} {τ σ : gw_S} (hw : WF τ) : ∀ m k (r : gw_S), k + m = 8 → IC τ r → FCl σ r → gG (d + 16) mX8_digest 6 [some (.ref 0), some (.long (dg1 τ k)), none, some (.int (nI k)), none] [] r (QL τ σ (A_digest τ)) := by
  have hn := NB_le hw
  have hl := NL_le hw
  have hA := hw.2.2.2.1.2.1
  intro m
  induction m with
  | zero =>
    intro k r hk i f
    have : k = 8 := by omega
    subst this
    exact bX8_digest_6 ⟨fun _ => (by have z := (dgc_k2 (d := d) (σ := σ) hw) 2 0 r (by omega) i f; rw [dg2_0] at z; exact z), fun q => absurd (by decide) q⟩
  | succ m ih =>
    intro k r hk i f
    refine bX8_digest_6 ⟨fun q => absurd q (nI_nlt (a := 7) (by omega) (by omega)), fun _ => ?_⟩
    refine (c_count (d := d + 10) hw i.1 i.2.1).mono ?_
    intro v σ1 q
    obtain ⟨rfl, i, f1⟩ := QC.ic i q
    refine ⟨_, rfl, ?_⟩
    rw [nI_1 k]
    exact ih (k + 1) σ1 (by omega) i (f.tr f1)
theorem c_digest {d : Nat} {τ σ : gw_S} (hw : WF τ) (h : IC τ σ) : gB (d + 16) mX8_digest [.ref 0] σ (QL τ σ (A_digest τ)) :=
  eX8_digest ((by have z := (dgc_k1 (d := d) (σ := σ) hw) 8 0 σ (by omega) h FCl.rf; rw [dg1_0] at z; exact z))
