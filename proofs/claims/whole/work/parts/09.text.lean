abbrev okL (b : Int32) : Prop := 97 ≤ b ∧ b ≤ 104
abbrev okF (b : Int32) : Prop := 48 ≤ b ∧ b ≤ 57
/-- may this byte stand at place i of the text of bottles -/
def okAt (f : Nat → Int32) (i : Nat) : Bool :=
  if i % 6 = 0 then decide (okL (f i)) else if i % 6 = 1 then decide (okF (f i)) else if i % 6 = 2 then decide (okF (f i) ∧ ¬ (f i = 48 ∧ f (i - 1) = 48)) else if i % 6 = 3 then decide (okF (f i)) else if i % 6 = 4 then decide (f i = 110 ∨ f i = 115) else decide (f i = 59)
/-- the first bad place of m from i on, else their end -/
def fbF (f : Nat → Int32) : Nat → Nat → Nat
  | 0, i => i
  | m + 1, i => if okAt f i = true then fbF f m (i + 1) else i
def fauR (n j : Nat) : Int32 := if j < n then nI j else if n = 0 ∨ n % 6 = 5 then -1 else nI n
/-- the FAULT of the bottles' text -/
def fauB (f : Nat → Int32) (n : Nat) : Int32 := fauR n (fbF f n 0)
theorem fbF_ge (f : Nat → Int32) : ∀ m i, i ≤ fbF f m i
  | 0, i => Nat.le_refl i
  | m + 1, i => by
    unfold fbF
    split
    · have := fbF_ge f m (i + 1)
      omega
    · omega
theorem fbF_le (f : Nat → Int32) : ∀ m i, fbF f m i ≤ i + m
  | 0, i => Nat.le_refl i
  | m + 1, i => by
    unfold fbF
    split
    · have := fbF_le f m (i + 1)
      omega
    · omega
theorem fbF_ok (f : Nat → Int32) : ∀ m i j, i ≤ j → j < fbF f m i → okAt f j = true
  | 0, i, j, h1, h2 => by unfold fbF at h2; omega
  | m + 1, i, j, h1, h2 => by
    unfold fbF at h2
    split at h2
    · rename_i h
      by_cases e : i = j
      · subst e; exact h
      · exact fbF_ok f m (i + 1) j (by omega) h2
    · omega
theorem fbF_bad (f : Nat → Int32) : ∀ m i, fbF f m i < i + m → okAt f (fbF f m i) = false
  | 0, i, h => by unfold fbF at h; omega
  | m + 1, i, h => by
    unfold fbF at h ⊢
    split
    · rename_i h1
      rw [if_pos h1] at h
      exact fbF_bad f m (i + 1) (by omega)
    · rename_i h1
      simpa using h1
theorem fbF_congr (f g : Nat → Int32) : ∀ m i, (∀ j, j < i + m → f j = g j) → fbF f m i = fbF g m i
  | 0, i, _ => rfl
  | m + 1, i, h => by
    have e : okAt f i = okAt g i := by
      unfold okAt
      rw [h i (by omega), h (i - 1) (by omega)]
    unfold fbF
    rw [e, fbF_congr f g m (i + 1) (fun j hj => h j (by omega))]
theorem fauB_congr {f g : Nat → Int32} {n : Nat} (h : ∀ j, j < n → f j = g j) : fauB f n = fauB g n := by
  unfold fauB
  rw [fbF_congr f g n 0 (fun j hj => h j (by omega))]
theorem nI_div {n c : Nat} (hn : n < 2 ^ 31) (hc : 0 < c) (hc2 : c < 2 ^ 31) : nI n / nI c = nI (n / c) := by
  apply Int32.toInt_inj.mp
  have h1 : (n / c) ≤ n := Nat.div_le_self n c
  rw [Int32.toInt_div_of_ne_left, nI_toInt hn, nI_toInt hc2, nI_toInt (by omega)]
  · rw [Int.tdiv_eq_ediv_of_nonneg (by omega)]
    simp
  · intro e
    have := congrArg Int32.toInt e
    rw [nI_toInt hn] at this
    have h2 : Int32.minValue.toInt = -2147483648 := by decide
    omega
theorem nI_mul (a b : Nat) : nI a * nI b = nI (a * b) := by
  unfold nI
  rw [Int32.ofNat_mul]
theorem nI_sub {a b : Nat} (h : b ≤ a) : nI a - nI b = nI (a - b) := by
  have e : nI a = nI (a - b) + nI b := by rw [nI_add, Nat.sub_add_cancel h]
  rw [e, Int32.add_sub_cancel]
theorem rem_nI {n c : Nat} (hn : n < 2 ^ 31) (hc : 0 < c) (hc2 : c < 2 ^ 31) : gw_rem (nI n) (nI c) = nI (n % c) := by
  unfold gw_rem
  rw [nI_div hn hc hc2, nI_mul, nI_sub (Nat.div_mul_le_self n c)]
  congr 1
  have := Nat.div_add_mod n c
  have e : n / c * c = c * (n / c) := Nat.mul_comm _ _
  omega
theorem rem6 {n : Nat} (hn : n < 2 ^ 31) : gw_rem (nI n) 6 = nI (n % 6) := rem_nI (c := 6) hn (by decide) (by decide)
theorem nI_eqk {n : Nat} {k : Nat} (hn : n < 2 ^ 31) (hk : k < 2 ^ 31) : nI n = nI k ↔ n = k := nI_eq hn hk
theorem s_mayStandAt {d : Nat} {k i : Nat} {σ : gw_S} (hk : gw_tx k) (hi : i < 47) : gB (d + 1) mX5_mayStandAt [.ref k, .int (nI i)] σ (fun v σ' => v = some (.int (bi (okAt (σ (k + 1)) i = true))) ∧ σ' = σ) := by
  have hc : (nI i).toNatClampNeg = i := i_cl (by omega)
  have hr : gw_rem (nI i) 6 = nI (i % 6) := rem6 (by omega)
  have key : ∀ c : Nat, c < 2 ^ 31 → (nI (i % 6) = nI c ↔ i % 6 = c) := fun c hc => nI_eq (by omega) hc
  refine eX5_mayStandAt hk ?_
  rw [hr, hc]
  refine ⟨vp_in_nI hi (by decide), fun c => ?_, fun c => ?_, fun c => ?_, fun c => ?_, fun c => ?_, fun c0 c1 c2 c3 c4 => ?_⟩
  · have e := (key 0 (by decide)).mp c
    refine gB_det s_isLetter ⟨_, rfl, bi_nar, bi_sm ?_, rfl⟩
    unfold okAt
    rw [if_pos e, decide_eq_true_iff]
  · have e := (key 1 (by decide)).mp c
    refine gB_det s_isFigure ⟨_, rfl, bi_nar, bi_sm ?_, rfl⟩
    unfold okAt
    rw [if_neg (by omega), if_pos e, decide_eq_true_iff]
  · have e := (key 2 (by decide)).mp c
    have e2 : okAt (σ (k + 1)) i = decide (okF (σ (k + 1) i) ∧ ¬ (σ (k + 1) i = 48 ∧ σ (k + 1) (i - 1) = 48)) := by
      unfold okAt
      rw [if_neg (by omega), if_neg (by omega), if_pos e]
    have e3 : (nI i - 1).toNatClampNeg = i - 1 := by
      rw [show nI i - 1 = nI i - nI 1 from rfl, nI_sub (by omega), i_cl (by omega)]
    have e4 : vp_in (nI i - 1) 47 := by
      rw [show nI i - 1 = nI i - nI 1 from rfl, nI_sub (by omega)]
      exact vp_in_nI (by omega) (by decide)
    have e5 : ¬ nI i < 1 := by
      rw [show (1 : Int32) = nI 1 from rfl]
      exact nI_nlt (by omega) (by omega)
    rw [e2]
    refine gB_det s_isFigure ⟨_, rfl, br_bj (fun h1 => ⟨fun h2 => ⟨?_, rfl⟩, fun h2 => ⟨fun h3 => absurd h3 e5, fun h3 => ⟨e4, ?_⟩⟩⟩) (fun h1 => ⟨?_, rfl⟩)⟩
    · rw [bi_t]
      simp [h2, h1]
    · rw [e3]
      refine ⟨fun h4 => ⟨?_, rfl⟩, fun h4 => ⟨?_, rfl⟩⟩
      · rw [bi_f]
        simp [h2, h4]
      · rw [bi_t]
        simp only [decide_eq_true_iff]
        exact ⟨h1, fun q => h4 q.2⟩
    · rw [bi_f]
      simp only [decide_eq_true_iff]
      exact fun q => h1 q.1
  · have e := (key 3 (by decide)).mp c
    refine gB_det s_isFigure ⟨_, rfl, bi_nar, bi_sm ?_, rfl⟩
    unfold okAt
    rw [if_neg (by omega), if_neg (by omega), if_neg (by omega), if_pos e, decide_eq_true_iff]
  · have e := (key 4 (by decide)).mp c
    have e2 : okAt (σ (k + 1)) i = decide (σ (k + 1) i = 110 ∨ σ (k + 1) i = 115) := by
      unfold okAt
      rw [if_neg (by omega), if_neg (by omega), if_neg (by omega), if_neg (by omega), if_pos e]
    rw [e2]
    refine ⟨fun h1 => ⟨?_, rfl⟩, fun h1 => ⟨fun h2 => ⟨?_, rfl⟩, fun h2 => ⟨?_, rfl⟩⟩⟩
    · rw [bi_t]
      simp [h1]
    · rw [bi_f]
      simp [h1, h2]
    · rw [bi_t]
      simp [h2]
  · have e0 : ¬ i % 6 = 0 := fun h => c0 ((key 0 (by decide)).mpr h)
    have e1 : ¬ i % 6 = 1 := fun h => c1 ((key 1 (by decide)).mpr h)
    have e2 : ¬ i % 6 = 2 := fun h => c2 ((key 2 (by decide)).mpr h)
    have e3 : ¬ i % 6 = 3 := fun h => c3 ((key 3 (by decide)).mpr h)
    have e4 : ¬ i % 6 = 4 := fun h => c4 ((key 4 (by decide)).mpr h)
    have e5 : okAt (σ (k + 1)) i = decide (σ (k + 1) i = 59) := by
      unfold okAt
      rw [if_neg e0, if_neg e1, if_neg e2, if_neg e3, if_neg e4]
    rw [e5]
    refine ⟨fun h1 => ⟨?_, rfl⟩, fun h1 => ⟨?_, rfl⟩⟩
    · rw [bi_f]
      simp [h1]
    · rw [bi_t]
      simp [h1]
theorem l_faultB {d : Nat} {k n : Nat} {σ : gw_S} (hk : gw_tx k) (hn : n ≤ 47) (hs : σ k 2 = nI n) : ∀ m i, i + m = n → gG (d + 1 + 1) mX5_faultAsBottles 2 [some (.ref k), some (.int (nI i))] [] σ (fun v σ' => v = some (.int (fauR n (fbF (σ (k + 1)) m i))) ∧ σ' = σ) := by
  intro m
  induction m with
  | zero =>
    intro i hi
    refine bX5_faultAsBottles_2 hk ⟨fun _ => ?_, fun c => absurd (by rw [hs]; exact nI_le (by omega) (by omega)) c⟩
    rw [hs]
    unfold fbF fauR
    rw [if_neg (show ¬ i < n by omega)]
    refine ⟨fun c => ⟨?_, rfl⟩, fun c => ⟨fun e => ⟨?_, rfl⟩, fun e => ⟨?_, rfl⟩⟩⟩
    · rw [if_pos]
      exact Or.inl ((nI_eq (b := 0) (by omega) (by decide)).mp c)
    · rw [rem6 (by omega)] at e
      rw [if_neg]
      intro q
      rcases q with q | q
      · exact c (by rw [q]; rfl)
      · exact e (by rw [q]; rfl)
    · rw [rem6 (by omega)] at e
      rw [if_pos]
      exact Or.inr ((nI_eq (b := 5) (by omega) (by decide)).mp e)
  | succ m ih =>
    intro i hi
    refine bX5_faultAsBottles_2 hk ⟨fun c => absurd c (by rw [hs]; exact nI_ge (by omega) (by omega)), fun _ => ?_⟩
    refine gB_det (s_mayStandAt hk (by omega)) ⟨_, rfl, br_bi (fun c => ?_) (fun c => ⟨?_, rfl⟩)⟩
    · rw [nI_1]
      have := ih (i + 1) (by omega)
      unfold fbF
      rw [if_pos c]
      exact this
    · unfold fbF
      rw [if_neg c, fauR, if_pos (by omega)]
theorem s_faultB {d : Nat} {k n : Nat} {σ : gw_S} (hk : gw_tx k) (hn : n ≤ 47) (hs : σ k 2 = nI n) : gB (d + 2) mX5_faultAsBottles [.ref k] σ (fun v σ' => v = some (.int (fauB (σ (k + 1)) n)) ∧ σ' = σ) :=
  eX5_faultAsBottles hk (l_faultB hk hn hs n 0 (by omega))
/-! the song -/
def fsF (f : Nat → Int32) : Nat → Nat → Nat
  | 0, i => i
  | m + 1, i => if okL (f i) then fsF f m (i + 1) else i
def fauS (f : Nat → Int32) (n : Nat) : Int32 := if fsF f n 0 < n then nI (fsF f n 0) else -1
theorem fsF_ge (f : Nat → Int32) : ∀ m i, i ≤ fsF f m i
  | 0, i => Nat.le_refl i
  | m + 1, i => by
    unfold fsF
    split
    · have := fsF_ge f m (i + 1)
      omega
    · omega
theorem fsF_le (f : Nat → Int32) : ∀ m i, fsF f m i ≤ i + m
  | 0, i => Nat.le_refl i
  | m + 1, i => by
    unfold fsF
    split
    · have := fsF_le f m (i + 1)
      omega
    · omega
theorem fsF_ok (f : Nat → Int32) : ∀ m i j, i ≤ j → j < fsF f m i → okL (f j)
  | 0, i, j, h1, h2 => by unfold fsF at h2; omega
  | m + 1, i, j, h1, h2 => by
    unfold fsF at h2
    split at h2
    · rename_i h
      by_cases e : i = j
      · subst e; exact h
      · exact fsF_ok f m (i + 1) j (by omega) h2
    · omega
theorem fsF_congr (f g : Nat → Int32) : ∀ m i, (∀ j, j < i + m → f j = g j) → fsF f m i = fsF g m i
  | 0, i, _ => rfl
  | m + 1, i, h => by
    unfold fsF
    rw [h i (by omega), fsF_congr f g m (i + 1) (fun j hj => h j (by omega))]
theorem fauS_congr {f g : Nat → Int32} {n : Nat} (h : ∀ j, j < n → f j = g j) : fauS f n = fauS g n := by
  unfold fauS
  rw [fsF_congr f g n 0 (fun j hj => h j (by omega))]
theorem l_faultS {d : Nat} {k n : Nat} {σ : gw_S} (hk : gw_tx k) (hn : n ≤ 47) (hs : σ k 2 = nI n) : ∀ m i, i + m = n → gG (d + 1) mX5_faultAsSong 2 [some (.ref k), some (.int (nI i))] [] σ (fun v σ' => v = some (.int (if fsF (σ (k + 1)) m i < n then nI (fsF (σ (k + 1)) m i) else -1)) ∧ σ' = σ) := by
  intro m
  induction m with
  | zero =>
    intro i hi
    refine bX5_faultAsSong_2 hk ⟨fun _ => ⟨?_, rfl⟩, fun c => absurd (by rw [hs]; exact nI_le (by omega) (by omega)) c⟩
    unfold fsF
    rw [if_neg (by omega)]
  | succ m ih =>
    intro i hi
    refine bX5_faultAsSong_2 hk ⟨fun c => absurd c (by rw [hs]; exact nI_ge (by omega) (by omega)), fun _ => ⟨vp_in_nI (by omega) (by decide), ?_⟩⟩
    rw [i_cl (show i < 2 ^ 31 by omega)]
    refine gB_det s_isLetter ⟨_, rfl, br_bi (fun c => ?_) (fun c => ⟨?_, rfl⟩)⟩
    · rw [nI_1]
      have := ih (i + 1) (by omega)
      unfold fsF
      rw [if_pos c]
      exact this
    · unfold fsF
      rw [if_neg c, if_pos (by omega)]
theorem s_faultS {d : Nat} {k n : Nat} {σ : gw_S} (hk : gw_tx k) (hn : n ≤ 47) (hs : σ k 2 = nI n) : gB (d + 1) mX5_faultAsSong [.ref k] σ (fun v σ' => v = some (.int (fauS (σ (k + 1)) n)) ∧ σ' = σ) :=
  eX5_faultAsSong hk (l_faultS hk hn hs n 0 (by omega))
