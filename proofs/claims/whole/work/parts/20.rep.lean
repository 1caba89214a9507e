/-! a State of the class holds parcels; how it stands for the days' state S -/
def pcl (c : gw_S) (b v i : Nat) : Int32 := if c 3 i = nI b ∧ c 1 i = nI v then c 2 i else 0
/-- the shape of the parcels -/
def RpA (n : Nat) (c : gw_S) : Prop := c 0 7 = nI n ∧ n ≤ 8 ∧ ∀ i, i < n → (∃ v, v < 8 ∧ c 1 i = nI v) ∧ ∃ p, p < n ∧ c 3 i = nI p
def RpU (n : Nat) (c : gw_S) : Prop := ∀ i j, i < n → j < n → i ≠ j → c 3 i = c 3 j → c 1 i = c 1 j → c 2 i = 0 ∨ c 2 j = 0
def RpV (n : Nat) (S c : gw_S) : Prop := ∀ b v, b < n → v < 8 → S 0 (8 * b + v) = sumN (pcl c b v) n
def RpW (n : Nat) (S c : gw_S) : Prop := ∀ b, b < n → (tb (c 0 9) b ↔ ¬ S 3 b = 0) ∧ (S 3 b = 0 → ∀ i, i < n → c 3 i = nI b → c 2 i = 0)
def RpO (n : Nat) (S c : gw_S) : Prop := (∀ b, b < n → c 5 b = S 1 b ∧ c 4 b = S 2 b) ∧ (∀ v, v < 8 → c 6 v = S 4 v ∧ c 7 v = S 5 v) ∧ c 0 10 = S 6 0 ∧ ∀ a, a < 32 → (tb (c 0 11) a ↔ ¬ S 7 a = 0)
def RpS (n : Nat) (So : Nat → Bool) (c : gw_S) : Prop := ∀ b, b < n → (tb (c 0 8) b ↔ So b = true)
def Rp (n : Nat) (So : Nat → Bool) (S c : gw_S) : Prop := RpA n c ∧ RpU n c ∧ RpV n S c ∧ RpW n S c ∧ RpO n S c ∧ RpS n So c
/-- the State at k -/
def vw (k : Nat) (σ : gw_S) : gw_S := fun i => σ (k + i)
theorem vw_u {k i j : Nat} {v : Int32} {σ : gw_S} : vw k (gw_u σ (k + i) j v) = gw_u (vw k σ) i j v := by
  funext a b
  simp only [vw, gw_at]
  by_cases h : a = i
  · simp [h]
  · have : ¬ k + a = k + i := by omega
    simp [h]
theorem vw_u0 {k j : Nat} {v : Int32} {σ : gw_S} : vw k (gw_u σ k j v) = gw_u (vw k σ) 0 j v := vw_u (i := 0)
/-- nothing but the State at k has changed -/
def FS (k : Nat) (σ σ' : gw_S) : Prop := ∀ m, (m < k ∨ k + 8 ≤ m) → σ' m = σ m
theorem FS.rf {k : Nat} {σ : gw_S} : FS k σ σ := fun _ _ => rfl
theorem FS.tr {k : Nat} {σ σ1 σ2 : gw_S} (h : FS k σ σ1) (h2 : FS k σ1 σ2) : FS k σ σ2 := fun m hm => (h2 m hm).trans (h m hm)
theorem FS.u {k i j : Nat} {v : Int32} {σ : gw_S} (hi : i < 8) : FS k σ (gw_u σ (k + i) j v) := fun m hm => gw_ne (by omega)
theorem FS.u0 {k j : Nat} {v : Int32} {σ : gw_S} : FS k σ (gw_u σ k j v) := fun m hm => gw_ne (by omega)
/-! reads of a State -/
theorem alI_rep {n : Nat} {So : Nat → Bool} {S c : gw_S} (h : Rp n So S c) {b : Nat} (hb : b < n) : sumN (fun i => if c 3 i = nI b then c 2 i else 0) n = alI S b := by
  unfold alI
  have e : sumN (fun v => S 0 (8 * b + v)) 8 = sumN (fun v => sumN (pcl c b v) n) 8 := sumN_congr (fun v hv => h.2.2.1 b v hb hv)
  rw [e, sumN_swap]
  refine sumN_congr (fun i hi => ?_)
  obtain ⟨⟨v, hv, ev⟩, -⟩ := h.1.2.2 i hi
  by_cases hp : c 3 i = nI b
  · rw [if_pos hp, sumN_only (k := v) hv]
    · simp [pcl, hp, ev]
    · intro w hw hne
      have : ¬ nI v = nI w := by rw [nI_eq (by omega) (by omega)]; omega
      simp [pcl, ev, this]
  · rw [if_neg hp, sumN_zero]
    intro w hw
    simp [pcl, hp]
theorem l_allIn {d n k b : Nat} {σ : gw_S} (hk : gw_st k) (hn : n ≤ 8) (hs : σ k 7 = nI n) : ∀ m i x, i + m = n → x = sumN (fun i => if σ (k + 3) i = nI b then σ (k + 2) i else 0) i → gG d mX3_allIn 4 [some (.ref k), some (.int (nI b)), some (.int x), some (.int (nI i))] [] σ (fun v σ' => v = some (.int (sumN (fun i => if σ (k + 3) i = nI b then σ (k + 2) i else 0) n)) ∧ σ' = σ) := by
  intro m
  induction m with
  | zero =>
    intro i x hi hx
    have : i = n := by omega
    subst this
    refine bX3_allIn_4 hk ?_
    rw [hs]
    exact ⟨fun _ => ⟨by rw [hx], rfl⟩, fun c => absurd (nI_le (Nat.le_refl _) (by omega)) c⟩
  | succ m ih =>
    intro i x hi hx
    refine bX3_allIn_4 hk ?_
    rw [hs, i_cl (show i < 2 ^ 31 by omega), nI_1]
    have vi : vp_in (nI i) 8 := vp_in_nI (by omega) (by decide)
    refine ⟨fun c => absurd c (nI_ge (by omega) (by omega)), fun _ => ⟨vi, fun c => ih (i + 1) x (by omega) ?_, fun c => ⟨vi, ih (i + 1) _ (by omega) ?_⟩⟩⟩
    · rw [sumN, ← hx, if_neg c, Int32.add_zero]
    · rw [sumN, ← hx, if_pos c]
theorem s_allIn {d n k b : Nat} {So : Nat → Bool} {S σ : gw_S} (hk : gw_st k) (h : Rp n So S (vw k σ)) (hb : b < n) : gB d mX3_allIn [.ref k, .int (nI b)] σ (fun v σ' => v = some (.int (alI S b)) ∧ σ' = σ) := by
  refine eX3_allIn hk ((l_allIn hk h.1.2.1 h.1.1 n 0 0 (by omega) rfl).mono ?_)
  rintro v σ' ⟨rfl, rfl⟩
  exact ⟨by rw [← alI_rep h hb]; rfl, rfl⟩
theorem l_muchOf {d n k b u : Nat} {σ : gw_S} (hk : gw_st k) (hn : n ≤ 8) (hs : σ k 7 = nI n) : ∀ m i x, i + m = n → x = sumN (pcl (vw k σ) b u) i → gG d mX3_muchOf 5 [some (.ref k), some (.int (nI b)), some (.int (nI u)), some (.int x), some (.int (nI i))] [] σ (fun v σ' => v = some (.int (sumN (pcl (vw k σ) b u) n)) ∧ σ' = σ) := by
  intro m
  induction m with
  | zero =>
    intro i x hi hx
    have : i = n := by omega
    subst this
    refine bX3_muchOf_5 hk ?_
    rw [hs]
    exact ⟨fun _ => ⟨by rw [hx], rfl⟩, fun c => absurd (nI_le (Nat.le_refl _) (by omega)) c⟩
  | succ m ih =>
    intro i x hi hx
    refine bX3_muchOf_5 hk ?_
    rw [hs, i_cl (show i < 2 ^ 31 by omega), nI_1]
    have vi : vp_in (nI i) 8 := vp_in_nI (by omega) (by decide)
    refine ⟨fun c => absurd c (nI_ge (by omega) (by omega)), fun _ => ⟨vi, fun c => ih (i + 1) x (by omega) ?_, fun c => ⟨vi, fun c2 => ih (i + 1) x (by omega) ?_, fun c2 => ⟨vi, ih (i + 1) _ (by omega) ?_⟩⟩⟩⟩
    · rw [sumN, ← hx, pcl, if_neg (fun q => c q.1), Int32.add_zero]
    · rw [sumN, ← hx, pcl, if_neg (fun q => c2 q.2), Int32.add_zero]
    · rw [sumN, ← hx, pcl, if_pos ⟨c, c2⟩]
      rfl
theorem s_muchOf {d n k b u : Nat} {So : Nat → Bool} {S σ : gw_S} (hk : gw_st k) (h : Rp n So S (vw k σ)) (hb : b < n) (hu : u < 8) : gB d mX3_muchOf [.ref k, .int (nI b), .int (nI u)] σ (fun v σ' => v = some (.int (S 0 (8 * b + u))) ∧ σ' = σ) := by
  refine eX3_muchOf hk ((l_muchOf hk h.1.2.1 h.1.1 n 0 0 (by omega) rfl).mono ?_)
  rintro v σ' ⟨rfl, rfl⟩
  exact ⟨by rw [h.2.2.1 b u hb hu], rfl⟩
/-- a bottle beyond those that there are holds nothing -/
theorem s_muchOf0 {d n k b u : Nat} {So : Nat → Bool} {S σ : gw_S} (hk : gw_st k) (h : Rp n So S (vw k σ)) (hb : ¬ b < n) (hb2 : b < 2 ^ 31) : gB d mX3_muchOf [.ref k, .int (nI b), .int (nI u)] σ (fun v σ' => v = some (.int 0) ∧ σ' = σ) := by
  refine eX3_muchOf hk ((l_muchOf hk h.1.2.1 h.1.1 n 0 0 (by omega) rfl).mono ?_)
  rintro v σ' ⟨rfl, rfl⟩
  refine ⟨?_, rfl⟩
  rw [sumN_zero]
  intro i hi
  obtain ⟨-, p, hp, ep⟩ := h.1.2.2 i hi
  have hn := h.1.2.1
  rw [pcl, if_neg]
  rintro ⟨q, -⟩
  rw [ep, nI_eq (by omega) hb2] at q
  omega
theorem s_isWholeC {d n k b : Nat} {So : Nat → Bool} {S σ : gw_S} (hk : gw_st k) (h : Rp n So S (vw k σ)) (hb : b < 2 ^ 31) : gB d mX3_isWhole [.ref k, .int (nI b)] σ (fun v σ' => v = some (.int (bi (b < n ∧ ¬ S 3 b = 0))) ∧ σ' = σ) := by
  have hn := h.1.2.1
  have hs : σ k 7 = nI n := h.1.1
  refine eX3_isWhole hk ?_
  rw [hs, nI_leI (by omega) hb]
  refine ⟨fun c => absurd c (nI_pos hb), fun _ => ⟨fun c => ⟨by rw [bi_f (fun q => by omega)], rfl⟩, fun c => ?_⟩⟩
  have hw := (h.2.2.2.1 b (by omega)).1
  exact ⟨fun c2 => ⟨by rw [bi_f (fun q => c2 (hw.mpr q.2))], rfl⟩, fun c2 => ⟨by rw [bi_t ⟨by omega, hw.mp c2⟩], rfl⟩⟩
/-! who still has what: bits -/
theorem tb_orN {g : Nat → Int32} {u : Nat} (hu : u < 32) : ∀ {n : Nat}, tb (orN g n) u ↔ ∃ i, i < n ∧ tb (g i) u
  | 0 => by
    constructor
    · intro h; exact absurd h (tb_0 hu)
    · rintro ⟨i, hi, -⟩; omega
  | n + 1 => by
    unfold orN
    rw [tb_or hu, tb_orN hu]
    constructor
    · rintro (⟨i, h1, h2⟩ | h)
      · exact ⟨i, by omega, h2⟩
      · exact ⟨n, by omega, h⟩
    · rintro ⟨i, h1, h2⟩
      by_cases e : i = n
      · subst e; exact Or.inr h2
      · exact Or.inl ⟨i, by omega, h2⟩
/-- of a voice in a bottle there is one parcel, or none, that holds something -/
theorem rep_pos {n : Nat} {So : Nat → Bool} {S c : gw_S} (h : Rp n So S c) {b u : Nat} (hb : b < n) (hu : u < 8) : (¬ S 0 (8 * b + u) ≤ 0) ↔ ∃ i, i < n ∧ c 3 i = nI b ∧ c 1 i = nI u ∧ ¬ c 2 i ≤ 0 := by
  rw [h.2.2.1 b u hb hu]
  by_cases hx : ∃ i, i < n ∧ c 3 i = nI b ∧ c 1 i = nI u ∧ ¬ c 2 i = 0
  · obtain ⟨i, hi, h3, h1, h2⟩ := hx
    have e : sumN (pcl c b u) n = c 2 i := by
      rw [sumN_only (k := i) hi]
      · simp [pcl, h3, h1]
      · intro j hj hne
        unfold pcl
        split
        · rename_i q
          rcases h.2.1 i j hi hj (Ne.symm hne) (by rw [h3, q.1]) (by rw [h1, q.2]) with z | z
          · exact absurd z h2
          · exact z
        · rfl
    rw [e]
    constructor
    · intro q; exact ⟨i, hi, h3, h1, q⟩
    · rintro ⟨j, hj, j3, j1, j2⟩
      by_cases ej : j = i
      · subst ej; exact j2
      · rcases h.2.1 i j hi hj (Ne.symm ej) (by rw [h3, j3]) (by rw [h1, j1]) with z | z
        · exact absurd z h2
        · exact absurd (by rw [z]; decide) j2
  · have e : sumN (pcl c b u) n = 0 := by
      refine sumN_zero (fun i hi => ?_)
      unfold pcl
      split
      · rename_i q
        exact Classical.byContradiction (fun z => hx ⟨i, hi, q.1, q.2, z⟩)
      · rfl
    rw [e]
    constructor
    · intro q; exact absurd (by decide) q
    · rintro ⟨j, hj, j3, j1, j2⟩
      exact absurd ⟨j, hj, j3, j1, fun z => j2 (by rw [z]; decide)⟩ hx
def vwG (c : gw_S) (o : Int32) (i : Nat) : Int32 := if ¬ c 2 i ≤ 0 ∧ (o = -1 ∨ c 5 (c 3 i).toNatClampNeg = o) then (1 : Int32) <<< (c 1 i &&& 31) else 0
theorem l_voicesWith {d n k : Nat} {o : Int32} {σ : gw_S} (hk : gw_st k) (h : RpA n (vw k σ)) : ∀ m i x, i + m = n → x = orN (vwG (vw k σ) o) i → gG d mX3_voicesWith 4 [some (.ref k), some (.int o), some (.int x), some (.int (nI i))] [] σ (fun v σ' => v = some (.int (orN (vwG (vw k σ) o) n)) ∧ σ' = σ) := by
  have hn := h.2.1
  have hs : σ k 7 = nI n := h.1
  intro m
  induction m with
  | zero =>
    intro i x hi hx
    have : i = n := by omega
    subst this
    refine bX3_voicesWith_4 hk ?_
    rw [hs]
    exact ⟨fun _ => ⟨by rw [hx], rfl⟩, fun c => absurd (nI_le (Nat.le_refl _) (by omega)) c⟩
  | succ m ih =>
    intro i x hi hx
    obtain ⟨-, p, hp, ep⟩ := h.2.2 i (by omega)
    have ep' : σ (k + 3) i = nI p := ep
    refine bX3_voicesWith_4 hk ?_
    rw [hs, i_cl (show i < 2 ^ 31 by omega), nI_1]
    have vi : vp_in (nI i) 8 := vp_in_nI (by omega) (by decide)
    have vp : vp_in (σ (k + 3) i) 8 := by rw [ep']; exact vp_in_nI (by omega) (by decide)
    have no : ¬ (¬ vw k σ 2 i ≤ 0 ∧ (o = -1 ∨ vw k σ 5 (vw k σ 3 i).toNatClampNeg = o)) → gG d mX3_voicesWith 4 [some (.ref k), some (.int o), some (.int x), some (.int (nI (i + 1)))] [] σ (fun v σ' => v = some (.int (orN (vwG (vw k σ) o) n)) ∧ σ' = σ) := fun c => ih (i + 1) x (by omega) (by rw [orN, ← hx, vwG, if_neg c, Int32.or_zero])
    have yes : (¬ vw k σ 2 i ≤ 0 ∧ (o = -1 ∨ vw k σ 5 (vw k σ 3 i).toNatClampNeg = o)) → gG d mX3_voicesWith 4 [some (.ref k), some (.int o), some (.int (x ||| (1 : Int32) <<< (σ (k + 1) i &&& 31))), some (.int (nI (i + 1)))] [] σ (fun v σ' => v = some (.int (orN (vwG (vw k σ) o) n)) ∧ σ' = σ) := fun c => ih (i + 1) _ (by omega) (by rw [orN, ← hx, vwG, if_pos c]; rfl)
    refine ⟨fun c => absurd c (nI_ge (by omega) (by omega)), fun _ => ⟨vi, fun c => no (fun q => q.1 c), fun c => ?_⟩⟩
    first
      | exact ⟨fun c2 => ⟨vi, yes ⟨c, Or.inl c2⟩⟩, fun c2 => ⟨vi, vp, fun c3 => no (fun q => q.2.elim c2 c3), fun c3 => ⟨vi, yes ⟨c, Or.inr c3⟩⟩⟩⟩
      | exact ⟨fun c2 => ⟨vi, vp, fun c3 => no (fun q => q.2.elim c2 c3), fun c3 => ⟨vi, yes ⟨c, Or.inr c3⟩⟩⟩, fun c2 => ⟨vi, yes ⟨c, Or.inl c2⟩⟩⟩
theorem has_rep {n : Nat} {So : Nat → Bool} {S c : gw_S} {o : Int32} (h : Rp n So S c) : orN (vwG c o) n = if o = -1 then aStill S n else aHas S n o := by
  have hn := h.1.2.1
  apply tb_ext
  intro u hu
  rw [tb_orN hu]
  have L : (∃ i, i < n ∧ tb (vwG c o i) u) ↔ ∃ b, b < n ∧ u < 8 ∧ (o = -1 ∨ S 1 b = o) ∧ ¬ S 0 (8 * b + u) ≤ 0 := by
    constructor
    · rintro ⟨i, hi, ht⟩
      obtain ⟨⟨v, hv, ev⟩, p, hp, ep⟩ := h.1.2.2 i hi
      unfold vwG at ht
      split at ht
      · rename_i q
        rw [ev, tb_one (by omega) hu] at ht
        subst ht
        rw [ep, i_cl (show p < 2 ^ 31 by omega), (h.2.2.2.2.1.1 p hp).1] at q
        exact ⟨p, hp, hv, q.2, (rep_pos h hp hv).mpr ⟨i, hi, ep, ev, q.1⟩⟩
      · exact absurd ht (tb_0 hu)
    · rintro ⟨b, hb, hv, ho, hp⟩
      obtain ⟨i, hi, i3, i1, i2⟩ := (rep_pos h hb hv).mp hp
      refine ⟨i, hi, ?_⟩
      unfold vwG
      rw [if_pos]
      · rw [i1, tb_one (by omega) hu]
      · rw [i3, i_cl (show b < 2 ^ 31 by omega), (h.2.2.2.2.1.1 b hb).1]
        exact ⟨i2, ho⟩
  rw [L]
  by_cases ho : o = -1
  · rw [if_pos ho, aStill, tb_orN hu]
    constructor
    · rintro ⟨b, hb, hv, -, hp⟩
      refine ⟨b, hb, (tb_orN hu).mpr ⟨u, hv, ?_⟩⟩
      rw [stG, if_pos hp, tb_one hu hu]
    · rintro ⟨b, hb, ht⟩
      obtain ⟨w, hw, ht⟩ := (tb_orN hu).mp ht
      unfold stG at ht
      split at ht
      · rename_i q
        rw [tb_one (by omega) hu] at ht
        subst ht
        exact ⟨b, hb, hw, Or.inl ho, q⟩
      · exact absurd ht (tb_0 hu)
  · rw [if_neg ho, aHas, tb_orN hu]
    constructor
    · rintro ⟨b, hb, hv, h1, hp⟩
      refine ⟨b, hb, (tb_orN hu).mpr ⟨u, hv, ?_⟩⟩
      rw [hasG, if_pos ⟨h1.resolve_left ho, hp⟩, tb_one hu hu]
    · rintro ⟨b, hb, ht⟩
      obtain ⟨w, hw, ht⟩ := (tb_orN hu).mp ht
      unfold hasG at ht
      split at ht
      · rename_i q
        rw [tb_one (by omega) hu] at ht
        subst ht
        exact ⟨b, hb, hw, Or.inr q.1, q.2⟩
      · exact absurd ht (tb_0 hu)
theorem s_voicesWith {d n k : Nat} {o : Int32} {So : Nat → Bool} {S σ : gw_S} (hk : gw_st k) (h : Rp n So S (vw k σ)) : gB d mX3_voicesWith [.ref k, .int o] σ (fun v σ' => v = some (.int (if o = -1 then aStill S n else aHas S n o)) ∧ σ' = σ) := by
  refine eX3_voicesWith hk ((l_voicesWith hk h.1 n 0 0 (by omega) rfl).mono ?_)
  rintro v σ' ⟨rfl, rfl⟩
  exact ⟨by rw [has_rep h], rfl⟩
