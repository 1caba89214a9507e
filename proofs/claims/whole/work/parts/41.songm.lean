/-! the song, in the model -/
theorem sh1 : ∀ n : Fin 9, (1 : Int32) <<< (nI n.val &&& 31) = nI (2 ^ n.val) := by decide
/-- what the song needs of the model's rows -/
def MSo (S : gw_S) (n L : Nat) (nt : Nat → Nat) (σ : gw_S) : Prop := σ 1 2 = nI n ∧ n ≤ 8 ∧ σ 1 7 = nI L ∧ L ≤ 8 ∧ MS S σ ∧ (∀ i, i < L → σ 146 i = nI (nt i) ∧ nt i < 8) ∧ VB n S
theorem MSo.fr {S : gw_S} {n L : Nat} {nt : Nat → Nat} {σ σ' : gw_S} (h : MSo S n L nt σ) (hf : FM [163] [] σ σ') : MSo S n L nt σ' := by
  obtain ⟨h1, h2, h3, h4, h5, h6, h7⟩ := h
  have k1 : ∀ j, σ' 1 j = σ 1 j := fun j => hf.2 j (by simp)
  have k : ∀ m, m ≠ 1 → m ≠ 163 → σ' m = σ m := fun m a b => hf.1 m a (by simpa using b)
  refine ⟨by rw [k1]; exact h1, h2, by rw [k1]; exact h3, h4, ?_, by rw [k 146 (by decide) (by decide)]; exact h6, h7⟩
  unfold MS at h5 ⊢
  rw [k 155 (by decide) (by decide), k 156 (by decide) (by decide), k 157 (by decide) (by decide), k 158 (by decide) (by decide), k 161 (by decide) (by decide), k 162 (by decide) (by decide), k 160 (by decide) (by decide), k1, k1]
  exact h5
abbrev spL (S : gw_S) (n : Nat) (nt : Nat → Nat) : Nat → Nat → Nat := fun i b => spN S n (nt i) b
theorem s_spill {d i b n L : Nat} {S σ : gw_S} {nt : Nat → Nat} (h : MSo S n L nt σ) (hi : i < L) (hb : b < n) : gB (d + 1) mX9_spill [.ref 1, .int (nI i), .int (nI b)] σ (fun v σ' => v = some (.int (nI (spL S n nt i b))) ∧ σ' = σ) := by
  obtain ⟨h1, h2, h3, h4, h5, h6, h7⟩ := h
  obtain ⟨e1, e2⟩ := h6 i hi
  have sp := (spI_n (b := b) h7 h2 e2).1
  refine eX9_spill ?_
  rw [i_cl (show i < 2 ^ 31 by omega), e1, e8, i_cl (show 8 * b + nt i < 2 ^ 31 by omega), h5.1 _ (by omega)]
  refine ⟨vp_in_nI (by omega) (by decide), vp_in_nI (by omega) (by decide), fun c => ⟨?_, rfl⟩, fun c => gB_det (s_allInM (by omega) h5) ⟨_, rfl, ?_, rfl⟩⟩
  · rw [← sp, spI, if_neg (fun q => q.2 c)]
  · rw [← sp, spI, if_pos ⟨hb, c⟩]
def SPL (sp : Nat → Nat → Nat) (n L : Nat) (k : Nat) (r : gw_S) : Prop := ∀ i s, k ≤ i → i ≤ L → s < 2 ^ n → r 163 (256 * i + s) = nI (lsF sp L (L - i) s)
theorem e256 {i s : Nat} : (256 : Int32) * nI i + nI s = nI (256 * i + s) := by rw [show (256 : Int32) = nI 256 from rfl, nI_mul, nI_add]
theorem pw_le {n : Nat} (h : n ≤ 8) : 2 ^ n ≤ 256 := Nat.pow_le_pow_right (by decide) h
theorem FM.s163 {σ r : gw_S} {j : Nat} {v : Int32} (h : FM [163] [] σ r) : FM [163] [] σ (gw_u r 163 j v) := h.tr (FM.u (Or.inl (by decide)))
theorem e6 : (1000000 : Int32) = nI 1000000 := rfl
def aLays (sp : Nat → Nat → Nat) (L : Nat) : Int32 := if lsF sp L L 0 < 1000000 then nI (lsF sp L L 0) else -1
theorem s_lays {d n L : Nat} {S σ : gw_S} {nt : Nat → Nat} (h : MSo S n L nt σ) : gB (d + 2) mX9_laysSpills [.ref 1] σ (fun v σ' => v = some (.int (aLays (spL S n nt) L)) ∧ SPL (spL S n nt) n L 0 σ' ∧ FM [163] [] σ σ') := by
  obtain ⟨h1, h2, h3, h4, h5, h6, h7⟩ := id h
  have p8 := pw_le h2
  have p0 : 0 < 2 ^ n := Nat.pow_pos (by decide)
  have es : (1 : Int32) <<< (nI n &&& 31) = nI (2 ^ n) := sh1 ⟨n, by omega⟩
  have spo : ∀ i b, n ≤ b → b < 8 → 1000000 ≤ spL S n nt i b := fun i b hb _ => by
    show 1000000 ≤ spN S n (nt i) b
    rw [spN_out (by omega)]
    exact Nat.le_refl _
  have ext : ∀ m s, miN (lsG (spL S n nt) L m s) n = lsF (spL S n nt) L (m + 1) s := fun m s => by
    rw [lsF_s]
    have := miN_ext (g := lsG (spL S n nt) L m s) (n := n) (8 - n) (fun b h1 h2 => by
      unfold lsG
      split
      · exact Nat.le_refl _
      · have := spo (L - (m + 1)) b h1 (by omega); omega)
    rw [show n + (8 - n) = 8 by omega] at this
    exact this.symm
  have gle : ∀ k s b, k < L → lsG (spL S n nt) L (L - (k + 1)) s b ≤ 2000000 := fun k s b hk => by
    unfold lsG
    split
    · omega
    · have l1 := lsF_le (sp := spL S n nt) (L := L) (m := L - (k + 1)) (s := s ||| 2 ^ b)
      have := (spI_n (b := b) h7 h2 (h6 k hk).2).2
      rw [show L - (L - (k + 1) + 1) = k by omega]
      show spN S n (nt k) b + _ ≤ _
      omega
  -- a set, bottle by bottle
  have l64 : ∀ k s (r : gw_S) (Q : Option Value → gw_S → Prop), k < L → s < 2 ^ n → FM [163] [] σ r → SPL (spL S n nt) n L (k + 1) r → (∀ r2, r2 = gw_u r 163 (256 * k + s) (nI (lsF (spL S n nt) L (L - k) s)) → gG (d + 1 + 1) mX9_laysSpills 47 [some (.ref 1), some (.int (nI k)), some (.int (nI (s + 1))), none, none, none] [] r2 Q) → ∀ m b, b + m = n → gG (d + 1 + 1) mX9_laysSpills 64 [some (.ref 1), some (.int (nI k)), some (.int (nI s)), some (.int (nI (miN (lsG (spL S n nt) L (L - (k + 1)) s) b))), some (.int (nI b)), none] [] r Q := by
    intro k s r Q hk hs hf hS hQ m
    have hr := h.fr hf
    induction m with
    | zero =>
      intro b hb
      have : b = n := by omega
      subst this
      refine bX9_laysSpills_64 ?_
      rw [hr.1, e256, i_cl (show 256 * k + s < 2 ^ 31 by omega), nI_1, ext, show L - (k + 1) + 1 = L - k by omega]
      exact ⟨fun _ => ⟨vp_in_nI (by omega) (by decide), fun s2 q2 => hQ s2 q2⟩, fun c => absurd (nI_le (Nat.le_refl _) (by omega)) c⟩
    | succ m ih =>
      intro b hb
      have lb := miN_le (g := lsG (spL S n nt) L (L - (k + 1)) s) b
      have gl := gle k s b hk
      have em : miN (lsG (spL S n nt) L (L - (k + 1)) s) (b + 1) = min (miN (lsG (spL S n nt) L (L - (k + 1)) s) b) (lsG (spL S n nt) L (L - (k + 1)) s b) := rfl
      have ih1 := ih (b + 1) (by omega)
      refine bX9_laysSpills_64 ?_
      rw [hr.1, nI_1 k, nI_1 b]
      refine ⟨fun c => absurd c (nI_ge (by omega) (by omega)), fun _ => gB_det s_isIn ⟨_, rfl, br_bj (fun c => ?_) (fun c => ?_)⟩⟩
      · have c' : s.testBit b = true := (tbn (by omega) (by omega)).mp c
        have eg : lsG (spL S n nt) L (L - (k + 1)) s b = 1000000 := by unfold lsG; rw [if_pos c']
        have ex : miN (lsG (spL S n nt) L (L - (k + 1)) s) (b + 1) = miN (lsG (spL S n nt) L (L - (k + 1)) s) b := by rw [em, eg, Nat.min_eq_left lb]
        rw [ex] at ih1
        exact ⟨fun _ => ih1, fun q => absurd (by rw [e6]; exact nI_le lb (by omega)) q⟩
      · have c' : ¬ s.testBit b = true := fun q => c ((tbn (by omega) (by omega)).mpr q)
        have hb8 : b < 8 := by omega
        have ho : s ||| 2 ^ b < 2 ^ n := Nat.or_lt_two_pow hs (Nat.pow_lt_pow_right (by decide) (by omega))
        have eg : lsG (spL S n nt) L (L - (k + 1)) s b = spL S n nt k b + lsF (spL S n nt) L (L - (k + 1)) (s ||| 2 ^ b) := by
          unfold lsG
          rw [if_neg c', show L - (L - (k + 1) + 1) = k by omega]
        refine gB_det (s_spill hr hk (by omega)) ⟨_, rfl, ?_⟩
        rw [(nI_or1 (by omega) hb8).1, e256, i_cl (show 256 * (k + 1) + (s ||| 2 ^ b) < 2 ^ 31 by omega), hS (k + 1) _ (Nat.le_refl _) (by omega) ho, nI_add, ← eg, nI_leI (by omega) (by omega)]
        refine ⟨vp_in_nI (by omega) (by decide), fun q => ?_, fun q => ?_⟩
        · rw [em, Nat.min_eq_left q] at ih1
          exact ih1
        · rw [em, Nat.min_eq_right (by omega)] at ih1
          exact ih1
  have l47 : ∀ k (Q : Option Value → gw_S → Prop), k < L → (∀ r, FM [163] [] σ r → SPL (spL S n nt) n L k r → gG (d + 1 + 1) mX9_laysSpills 41 [some (.ref 1), some (.int (nI k + (-1))), none, none, none, none] [] r Q) → ∀ m s (r : gw_S), s + m = 2 ^ n → FM [163] [] σ r → SPL (spL S n nt) n L (k + 1) r → (∀ s', s' < s → r 163 (256 * k + s') = nI (lsF (spL S n nt) L (L - k) s')) → gG (d + 1 + 1) mX9_laysSpills 47 [some (.ref 1), some (.int (nI k)), some (.int (nI s)), none, none, none] [] r Q := by
    intro k Q hk hQ m
    induction m with
    | zero =>
      intro s r hs hf hS hp
      have : s = 2 ^ n := by omega
      subst this
      refine bX9_laysSpills_47 ?_
      rw [(h.fr hf).1, es]
      refine ⟨fun _ => hQ r hf (fun i s' a1 a2 a3 => ?_), fun c => absurd (nI_le (Nat.le_refl _) (by omega)) c⟩
      by_cases e : i = k
      · rw [e]; exact hp s' a3
      · exact hS i s' (by omega) a2 a3
    | succ m ih =>
      intro s r hs hf hS hp
      refine bX9_laysSpills_47 ?_
      rw [(h.fr hf).1, es]
      refine ⟨fun c => absurd c (nI_ge (by omega) (by omega)), fun _ => l64 k s r Q hk (by omega) hf hS (fun r2 q2 => ?_) n 0 (by omega)⟩
      rw [q2]
      refine ih (s + 1) _ (by omega) hf.s163 (fun i s' a1 a2 a3 => ?_) (fun s' a => ?_)
      · rw [gw_nj (by omega)]; exact hS i s' a1 a2 a3
      · rw [gw_at]
        by_cases e : s' = s
        · rw [if_pos ⟨rfl, by rw [e]⟩, e]
        · rw [if_neg (fun q => e (by omega))]
          exact hp s' (by omega)
  have l41 : ∀ k (r : gw_S), k ≤ L → FM [163] [] σ r → SPL (spL S n nt) n L k r → gG (d + 1 + 1) mX9_laysSpills 41 [some (.ref 1), some (.int (nI k - 1)), none, none, none, none] [] r (fun v σ' => v = some (.int (aLays (spL S n nt) L)) ∧ SPL (spL S n nt) n L 0 σ' ∧ FM [163] [] σ σ') := by
    intro k
    induction k with
    | zero =>
      intro r hk hf hS
      have e0 : r 163 (0 : Int32).toNatClampNeg = nI (lsF (spL S n nt) L L 0) := hS 0 0 (Nat.le_refl _) hk p0
      have ll := lsF_le (sp := spL S n nt) (L := L) (m := L) (s := 0)
      refine bX9_laysSpills_41 ?_
      rw [e0, e6, nI_leI (by omega) (by omega)]
      refine ⟨fun _ => ⟨fun q => ⟨by rw [aLays, if_neg (by omega)], hS, hf⟩, fun q => ⟨by rw [aLays, if_pos (by omega)], hS, hf⟩⟩, fun q => absurd (by decide) q⟩
    | succ k ih =>
      intro r hk hf hS
      have e1 : nI (k + 1) - 1 = nI k := nI_pred k
      rw [e1]
      refine bX9_laysSpills_41 ⟨fun q => absurd q (nI_pos (by omega)), fun _ => l47 k _ (by omega) (fun r2 hf2 hS2 => ?_) (2 ^ n) 0 r (by omega) hf hS (fun s' a => by omega)⟩
      rw [show nI k + (-1) = nI k - 1 from (Int32.sub_eq_add_neg _ _).symm]
      exact ih r2 (by omega) hf2 hS2
  have l2 : ∀ m s (r : gw_S), s + m = 2 ^ n → FM [163] [] σ r → (∀ s', s' < s → r 163 (256 * L + s') = 0) → gG (d + 1 + 1) mX9_laysSpills 2 [some (.ref 1), some (.int (nI s)), none, none, none, none] [] r (fun v σ' => v = some (.int (aLays (spL S n nt) L)) ∧ SPL (spL S n nt) n L 0 σ' ∧ FM [163] [] σ σ') := by
    intro m
    induction m with
    | zero =>
      intro s r hs hf hp
      have : s = 2 ^ n := by omega
      subst this
      have hr := h.fr hf
      refine bX9_laysSpills_2 ?_
      rw [hr.1, es, hr.2.2.1]
      refine ⟨fun _ => l41 L r (Nat.le_refl _) hf (fun i s' a1 a2 a3 => ?_), fun c => absurd (nI_le (Nat.le_refl _) (by omega)) c⟩
      have : i = L := by omega
      rw [this, hp s' a3, Nat.sub_self]
      rfl
    | succ m ih =>
      intro s r hs hf hp
      have hr := h.fr hf
      refine bX9_laysSpills_2 ?_
      rw [hr.1, es, hr.2.2.1, e256, i_cl (show 256 * L + s < 2 ^ 31 by omega), nI_1]
      refine ⟨fun c => absurd c (nI_ge (by omega) (by omega)), fun _ => ⟨vp_in_nI (by omega) (by decide), fun s1 q1 => ih (s + 1) s1 (by omega) (by rw [q1]; exact hf.s163) (fun s' a => ?_)⟩⟩
      rw [q1, gw_at]
      by_cases e : s' = s
      · rw [if_pos ⟨rfl, by rw [e]⟩]
      · rw [if_neg (fun q => e (by omega))]
        exact hp s' (by omega)
  exact eX9_laysSpills (l2 (2 ^ n) 0 σ (by omega) FM.rf (fun s' a => by omega))
/-! what sing answers -/
def aSing (sp : Nat → Nat → Nat) (L : Nat) (x : Int32) : Int32 := if lsF sp L L 0 < 1000000 then (if x = -1 then nI (lsF sp L L 0) else if nI L ≤ x then -1 else nI (rwB sp L x.toNatClampNeg)) else -1
theorem rwS_n {sp : Nat → Nat → Nat} {L n : Nat} (hn : n ≤ 8) (h : lsF sp L L 0 < 1000000) (ho : ∀ i b, n ≤ b → b < 8 → 1000000 ≤ sp i b) : ∀ k, k ≤ L → rwS sp L k < 2 ^ n ∧ (k < L → rwB sp L k < n)
  | 0, _ => ⟨Nat.pow_pos (by decide), fun hk => by
    obtain ⟨b1, b2, -, -⟩ := rwB_ok h hk
    have := (nxP_iff.mp b2).2.1
    by_cases q : rwB sp L 0 < n
    · exact q
    · have := ho (L - (L - (0 + 1) + 1)) _ (by omega) b1
      omega⟩
  | k + 1, hk => by
    obtain ⟨h1, h2⟩ := rwS_n hn h ho k (by omega)
    have h3 := h2 (by omega)
    refine ⟨?_, fun hk2 => ?_⟩
    · rw [(rwB_ok h (by omega)).2.2.2]
      exact Nat.or_lt_two_pow h1 (Nat.pow_lt_pow_right (by decide) h3)
    · obtain ⟨b1, b2, -, -⟩ := rwB_ok h hk2
      have := (nxP_iff.mp b2).2.1
      by_cases q : rwB sp L (k + 1) < n
      · exact q
      · have := ho (L - (L - (k + 1 + 1) + 1)) _ (by omega) b1
        omega
theorem l_sing {d n L : Nat} {S σ : gw_S} {nt : Nat → Nat} (h : MSo S n L nt σ) (hS : SPL (spL S n nt) n L 0 σ) (hl : lsF (spL S n nt) L L 0 < 1000000) {I : Nat} (hI : I < 8) : ∀ m k x5, k + m = min (I + 1) L → (0 < k → x5 = nI (rwB (spL S n nt) L (k - 1))) → gG (d + 1 + 1) mX9_singOf 31 [some (.ref 1), none, some (.int (nI I)), none, some (.int (nI (rwS (spL S n nt) L k))), some (.int x5), some (.int (nI k)), none, none] [] σ (fun v σ' => v = some (.int (if nI L ≤ nI I then -1 else nI (rwB (spL S n nt) L I))) ∧ σ' = σ) := by
  obtain ⟨h1, h2, h3, h4, h5, h6, h7⟩ := id h
  have p8 := pw_le h2
  have spo : ∀ i b, n ≤ b → b < 8 → 1000000 ≤ spL S n nt i b := fun i b hb _ => by
    show 1000000 ≤ spN S n (nt i) b
    rw [spN_out (by omega)]
    exact Nat.le_refl _
  -- the bottles of one letter, from the last down
  have l57 : ∀ k (Q : Option Value → gw_S → Prop), k < L → (∀ x, x = nI (rwB (spL S n nt) L k) → gG (d + 1 + 1) mX9_singOf 31 [some (.ref 1), none, some (.int (nI I)), none, some (.int (nI (rwS (spL S n nt) L k) ||| ((1 : Int32) <<< (x &&& 31)))), some (.int x), some (.int (nI (k + 1))), none, none] [] σ Q) → ∀ c x5, c ≤ n → ((∃ r, c ≤ r ∧ r < n ∧ nxP (spL S n nt) L (L - (k + 1)) (rwS (spL S n nt) L k) r = true ∧ (∀ e, c ≤ e → e < r → nxP (spL S n nt) L (L - (k + 1)) (rwS (spL S n nt) L k) e = false) ∧ x5 = nI r) ∨ (∀ e, c ≤ e → e < n → nxP (spL S n nt) L (L - (k + 1)) (rwS (spL S n nt) L k) e = false)) → gG (d + 1 + 1) mX9_singOf 57 [some (.ref 1), none, some (.int (nI I)), none, some (.int (nI (rwS (spL S n nt) L k))), some (.int x5), some (.int (nI k)), some (.int (nI c - 1)), none] [] σ Q := by
    intro k Q hk hQ c
    obtain ⟨r1, r2⟩ := rwS_n h2 hl spo k (by omega)
    have r3 := r2 hk
    obtain ⟨b1, b2, b3, b4⟩ := rwB_ok hl hk
    induction c with
    | zero =>
      intro x5 _ hx
      have ex : x5 = nI (rwB (spL S n nt) L k) := by
        rcases hx with ⟨r, a1, a2, a3, a4, a5⟩ | hx
        · have e : r = rwB (spL S n nt) L k := by
            by_cases q : r < rwB (spL S n nt) L k
            · rw [b3 r q] at a3; exact absurd a3 (by decide)
            · by_cases q2 : rwB (spL S n nt) L k < r
              · rw [a4 _ (Nat.zero_le _) q2] at b2; exact absurd b2 (by decide)
              · omega
          rw [a5, e]
        · rw [hx _ (Nat.zero_le _) r3] at b2; exact absurd b2 (by decide)
      refine bX9_singOf_57 ?_
      rw [nI_1]
      exact ⟨fun _ => hQ x5 ex, fun q => absurd (by decide) q⟩
    | succ c ih =>
      intro x5 hc hx
      have e1 : nI (c + 1) - 1 = nI c := nI_pred c
      have e2 : nI c + (-1) = nI c - 1 := (Int32.sub_eq_add_neg _ _).symm
      have no : nxP (spL S n nt) L (L - (k + 1)) (rwS (spL S n nt) L k) c = false → gG (d + 1 + 1) mX9_singOf 57 [some (.ref 1), none, some (.int (nI I)), none, some (.int (nI (rwS (spL S n nt) L k))), some (.int x5), some (.int (nI k)), some (.int (nI c - 1)), none] [] σ Q := fun q => by
        refine ih x5 (by omega) ?_
        rcases hx with ⟨r, a1, a2, a3, a4, a5⟩ | hx
        · refine Or.inl ⟨r, by omega, a2, a3, fun e z1 z2 => ?_, a5⟩
          by_cases ec : e = c
          · rw [ec]; exact q
          · exact a4 e (by omega) z2
        · refine Or.inr (fun e z1 z2 => ?_)
          by_cases ec : e = c
          · rw [ec]; exact q
          · exact hx e (by omega) z2
      have yes : nxP (spL S n nt) L (L - (k + 1)) (rwS (spL S n nt) L k) c = true → gG (d + 1 + 1) mX9_singOf 57 [some (.ref 1), none, some (.int (nI I)), none, some (.int (nI (rwS (spL S n nt) L k))), some (.int (nI c)), some (.int (nI k)), some (.int (nI c - 1)), none] [] σ Q := fun q => ih (nI c) (by omega) (Or.inl ⟨c, Nat.le_refl _, by omega, q, fun e z1 z2 => by omega, rfl⟩)
      have mk : L - (L - (k + 1) + 1) = k := by omega
      rw [e1]
      refine bX9_singOf_57 ⟨fun q => absurd q (nI_pos (by omega)), fun _ => gB_det s_isIn ⟨_, rfl, br_bi (fun t => ?_) (fun t => ?_)⟩⟩
      · have t' : (rwS (spL S n nt) L k).testBit c = true := (tbn (by omega) (by omega)).mp t
        rw [e2]
        refine ⟨fun _ => no ?_, fun q => absurd rfl q⟩
        unfold nxP
        rw [t']; rfl
      · have t' : (rwS (spL S n nt) L k).testBit c = false := by
          have := fun q => t ((tbn (by omega) (by omega)).mpr q)
          simpa using this
        have ls := (spI_n (b := c) h7 h2 (h6 k hk).2).2
        have ls' : spL S n nt k c ≤ 1000000 := ls
        refine gB_det (s_spill h hk (by omega)) ⟨_, rfl, ?_⟩
        rw [e6, nI_leI (by omega) (by omega), e2]
        refine ⟨fun q => ⟨fun _ => no ?_, fun q => absurd rfl q⟩, fun q => gB_det (s_spill h hk (by omega)) ⟨_, rfl, ?_⟩⟩
        · by_cases z : nxP (spL S n nt) L (L - (k + 1)) (rwS (spL S n nt) L k) c = true
          · have := (nxP_iff.mp z).2.1
            rw [mk] at this
            omega
          · simpa using z
        · have ho : rwS (spL S n nt) L k ||| 2 ^ c < 2 ^ n := Nat.or_lt_two_pow r1 (Nat.pow_lt_pow_right (by decide) (by omega))
          have l1 := lsF_le (sp := spL S n nt) (L := L) (m := L - (k + 1)) (s := rwS (spL S n nt) L k ||| 2 ^ c)
          have l2 := lsF_le (sp := spL S n nt) (L := L) (m := L - k) (s := rwS (spL S n nt) L k)
          rw [nI_1, (nI_or1 (by omega) (by omega)).1, e256, e256, i_cl (show 256 * (k + 1) + (rwS (spL S n nt) L k ||| 2 ^ c) < 2 ^ 31 by omega), i_cl (show 256 * k + rwS (spL S n nt) L k < 2 ^ 31 by omega), hS (k + 1) _ (Nat.zero_le _) (by omega) ho, hS k _ (Nat.zero_le _) (by omega) r1, nI_add, nI_eq (by omega) (by omega)]
          refine ⟨vp_in_nI (by omega) (by decide), vp_in_nI (by omega) (by decide), fun z => ⟨fun _ => no ?_, fun q => absurd rfl q⟩, fun z => ⟨fun q => absurd q (by decide), fun _ => yes (nxP_iff.mpr ?_)⟩⟩
          · by_cases y : nxP (spL S n nt) L (L - (k + 1)) (rwS (spL S n nt) L k) c = true
            · have := (nxP_iff.mp y).2.2
              rw [mk, show L - (k + 1) + 1 = L - k by omega] at this
              exact absurd this z
            · simpa using y
          · rw [mk, show L - (k + 1) + 1 = L - k by omega]
            exact ⟨t', by omega, z⟩
  intro m
  induction m with
  | zero =>
    intro k x5 hk hx
    have fin : (nI L ≤ nI I → some (Value.int (-1)) = some (Value.int (if nI L ≤ nI I then -1 else nI (rwB (spL S n nt) L I))) ∧ σ = σ) ∧ (¬ nI L ≤ nI I → some (Value.int x5) = some (Value.int (if nI L ≤ nI I then -1 else nI (rwB (spL S n nt) L I))) ∧ σ = σ) := by
      refine ⟨fun q => ⟨by rw [if_pos q], rfl⟩, fun q => ⟨?_, rfl⟩⟩
      rw [if_neg q]
      rw [nI_leI (by omega) (by omega)] at q
      have : k = I + 1 := by omega
      rw [hx (by omega), this]
      rfl
    refine bX9_singOf_31 ?_
    rw [h3]
    refine ⟨fun _ => fin, fun q => ⟨fun _ => fin, fun q2 => ?_⟩⟩
    rw [nI_ltI (by omega) (by omega)] at q
    rw [nI_leI (by omega) (by omega)] at q2
    omega
  | succ m ih =>
    intro k x5 hk hx
    refine bX9_singOf_31 ?_
    rw [h3, h1]
    refine ⟨fun q => ?_, fun q => ⟨fun q2 => ?_, fun q2 => ?_⟩⟩
    · rw [nI_ltI (by omega) (by omega)] at q
      omega
    · rw [nI_leI (by omega) (by omega)] at q2
      omega
    · have hk2 : k < L := by omega
      refine l57 k _ hk2 (fun x e => ?_) n (-1) (Nat.le_refl _) (Or.inr (fun e a b => by omega))
      obtain ⟨b1, b2, b3, b4⟩ := rwB_ok hl hk2
      have r1 := (rw_ok hl k (by omega)).2.1
      subst e
      rw [(nI_or1 r1 b1).1, ← b4]
      exact ih (k + 1) _ (by omega) (fun _ => rfl)
