/-! the song, as pure functions -/
theorem dig_n {x : Int32} (h : okF x) : ∃ m, m ≤ 9 ∧ x = nI (48 + m) := by
  obtain ⟨c1, c2⟩ := h
  rw [i_le] at c1 c2
  rw [show (48 : Int32).toInt = 48 from by decide] at c1
  rw [show (57 : Int32).toInt = 57 from by decide] at c2
  obtain ⟨j, hj, e⟩ := i_nn (x := x) (by rw [i_le, show (0 : Int32).toInt = 0 from by decide]; omega)
  rw [e, nI_toInt hj] at c1 c2
  exact ⟨j - 48, by omega, by rw [e]; congr 1; omega⟩
theorem let_n {x : Int32} (h : okL x) : ∃ m, m < 8 ∧ x - 97 = nI m := by
  obtain ⟨c1, c2⟩ := h
  rw [i_le] at c1 c2
  rw [show (97 : Int32).toInt = 97 from by decide] at c1
  rw [show (104 : Int32).toInt = 104 from by decide] at c2
  obtain ⟨j, hj, e⟩ := i_nn (x := x) (by rw [i_le, show (0 : Int32).toInt = 0 from by decide]; omega)
  rw [e, nI_toInt hj] at c1 c2
  exact ⟨j - 97, by omega, by rw [e, show (97 : Int32) = nI 97 from rfl, nI_sub (by omega)]⟩
theorem pM_ok {τ : gw_S} (hw : WF τ) {b : Nat} (hb : b < NB τ) : ∃ m, m ≤ 99 ∧ pM (f0 τ) b = nI m := by
  obtain ⟨h1, h2⟩ := nBo_in hw.1.2.1 hb
  obtain ⟨x, hx, ex⟩ := dig_n (okAt1.mp (h2 (6 * b + 1) (by omega)))
  obtain ⟨y, hy, ey⟩ := dig_n (okAt2.mp (h2 (6 * b + 2) (by omega))).1
  refine ⟨10 * x + y, by omega, ?_⟩
  unfold pM
  rw [ex, ey, show (48 : Int32) = nI 48 from rfl, nI_sub (by omega), show (10 : Int32) = nI 10 from rfl, nI_mul, nI_add, nI_sub (by omega)]
  congr 1
  omega
theorem pC_ok {τ : gw_S} (hw : WF τ) {b : Nat} (hb : b < NB τ) : ∃ m, m ≤ 9 ∧ pC (f0 τ) b = nI m := by
  obtain ⟨h1, h2⟩ := nBo_in hw.1.2.1 hb
  obtain ⟨x, hx, ex⟩ := dig_n (okAt3.mp (h2 (6 * b + 3) (by omega)))
  refine ⟨x, hx, ?_⟩
  unfold pC
  rw [ex, show (48 : Int32) = nI 48 from rfl, nI_sub (by omega)]
  congr 1
  omega
/-- the bounds of every run of what was told -/
theorem runVB {τ : gw_S} {P : Pr} {o t : Int32} (hw : WF τ) (hs : okSw o t (NB τ)) (hP : rN P = NB τ) (k : Nat) : VB (NB τ) (sRun P (Vt τ o t) (Mt τ o t) (Ct τ o t) k) := by
  have hn := NB_le hw
  rw [← hP]
  refine VB.run (by rw [hP]; exact hn) ?_ k
  rw [hP]
  exact VB.beg hn (fun b hb => pM_ok hw (swp_lt hn hs hb)) (fun b hb => pV_ok hw (swp_lt hn hs hb)) (fun b hb => pC_ok hw (swp_lt hn hs hb))
def spI (S : gw_S) (n v b : Nat) : Int32 := if b < n ∧ ¬ S 0 (8 * b + v) ≤ 0 then alI S b - S 0 (8 * b + v) else 1000000
def spN (S : gw_S) (n v b : Nat) : Nat := (spI S n v b).toNatClampNeg
theorem sumN_su {g : Nat → Int32} {f : Nat → Nat} : ∀ {n : Nat}, (∀ i, i < n → g i = nI (f i)) → sumN g n = nI (suN f n)
  | 0, _ => rfl
  | n + 1, h => by
    unfold sumN suN
    rw [sumN_su (fun i hi => h i (by omega)), h n (by omega), nI_add]
theorem alI_n {S : gw_S} {f : Nat → Nat} (hf : ∀ k, k < 64 → S 0 k = nI (f k)) {b : Nat} (hb : b < 8) : alI S b = nI (suN (fun v => f (8 * b + v)) 8) := sumN_su (fun v hv => hf _ (by omega))
theorem spI_n {S : gw_S} {n v b : Nat} (h : VB n S) (hn : n ≤ 8) (hv : v < 8) : spI S n v b = nI (spN S n v b) ∧ spN S n v b ≤ 1000000 := by
  obtain ⟨⟨f, hf, ht⟩, -⟩ := h
  have : ∃ m, m ≤ 1000000 ∧ spI S n v b = nI m := by
    unfold spI
    split
    · rename_i c
      have h1 := TT_row (f := f) (c := b) (by omega)
      have h2 : f (8 * b + v) ≤ _ := suN_ge (g := fun v => f (8 * b + v)) (n := 8) hv
      refine ⟨suN (fun v => f (8 * b + v)) 8 - f (8 * b + v), by omega, ?_⟩
      rw [alI_n hf (by omega), hf _ (by omega), nI_sub h2]
    · exact ⟨1000000, Nat.le_refl _, rfl⟩
  obtain ⟨m, hm, em⟩ := this
  unfold spN
  rw [em, i_cl (show m < 2 ^ 31 by omega)]
  exact ⟨rfl, hm⟩
theorem spN_out {S : gw_S} {n v b : Nat} (h : ¬ b < n) : spN S n v b = 1000000 := by
  unfold spN spI
  rw [if_neg (fun q => h q.1)]
  exact i_cl (show 1000000 < 2 ^ 31 by decide)
def miN (g : Nat → Nat) : Nat → Nat
  | 0 => 1000000
  | n + 1 => min (miN g n) (g n)
theorem miN_le {g : Nat → Nat} : ∀ n, miN g n ≤ 1000000
  | 0 => Nat.le_refl _
  | n + 1 => Nat.le_trans (Nat.min_le_left _ _) (miN_le n)
theorem miN_lb {g : Nat → Nat} : ∀ {n b : Nat}, b < n → miN g n ≤ g b
  | 0, b, h => by omega
  | n + 1, b, h => by
    unfold miN
    by_cases e : b = n
    · subst e; exact Nat.min_le_right _ _
    · exact Nat.le_trans (Nat.min_le_left _ _) (miN_lb (by omega))
theorem miN_ex {g : Nat → Nat} : ∀ {n : Nat}, miN g n < 1000000 → ∃ b, b < n ∧ g b = miN g n
  | 0, h => by unfold miN at h; omega
  | n + 1, h => by
    unfold miN at h ⊢
    by_cases c : miN g n ≤ g n
    · rw [Nat.min_eq_left c] at h ⊢
      obtain ⟨b, hb, e⟩ := miN_ex h
      exact ⟨b, by omega, e⟩
    · exact ⟨n, by omega, by rw [Nat.min_eq_right (by omega)]⟩
theorem miN_ext {g : Nat → Nat} {n : Nat} : ∀ m, (∀ b, n ≤ b → b < n + m → 1000000 ≤ g b) → miN g (n + m) = miN g n
  | 0, _ => rfl
  | m + 1, h => by
    show min (miN g (n + m)) (g (n + m)) = miN g n
    rw [miN_ext m (fun b h1 h2 => h b h1 (by omega))]
    have h1 := h (n + m) (by omega) (by omega)
    have h2 := miN_le (g := g) n
    rw [Nat.min_eq_left (by omega)]
theorem miN_congr {g g' : Nat → Nat} : ∀ n, (∀ b, b < n → g b = g' b) → miN g n = miN g' n
  | 0, _ => rfl
  | n + 1, h => by
    unfold miN
    rw [miN_congr n (fun b hb => h b (by omega)), h n (by omega)]
/-- the least that the last m letters spill, with the bottles of s used -/
def lsF (sp : Nat → Nat → Nat) (L : Nat) : Nat → Nat → Nat
  | 0, _ => 0
  | m + 1, s => miN (fun b => if s.testBit b = true then 1000000 else sp (L - (m + 1)) b + lsF sp L m (s ||| 2 ^ b)) 8
def lsG (sp : Nat → Nat → Nat) (L m s b : Nat) : Nat := if s.testBit b = true then 1000000 else sp (L - (m + 1)) b + lsF sp L m (s ||| 2 ^ b)
theorem lsF_s {sp : Nat → Nat → Nat} {L m s : Nat} : lsF sp L (m + 1) s = miN (lsG sp L m s) 8 := rfl
theorem lsF_le {sp : Nat → Nat → Nat} {L m s : Nat} : lsF sp L m s ≤ 1000000 := by
  cases m with
  | zero => exact Nat.zero_le _
  | succ m => exact miN_le 8
/-- a letter that no bottle has -/
theorem lsF_no {sp : Nat → Nat → Nat} {L i : Nat} (hi : i < L) (h : ∀ b, b < 8 → 1000000 ≤ sp i b) : ∀ m s, L - i ≤ m → m ≤ L → lsF sp L m s = 1000000
  | 0, s, h1, _ => by omega
  | m + 1, s, h1, h2 => by
    rw [lsF_s]
    have key : miN (lsG sp L m s) (0 + 8) = miN (lsG sp L m s) 0 := miN_ext 8 (fun b _ hb => by
      unfold lsG
      split
      · exact Nat.le_refl _
      · by_cases e : L - (m + 1) = i
        · rw [e]
          have := h b (by omega)
          omega
        · rw [lsF_no hi h m _ (by omega) (by omega)]
          omega)
    exact key
theorem pcN_bit {s b : Nat} (hs : s.testBit b = false) : ∀ n, pcN (s ||| 2 ^ b) n = pcN s n + (if b < n then 1 else 0)
  | 0 => by simp [pcN]
  | n + 1 => by
    unfold pcN
    rw [pcN_bit hs n]
    have e : ∀ x i : Nat, (x >>> i) % 2 = (x.testBit i).toNat := fun x i => by
      rw [Nat.testBit_eq_decide_div_mod_eq, Nat.shiftRight_eq_div_pow]
      by_cases c : x / 2 ^ i % 2 = 1
      · simp [c]
      · simp only [c, decide_false, Bool.toNat_false]; omega
    rw [e, e, Nat.testBit_or, Nat.testBit_two_pow]
    by_cases c : b = n
    · subst c
      simp [hs]
    · simp only [c, decide_false, Bool.or_false]
      by_cases q : b < n
      · rw [if_pos q, if_pos (by omega)]; omega
      · rw [if_neg q, if_neg (by omega)]; omega
theorem pcN_n {s : Nat} : ∀ n, pcN s n ≤ n
  | 0 => Nat.le_refl _
  | n + 1 => by
    unfold pcN
    have := pcN_n (s := s) n
    omega
/-- more letters than bottles -/
theorem lsF_few {sp : Nat → Nat → Nat} {L n : Nat} (h : ∀ i b, n ≤ b → b < 8 → 1000000 ≤ sp i b) : ∀ m s, lsF sp L m s < 1000000 → m + pcN s n ≤ n
  | 0, s, _ => by have := pcN_n (s := s) n; omega
  | m + 1, s, hl => by
    rw [lsF_s] at hl
    obtain ⟨b, hb, e⟩ := miN_ex hl
    rw [← e] at hl
    unfold lsG at hl
    split at hl
    · omega
    · rename_i c
      have hbn : b < n := by
        by_cases q : b < n
        · exact q
        · have := h (L - (m + 1)) b (by omega) hb
          omega
      have ih := lsF_few (L := L) h m (s ||| 2 ^ b) (by omega)
      rw [pcN_bit (by simpa using c), if_pos hbn] at ih
      omega
/-- the next bottle of the row -/
def fB (p : Nat → Bool) : Nat → Nat → Nat
  | 0, b => b
  | m + 1, b => if p b = true then b else fB p m (b + 1)
theorem fB_ok {p : Nat → Bool} : ∀ m b, (∃ c, b ≤ c ∧ c < b + m ∧ p c = true) → p (fB p m b) = true ∧ b ≤ fB p m b ∧ fB p m b < b + m ∧ ∀ c, b ≤ c → c < fB p m b → p c = false
  | 0, b, ⟨c, h1, h2, _⟩ => by omega
  | m + 1, b, ⟨c, h1, h2, h3⟩ => by
    unfold fB
    by_cases q : p b = true
    · rw [if_pos q]
      exact ⟨q, Nat.le_refl _, by omega, fun c a1 a2 => by omega⟩
    · rw [if_neg q]
      have hne : c ≠ b := fun e => q (by rw [← e]; exact h3)
      obtain ⟨i1, i2, i3, i4⟩ := fB_ok m (b + 1) ⟨c, by omega, by omega, h3⟩
      refine ⟨i1, by omega, by omega, fun x a1 a2 => ?_⟩
      by_cases e : x = b
      · rw [e]; simpa using q
      · exact i4 x (by omega) a2
def nxP (sp : Nat → Nat → Nat) (L m s b : Nat) : Bool := !s.testBit b && decide (sp (L - (m + 1)) b < 1000000) && decide (sp (L - (m + 1)) b + lsF sp L m (s ||| 2 ^ b) = lsF sp L (m + 1) s)
theorem nxP_iff {sp : Nat → Nat → Nat} {L m s b : Nat} : nxP sp L m s b = true ↔ s.testBit b = false ∧ sp (L - (m + 1)) b < 1000000 ∧ sp (L - (m + 1)) b + lsF sp L m (s ||| 2 ^ b) = lsF sp L (m + 1) s := by
  unfold nxP
  rw [Bool.and_eq_true, Bool.and_eq_true, Bool.not_eq_true', decide_eq_true_iff, decide_eq_true_iff, and_assoc]
/-- the bottles used behind k letters -/
def rwS (sp : Nat → Nat → Nat) (L : Nat) : Nat → Nat
  | 0 => 0
  | k + 1 => rwS sp L k ||| 2 ^ (fB (nxP sp L (L - (k + 1)) (rwS sp L k)) 8 0)
def rwB (sp : Nat → Nat → Nat) (L k : Nat) : Nat := fB (nxP sp L (L - (k + 1)) (rwS sp L k)) 8 0
theorem nx_ex {sp : Nat → Nat → Nat} {L m s : Nat} (h : lsF sp L (m + 1) s < 1000000) : ∃ c, 0 ≤ c ∧ c < 0 + 8 ∧ nxP sp L m s c = true := by
  have h0 := h
  rw [lsF_s] at h
  obtain ⟨b, hb, e⟩ := miN_ex h
  refine ⟨b, Nat.zero_le _, by omega, nxP_iff.mpr ?_⟩
  rw [← e] at h
  rw [lsF_s, ← e]
  unfold lsG at h ⊢
  by_cases c : s.testBit b = true
  · rw [if_pos c] at h; omega
  · rw [if_neg c] at h ⊢
    exact ⟨by simpa using c, by omega, rfl⟩
theorem rw_ok {sp : Nat → Nat → Nat} {L : Nat} (h : lsF sp L L 0 < 1000000) : ∀ k, k ≤ L → lsF sp L (L - k) (rwS sp L k) < 1000000 ∧ rwS sp L k < 256 ∧ pcN (rwS sp L k) 8 = k
  | 0, _ => ⟨h, show 0 < 256 by decide, show pcN 0 8 = 0 by decide⟩
  | k + 1, hk => by
    obtain ⟨h1, h2, h3⟩ := rw_ok h k (by omega)
    rw [show L - k = (L - (k + 1)) + 1 by omega] at h1
    obtain ⟨b1, -, b2, -⟩ := fB_ok 8 0 (nx_ex h1)
    obtain ⟨c1, c2, c3⟩ := nxP_iff.mp b1
    refine ⟨?_, ?_, ?_⟩
    · show lsF sp L (L - (k + 1)) (rwS sp L k ||| 2 ^ (fB (nxP sp L (L - (k + 1)) (rwS sp L k)) 8 0)) < 1000000
      omega
    · show rwS sp L k ||| 2 ^ (fB (nxP sp L (L - (k + 1)) (rwS sp L k)) 8 0) < 2 ^ 8
      exact Nat.or_lt_two_pow h2 (Nat.pow_lt_pow_right (by decide) (by omega))
    · show pcN (rwS sp L k ||| 2 ^ (fB (nxP sp L (L - (k + 1)) (rwS sp L k)) 8 0)) 8 = k + 1
      rw [pcN_bit c1, if_pos (by omega), h3]
theorem rwB_ok {sp : Nat → Nat → Nat} {L k : Nat} (h : lsF sp L L 0 < 1000000) (hk : k < L) : rwB sp L k < 8 ∧ nxP sp L (L - (k + 1)) (rwS sp L k) (rwB sp L k) = true ∧ (∀ c, c < rwB sp L k → nxP sp L (L - (k + 1)) (rwS sp L k) c = false) ∧ rwS sp L (k + 1) = rwS sp L k ||| 2 ^ rwB sp L k := by
  obtain ⟨h1, h2, h3⟩ := rw_ok h k (by omega)
  rw [show L - k = (L - (k + 1)) + 1 by omega] at h1
  obtain ⟨b1, -, b2, b3⟩ := fB_ok 8 0 (nx_ex h1)
  exact ⟨by unfold rwB; omega, b1, fun c hc => b3 c (Nat.zero_le _) hc, rfl⟩
theorem tbn {s b : Nat} (hs : s < 2 ^ 31) (hb : b < 32) : tb (nI s) b ↔ s.testBit b = true := by
  rw [tb_nI hs hb, Nat.testBit_eq_decide_div_mod_eq, decide_eq_true_iff, Nat.shiftRight_eq_div_pow]
theorem nI_or1 {s b : Nat} (hs : s < 256) (hb : b < 8) : nI s ||| (1 : Int32) <<< (nI b &&& 31) = nI (s ||| 2 ^ b) ∧ s ||| 2 ^ b < 256 := by
  have hl : s ||| 2 ^ b < 2 ^ 8 := Nat.or_lt_two_pow hs (Nat.pow_lt_pow_right (by decide) hb)
  refine ⟨tb_ext (fun c hc => ?_), hl⟩
  rw [tb_or1 (by omega) hc, tbn (by omega) hc, tbn (by omega) hc, Nat.testBit_or, Nat.testBit_two_pow, Bool.or_eq_true, decide_eq_true_iff]
