def Ls (b : Nat) (S : gw_S) : gw_S := if S 3 b = 0 then S else sLk b S
def Bs (So : Nat → Bool) (bu : Int32) (b : Nat) (S : gw_S) : gw_S := if ¬ S 3 b = 0 ∧ So b = true ∧ bu ≤ alI S b then sBu b S else S
/-- all leak -/
def sLA (n : Nat) (S : gw_S) : gw_S := itN Ls n S
/-- all that are ripe burst -/
def sBA (So : Nat → Bool) (bu : Int32) (n : Nat) (S : gw_S) : gw_S := itN (Bs So bu) n S
theorem alI_congr {S T : gw_S} {b : Nat} (h : ∀ v, v < 8 → S 0 (8 * b + v) = T 0 (8 * b + v)) : alI S b = alI T b := sumN_congr h
theorem Ls_comm {b c : Nat} {So : Nat → Bool} {bu : Int32} {S : gw_S} (h : b ≠ c) : Bs So bu b (Ls c S) = Ls c (Bs So bu b S) := by
  have d1 : ∀ v, v < 8 → ¬ (8 * b + v) / 8 = c := fun v hv => by omega
  have ea : alI (sLk c S) b = alI S b := alI_congr (fun v hv => by simp [sLk, d1 v hv])
  have e3 : sLk c S 3 = S 3 := by funext j; simp [sLk]
  have b3 : sBu b S 3 c = S 3 c := by simp [sBu, upd, Ne.symm h]
  unfold Ls Bs
  by_cases h0 : S 3 c = 0
  · rw [if_pos h0]
    by_cases hb : ¬ S 3 b = 0 ∧ So b = true ∧ bu ≤ alI S b
    · rw [if_pos hb, if_pos (by rw [b3]; exact h0)]
    · rw [if_neg hb, if_pos h0]
  · rw [if_neg h0, e3, ea]
    by_cases hb : ¬ S 3 b = 0 ∧ So b = true ∧ bu ≤ alI S b
    · rw [if_pos hb, if_pos hb, if_neg (by rw [b3]; exact h0)]
      have d2 : ∀ v, v < 8 → ¬ (8 * c + v) / 8 = b := fun v hv => by omega
      have dm : ∀ v, v < 8 → ¬ (8 * b + v) / 8 = c := d1
      have es : sumN (fun v => lk (sBu b S 0 (8 * c + v)) (sBu b S 2 c)) 8 = sumN (fun v => lk (S 0 (8 * c + v)) (S 2 c)) 8 := sumN_congr (fun v hv => by simp [sBu, d2 v hv])
      funext k j
      by_cases k0 : k = 0
      · subst k0
        by_cases jb : j / 8 = b
        · have jc : ¬ j / 8 = c := by omega
          simp [sBu, sLk, jb]
          intro q; omega
        · by_cases jc : j / 8 = c
          · simp [sBu, sLk, jc, Ne.symm h]
          · simp [sBu, sLk, jb, jc]
      · by_cases k3 : k = 3
        · subst k3; simp [sBu, sLk]
        · by_cases k5 : k = 5
          · subst k5
            by_cases hj : j < 8
            · have := d1 j hj
              simp [sBu, sLk, hj, this]
            · simp [sBu, sLk, hj]
          · by_cases k6 : k = 6
            · subst k6
              have x1 : sBu b (sLk c S) 6 = sLk c S 6 := by funext z; simp [sBu]
              have x2 : sLk c (sBu b S) 6 = upd (sBu b S 6) 0 (sBu b S 6 0 + sumN (fun v => lk (sBu b S 0 (8 * c + v)) (sBu b S 2 c)) 8) := by funext z; simp [sLk]
              have x3 : sBu b S 6 = S 6 := by funext z; simp [sBu]
              have x4 : sLk c S 6 = upd (S 6) 0 (S 6 0 + sumN (fun v => lk (S 0 (8 * c + v)) (S 2 c)) 8) := by funext z; simp [sLk]
              rw [x1, x2, x3, es, x4]
            · simp [sBu, sLk, k0, k3, k5, k6]
    · rw [if_neg hb, if_neg hb, if_neg h0]
theorem LA_comm {c : Nat} {So : Nat → Bool} {bu : Int32} : ∀ (n : Nat) (S : gw_S), n ≤ c → sBA So bu n (Ls c S) = Ls c (sBA So bu n S)
  | 0, S, _ => rfl
  | n + 1, S, h => by
    show Bs So bu n (sBA So bu n (Ls c S)) = Ls c (Bs So bu n (sBA So bu n S))
    rw [LA_comm n S (by omega), Ls_comm (by omega)]
theorem sEnds_two {hot : Bool} {So : Nat → Bool} {bu : Int32} : ∀ (n : Nat) (S : gw_S), sEnds hot So bu n S = if hot = true then sBA So bu n (sLA n S) else sLA n S
  | 0, S => by
    show S = _
    split <;> rfl
  | n + 1, S => by
    have ih := sEnds_two (hot := hot) (So := So) (bu := bu) n S
    have e1 : sEnds hot So bu (n + 1) S = (fun T : gw_S => if T 3 n = 0 then T else sEnd hot (So n) bu n T) (sEnds hot So bu n S) := rfl
    rw [e1, ih]
    by_cases hh : hot = true
    · rw [if_pos hh, if_pos hh]
      show (if (sBA So bu n (sLA n S)) 3 n = 0 then _ else _) = Bs So bu n (sBA So bu n (Ls n (sLA n S)))
      rw [LA_comm n _ (Nat.le_refl n)]
      generalize sBA So bu n (sLA n S) = T
      have e3 : sLk n T 3 = T 3 := by funext j; simp [sLk]
      unfold Ls Bs sEnd
      by_cases h0 : T 3 n = 0
      · simp [h0]
      · simp [h0, hh, e3]
    · rw [if_neg hh, if_neg hh]
      show (if (sLA n S) 3 n = 0 then _ else _) = Ls n (sLA n S)
      unfold Ls sEnd
      simp [hh]
/-- what all leak comes to -/
theorem sLA_form {S : gw_S} : ∀ n, (∀ k, k ≠ 0 → k ≠ 6 → sLA n S k = S k) ∧ (∀ j, sLA n S 0 j = if j / 8 < n ∧ ¬ S 3 (j / 8) = 0 then S 0 j - lk (S 0 j) (S 2 (j / 8)) else S 0 j) ∧ sLA n S 6 0 = S 6 0 + sumN (fun b => if S 3 b = 0 then 0 else sumN (fun v => lk (S 0 (8 * b + v)) (S 2 b)) 8) n ∧ ∀ j, j ≠ 0 → sLA n S 6 j = S 6 j
  | 0 => ⟨fun _ _ _ => rfl, fun j => by simp [sLA, itN], by simp [sLA, itN, sumN], fun _ _ => rfl⟩
  | n + 1 => by
    obtain ⟨h1, h2, h3, h4⟩ := sLA_form (S := S) n
    have e : sLA (n + 1) S = Ls n (sLA n S) := rfl
    rw [e]
    generalize sLA n S = T at h1 h2 h3 h4
    have t3 : T 3 = S 3 := h1 3 (by decide) (by decide)
    have t2 : T 2 = S 2 := h1 2 (by decide) (by decide)
    unfold Ls
    rw [t3]
    by_cases h0 : S 3 n = 0
    · rw [if_pos h0]
      refine ⟨h1, fun j => ?_, ?_, h4⟩
      · rw [h2 j]
        by_cases e : j / 8 = n
        · have : ¬ n < n := by omega
          simp [e, h0]
        · have : j / 8 < n + 1 ↔ j / 8 < n := by omega
          simp [this]
      · rw [h3, sumN, if_pos h0, Int32.add_zero]
    · rw [if_neg h0]
      refine ⟨fun k a b => ?_, fun j => ?_, ?_, fun j hj => ?_⟩
      · have : sLk n T k = T k := by funext z; simp [sLk, a, b]
        rw [this, h1 k a b]
      · by_cases e : j / 8 = n
        · have : ¬ n < n := by omega
          have hj := h2 j
          simp [e] at hj
          simp [sLk, e, h0, hj, t2]
        · have h9 : j / 8 < n + 1 ↔ j / 8 < n := by omega
          have : sLk n T 0 j = T 0 j := by simp [sLk, e]
          rw [this, h2 j]
          simp [h9]
      · have : sLk n T 6 0 = T 6 0 + sumN (fun v => lk (T 0 (8 * n + v)) (T 2 n)) 8 := by simp [sLk, upd]
        have e9 : sumN (fun v => lk (T 0 (8 * n + v)) (T 2 n)) 8 = sumN (fun v => lk (S 0 (8 * n + v)) (S 2 n)) 8 := by
          refine sumN_congr (fun v hv => ?_)
          have e : (8 * n + v) / 8 = n := by omega
          rw [h2, t2]
          simp [e]
        rw [this, h3, e9, Int32.add_assoc]
        show _ = S 6 0 + (sumN (fun b => if S 3 b = 0 then 0 else sumN (fun v => lk (S 0 (8 * b + v)) (S 2 b)) 8) n + (if S 3 n = 0 then 0 else sumN (fun v => lk (S 0 (8 * n + v)) (S 2 n)) 8))
        rw [if_neg h0]
      · have : sLk n T 6 j = T 6 j := by simp [sLk, upd, hj]
        rw [this, h4 j hj]
theorem l_leak {d n k : Nat} {c : gw_S} (hk : gw_st k) (hA : RpA n c) : ∀ m i (σ σ0 : gw_S), i + m = n → (∀ q, q ≠ 0 → q ≠ 2 → vw k σ q = c q) → (∀ j, j ≠ 10 → vw k σ 0 j = c 0 j) → (∀ j, j < n → vw k σ 2 j = if j < i then c 2 j - lk (c 2 j) (c 4 (c 3 j).toNatClampNeg) else c 2 j) → vw k σ 0 10 = c 0 10 + sumN (fun j => lk (c 2 j) (c 4 (c 3 j).toNatClampNeg)) i → FS k σ0 σ →
    gG d mX3_leak 2 [some (.ref k), some (.int (nI i)), none, none] [] σ (fun v σ' => v = none ∧ (∀ q, q ≠ 0 → q ≠ 2 → vw k σ' q = c q) ∧ (∀ j, j ≠ 10 → vw k σ' 0 j = c 0 j) ∧ (∀ j, j < n → vw k σ' 2 j = c 2 j - lk (c 2 j) (c 4 (c 3 j).toNatClampNeg)) ∧ vw k σ' 0 10 = c 0 10 + sumN (fun j => lk (c 2 j) (c 4 (c 3 j).toNatClampNeg)) n ∧ FS k σ0 σ') := by
  have hn := hA.2.1
  intro m
  induction m with
  | zero =>
    intro i σ σ0 hi hq h0 h2 h10 hf
    have : i = n := by omega
    subst this
    have h7 : σ k 7 = nI i := (h0 7 (by decide)).trans hA.1
    refine bX3_leak_2 hk ?_
    rw [h7]
    exact ⟨fun _ => ⟨rfl, hq, h0, fun j hj => by rw [h2 j hj, if_pos hj], h10, hf⟩, fun c => absurd (nI_le (Nat.le_refl _) (by omega)) c⟩
  | succ m ih =>
    intro i σ σ0 hi hq h0 h2 h10 hf
    have h7 : σ k 7 = nI n := (h0 7 (by decide)).trans hA.1
    have e3 : σ (k + 3) = c 3 := hq 3 (by decide) (by decide)
    have e4 : σ (k + 4) = c 4 := hq 4 (by decide) (by decide)
    have e2 : σ (k + 2) i = c 2 i := by have := h2 i (by omega); simpa [vw] using this
    obtain ⟨-, p, hp, ep⟩ := hA.2.2 i (by omega)
    have vi : vp_in (nI i) 8 := vp_in_nI (by omega) (by decide)
    have vp : vp_in (nI p) 8 := vp_in_nI (by omega) (by decide)
    have step : ∀ g : Int32, g = lk (c 2 i) (c 4 (c 3 i).toNatClampNeg) → ∀ s1, s1 = gw_u σ (k + 2) i (c 2 i - g) → ∀ s2, s2 = gw_u s1 k 10 (s1 k 10 + g) → gG d mX3_leak 2 [some (.ref k), some (.int (nI (i + 1))), none, none] [] s2 (fun v σ' => v = none ∧ (∀ q, q ≠ 0 → q ≠ 2 → vw k σ' q = c q) ∧ (∀ j, j ≠ 10 → vw k σ' 0 j = c 0 j) ∧ (∀ j, j < n → vw k σ' 2 j = c 2 j - lk (c 2 j) (c 4 (c 3 j).toNatClampNeg)) ∧ vw k σ' 0 10 = c 0 10 + sumN (fun j => lk (c 2 j) (c 4 (c 3 j).toNatClampNeg)) n ∧ FS k σ0 σ') := by
      intro g hg s1 q1 s2 q2
      have w : vw k s2 = gw_u (gw_u (vw k σ) 2 i (c 2 i - g)) 0 10 (vw k σ 0 10 + g) := by
        rw [q2, vw_u0, q1, vw_u]
        have : gw_u σ (k + 2) i (c 2 i - g) k 10 = σ k 10 := by rw [gw_ne (by omega)]
        rw [this]
        rfl
      refine ih (i + 1) s2 σ0 (by omega) ?_ ?_ ?_ ?_ (hf.tr (by rw [q2, q1]; exact (FS.u (by decide)).tr FS.u0))
      · intro q a b
        rw [w, gw_ne a, gw_ne b]
        exact hq q a b
      · intro j hj
        rw [w, gw_nj hj, gw_ne (by decide)]
        exact h0 j hj
      · intro j hj
        rw [w, gw_ne (by decide), gw_at]
        by_cases ej : j = i
        · subst ej
          simp [hg]
        · have : j < i + 1 ↔ j < i := by omega
          simp [ej, this]
          exact h2 j hj
      · rw [w, gw_self, h10, sumN, hg, Int32.add_assoc]
    refine bX3_leak_2 hk ?_
    rw [h7, i_cl (show i < 2 ^ 31 by omega), e2, e3, e4, nI_1]
    refine ⟨fun c => absurd c (nI_ge (by omega) (by omega)), fun _ => ⟨vi, fun z => ⟨vi, by rw [ep]; exact vp, vi, fun y => ⟨vi, vi, step _ ?_⟩, fun y => ⟨vi, vi, step _ ?_⟩⟩, fun z => ?_⟩⟩
    · rw [lk, if_neg z, if_neg y]
    · rw [lk, if_neg z, if_pos y]
    · have l0 : lk (c 2 i) (c 4 (c 3 i).toNatClampNeg) = 0 := by rw [lk, if_pos z]
      refine ih (i + 1) σ σ0 (by omega) hq h0 (fun j hj => ?_) ?_ hf
      · rw [h2 j hj]
        by_cases ej : j = i
        · subst ej
          have : ¬ j < j := by omega
          simp [l0]
        · have : j < i + 1 ↔ j < i := by omega
          simp [this]
      · rw [h10, sumN, l0, Int32.add_zero]
theorem lk0 (c : Int32) : lk 0 c = 0 := if_pos rfl
theorem s_leak {d n k : Nat} {So : Nat → Bool} {S σ : gw_S} (hk : gw_st k) (h : Rp n So S (vw k σ)) : gB d mX3_leak [.ref k] σ (fun v σ' => v = none ∧ Rp n So (sLA n S) (vw k σ') ∧ σ' k 12 = σ k 12 ∧ FS k σ σ') := by
  have hn := h.1.2.1
  refine eX3_leak hk ((l_leak (c := vw k σ) hk h.1 n 0 σ σ (by omega) (fun _ _ _ => rfl) (fun _ _ => rfl) (fun j _ => by simp) (by simp [sumN]) FS.rf).mono ?_)
  rintro v σ' ⟨rfl, gq, g0, g2, g10, gf⟩
  obtain ⟨f1, f2, f3, f4⟩ := sLA_form (S := S) n
  have q1 := gq 1 (by decide) (by decide)
  have q3 := gq 3 (by decide) (by decide)
  refine ⟨rfl, ⟨⟨by rw [g0 7 (by decide)]; exact h.1.1, hn, fun i hi => by rw [q1, q3]; exact h.1.2.2 i hi⟩, ?_, ?_, ?_, ⟨?_, ?_, ?_, ?_⟩, ?_⟩, g0 12 (by decide), gf⟩
  · intro i j hi hj hne e3 e1
    rw [q3] at e3
    rw [q1] at e1
    rcases h.2.1 i j hi hj hne e3 e1 with z | z
    · left; rw [g2 i hi, z, lk0]; exact Int32.sub_zero 0
    · right; rw [g2 j hj, z, lk0]; exact Int32.sub_zero 0
  · intro b v hb hv
    have eb : (8 * b + v) / 8 = b := by omega
    have cb : ∀ i, i < n → vw k σ 3 i = nI b → vw k σ 4 (vw k σ 3 i).toNatClampNeg = S 2 b := fun i hi e => by
      rw [e, i_cl (show b < 2 ^ 31 by omega)]
      exact (h.2.2.2.2.1.1 b hb).2
    have e1 : sumN (pcl (vw k σ') b v) n = sumN (fun i => if vw k σ 3 i = nI b ∧ vw k σ 1 i = nI v then (fun x => x - lk x (S 2 b)) (vw k σ 2 i) else 0) n := by
      refine sumN_congr (fun i hi => ?_)
      unfold pcl
      rw [q3, q1]
      split
      · rename_i q
        rw [g2 i hi, cb i hi q.1]
      · rfl
    rw [e1, rep_phi h (fun x => x - lk x (S 2 b)) (by simp only [lk0]; exact Int32.sub_zero 0) hb hv, f2, eb]
    by_cases w : S 3 b = 0
    · rw [if_neg (fun q => q.2 w), rep_empty h hb hv w, lk0]
      exact (Int32.sub_zero 0).symm
    · rw [if_pos ⟨hb, w⟩]
  · intro b hb
    rw [f1 3 (by decide) (by decide), g0 9 (by decide)]
    refine ⟨(h.2.2.2.1 b hb).1, fun z i hi hp => ?_⟩
    rw [q3] at hp
    rw [g2 i hi, (h.2.2.2.1 b hb).2 z i hi hp, lk0]
    exact Int32.sub_zero 0
  · intro b hb
    rw [gq 5 (by decide) (by decide), gq 4 (by decide) (by decide), f1 1 (by decide) (by decide), f1 2 (by decide) (by decide)]
    exact h.2.2.2.2.1.1 b hb
  · intro v hv
    rw [gq 6 (by decide) (by decide), gq 7 (by decide) (by decide), f1 4 (by decide) (by decide), f1 5 (by decide) (by decide)]
    exact h.2.2.2.2.1.2.1 v hv
  · rw [g10, f3, h.2.2.2.2.1.2.2.1]
    congr 1
    -- parcel by parcel, or bottle by bottle and voice by voice
    have e1 : sumN (fun b => if S 3 b = 0 then 0 else sumN (fun v => lk (S 0 (8 * b + v)) (S 2 b)) 8) n = sumN (fun b => sumN (fun v => sumN (fun i => if vw k σ 3 i = nI b ∧ vw k σ 1 i = nI v then lk (vw k σ 2 i) (vw k σ 4 (vw k σ 3 i).toNatClampNeg) else 0) n) 8) n := by
      refine sumN_congr (fun b hb => ?_)
      have e2 : sumN (fun v => sumN (fun i => if vw k σ 3 i = nI b ∧ vw k σ 1 i = nI v then lk (vw k σ 2 i) (vw k σ 4 (vw k σ 3 i).toNatClampNeg) else 0) n) 8 = sumN (fun v => lk (S 0 (8 * b + v)) (S 2 b)) 8 := by
        refine sumN_congr (fun v hv => ?_)
        rw [← rep_phi h (fun x => lk x (S 2 b)) (lk0 _) hb hv]
        refine sumN_congr (fun i hi => ?_)
        split
        · rename_i q
          rw [q.1, i_cl (show b < 2 ^ 31 by omega), show vw k σ 4 b = S 2 b from (h.2.2.2.2.1.1 b hb).2]
        · rfl
      rw [e2]
      split
      · rename_i w
        rw [sumN_zero]
        intro v hv
        rw [rep_empty h hb hv w, lk0]
      · rfl
    rw [e1]
    have e3 : sumN (fun b => sumN (fun v => sumN (fun i => if vw k σ 3 i = nI b ∧ vw k σ 1 i = nI v then lk (vw k σ 2 i) (vw k σ 4 (vw k σ 3 i).toNatClampNeg) else 0) n) 8) n = sumN (fun b => sumN (fun i => if vw k σ 3 i = nI b then lk (vw k σ 2 i) (vw k σ 4 (vw k σ 3 i).toNatClampNeg) else 0) n) n := by
      refine sumN_congr (fun b hb => ?_)
      rw [sumN_swap]
      refine sumN_congr (fun i hi => ?_)
      obtain ⟨⟨v, hv, ev⟩, -⟩ := h.1.2.2 i hi
      rw [sumN_only (k := v) hv]
      · simp [ev]
      · intro w hw hne
        have : ¬ nI v = nI w := by rw [nI_eq (by omega) (by omega)]; omega
        simp [ev, this]
    rw [e3, sumN_swap]
    refine sumN_congr (fun i hi => ?_)
    obtain ⟨-, p, hp, ep⟩ := h.1.2.2 i hi
    rw [sumN_only (k := p) hp]
    · simp [ep]
    · intro w hw hne
      have : ¬ nI p = nI w := by rw [nI_eq (by omega) (by omega)]; omega
      simp [ep, this]
  · intro a ha
    rw [g0 11 (by decide), f1 7 (by decide) (by decide)]
    exact h.2.2.2.2.1.2.2.2 a ha
  · intro b hb
    rw [g0 8 (by decide)]
    exact h.2.2.2.2.2 b hb
