theorem ad_sh (a b x : Int32) : (a + x) + (b - x) = a + b := by
  rw [Int32.add_assoc, Int32.add_comm x, Int32.sub_add_cancel]
/-- within the inner loop: parcel i has come to bottle t; what stood there of its voice is poured into it -/
theorem l_pour2 {d n k i : Nat} {x1 x2 : Int32} {Q : Option Value → gw_S → Prop} (hk : gw_st k) (hi : i < n) (c : gw_S) (hA : RpA n c) (hp : c 3 i = x2) (σ0 : gw_S)
    (kk : ∀ σ', (∀ q, q ≠ 2 → vw k σ' q = c q) → (∀ v, v < 8 → sumN (fun j => if c 3 j = x2 ∧ c 1 j = nI v then vw k σ' 2 j else 0) n = sumN (fun j => if c 3 j = x2 ∧ c 1 j = nI v then c 2 j else 0) n) → (∀ j, j < n → c 3 j ≠ x2 → vw k σ' 2 j = c 2 j) → (∀ j, j < n → j ≠ i → vw k σ' 2 j = 0 ∨ vw k σ' 2 j = c 2 j) → (∀ j, j < n → j ≠ i → c 3 j = x2 → c 1 j = c 1 i → vw k σ' 2 j = 0) → FS k σ0 σ' →
      gG d mX3_pourInto 2 [some (.ref k), some (.int x1), some (.int x2), some (.int (nI (i + 1))), none] [] σ' Q)
    :
    ∀ m j (σ : gw_S), j + m = n → (∀ q, q ≠ 2 → vw k σ q = c q) → (∀ v, v < 8 → sumN (fun j => if c 3 j = x2 ∧ c 1 j = nI v then vw k σ 2 j else 0) n = sumN (fun j => if c 3 j = x2 ∧ c 1 j = nI v then c 2 j else 0) n) → (∀ j', j' < n → c 3 j' ≠ x2 → vw k σ 2 j' = c 2 j') → (∀ j', j' < n → j' ≠ i → vw k σ 2 j' = 0 ∨ vw k σ 2 j' = c 2 j') → (∀ j', j' < j → j' ≠ i → c 3 j' = x2 → c 1 j' = c 1 i → vw k σ 2 j' = 0) → FS k σ0 σ →
      gG d mX3_pourInto 33 [some (.ref k), some (.int x1), some (.int x2), some (.int (nI i)), some (.int (nI j))] [] σ Q := by
  have hn := hA.2.1
  intro m
  induction m with
  | zero =>
    intro j σ hj hq hs h3 h4 h5 hfs
    have : j = n := by omega
    subst this
    have h7 : σ k 7 = nI j := by have := hq 0 (by decide); have e := congrFun this 7; exact e.trans hA.1
    refine bX3_pourInto_33 hk ?_
    rw [h7, nI_1]
    exact ⟨fun _ => kk σ hq hs h3 h4 h5 hfs, fun c => absurd (nI_le (Nat.le_refl _) (by omega)) c⟩
  | succ m ih =>
    intro j σ hj hq hs h3 h4 h5 hfs
    have h7 : σ k 7 = nI n := by have := hq 0 (by decide); have e := congrFun this 7; exact e.trans hA.1
    have e3 : σ (k + 3) = c 3 := hq 3 (by decide)
    have e1 : σ (k + 1) = c 1 := hq 1 (by decide)
    have vj : vp_in (nI j) 8 := vp_in_nI (by omega) (by decide)
    have vi : vp_in (nI i) 8 := vp_in_nI (by omega) (by decide)
    have skip : (j = i ∨ ¬ c 3 j = x2 ∨ ¬ c 1 j = c 1 i) → gG d mX3_pourInto 33 [some (.ref k), some (.int x1), some (.int x2), some (.int (nI i)), some (.int (nI (j + 1)))] [] σ Q := by
      intro hc
      refine ih (j + 1) σ (by omega) hq hs h3 h4 (fun j' hj' hne z3 z1 => ?_) hfs
      by_cases e : j' = j
      · subst e
        rcases hc with hc | hc | hc
        · exact absurd hc hne
        · exact absurd z3 hc
        · exact absurd z1 hc
      · exact h5 j' (by omega) hne z3 z1
    refine bX3_pourInto_33 hk ?_
    rw [h7, i_cl (show j < 2 ^ 31 by omega), i_cl (show i < 2 ^ 31 by omega), nI_1 j, e3, e1, nI_eq (show j < 2 ^ 31 by omega) (show i < 2 ^ 31 by omega)]
    refine ⟨fun c => absurd c (nI_ge (by omega) (by omega)), fun _ => ⟨fun c1 => skip (Or.inl c1), fun c1 => ⟨vj, fun c2 => skip (Or.inr (Or.inl c2)), fun c2 => ⟨vj, vi, fun c3 => skip (Or.inr (Or.inr c3)), fun c3 => ⟨vi, vj, vi, fun s2 q2 => ⟨vj, fun s3 q3 => ?_⟩⟩⟩⟩⟩⟩
    have w : vw k s3 = gw_u (gw_u (vw k σ) 2 i (vw k σ 2 i + vw k σ 2 j)) 2 j 0 := by
      rw [q3, vw_u, q2, vw_u]
      rfl
    have wi : vw k s3 2 i = vw k σ 2 i + vw k σ 2 j := by
      rw [w, gw_nj (fun e => c1 e.symm), gw_self]
    have wj : vw k s3 2 j = 0 := by rw [w, gw_self]
    have wo : ∀ z, z ≠ i → z ≠ j → vw k s3 2 z = vw k σ 2 z := fun z a b => by rw [w, gw_nj b, gw_nj a]
    refine ih (j + 1) s3 (by omega) ?_ ?_ ?_ ?_ ?_ (hfs.tr (by rw [q3, q2]; exact (FS.u (by decide)).tr (FS.u (by decide))))
    · intro q hq2
      rw [w, gw_ne hq2, gw_ne hq2]
      exact hq q hq2
    · intro v hv
      rw [← hs v hv]
      -- two places change
      by_cases hvv : c 1 i = nI v
      · have hvj : c 1 j = nI v := by rw [c3, hvv]
        have st1 : sumN (fun z => if c 3 z = x2 ∧ c 1 z = nI v then (if z = j then 0 else vw k σ 2 z) else 0) n = sumN (fun z => if c 3 z = x2 ∧ c 1 z = nI v then vw k σ 2 z else 0) n + (0 - vw k σ 2 j) := by
          rw [sumN_one (g := fun z => if c 3 z = x2 ∧ c 1 z = nI v then vw k σ 2 z else 0) (k := j) (by omega)]
          · simp [c2, hvj]
          · intro z _ hz
            simp [hz]
        have st2 : sumN (fun z => if c 3 z = x2 ∧ c 1 z = nI v then vw k s3 2 z else 0) n = sumN (fun z => if c 3 z = x2 ∧ c 1 z = nI v then (if z = j then 0 else vw k σ 2 z) else 0) n + (vw k s3 2 i - vw k σ 2 i) := by
          rw [sumN_one (g := fun z => if c 3 z = x2 ∧ c 1 z = nI v then (if z = j then 0 else vw k σ 2 z) else 0) (k := i) hi]
          · have : ¬ i = j := fun e => c1 e.symm
            simp [hp, hvv, this]
          · intro z _ hz
            by_cases ez : z = j
            · subst ez
              simp [wj]
            · simp [ez, wo z hz ez]
        rw [st2, st1, wi]
        have e1 : vw k σ 2 i + vw k σ 2 j - vw k σ 2 i = vw k σ 2 j := by
          rw [Int32.add_comm, Int32.add_sub_cancel]
        rw [e1, Int32.zero_sub, Int32.add_assoc, Int32.add_left_neg, Int32.add_zero]
      · refine sumN_congr (fun z hz => ?_)
        by_cases ez : z = i
        · subst ez
          simp [hvv]
        · by_cases ez2 : z = j
          · subst ez2
            have : ¬ c 1 z = nI v := by rw [c3]; exact hvv
            simp [this]
          · rw [wo z ez ez2]
    · intro z hz hne
      have : z ≠ i := fun e => hne (by rw [e]; exact hp)
      have : z ≠ j := fun e => hne (by rw [e]; exact c2)
      rw [wo z (by assumption) this]
      exact h3 z hz hne
    · intro z hz hne
      by_cases ez : z = j
      · subst ez; exact Or.inl wj
      · rw [wo z hne ez]
        exact h4 z hz hne
    · intro z hz hne z3 z1
      by_cases ez : z = j
      · subst ez; exact wj
      · rw [wo z hne ez]
        exact h5 z (by omega) hne z3 z1
/-- how far the pouring of bottle f into bottle t is: parcels below i are there -/
def PourI (n f t i : Nat) (c0 c : gw_S) : Prop :=
  (∀ q, q ≠ 2 → q ≠ 3 → c q = c0 q) ∧ (∀ j, j < n → c 3 j = if j < i ∧ c0 3 j = nI f then nI t else c0 3 j) ∧ (∀ v, v < 8 → sumN (pcl c t v) n + sumN (pcl c f v) n = sumN (pcl c0 t v) n + sumN (pcl c0 f v) n) ∧ (∀ j, j < n → c0 3 j ≠ nI f → c0 3 j ≠ nI t → c 2 j = c0 2 j) ∧ RpU n c
theorem l_pour {d n k f t : Nat} {c0 σ0 : gw_S} (hk : gw_st k) (hft : f ≠ t) (hf : f < n) (ht : t < n) (hA : RpA n c0) : ∀ m i (σ : gw_S), i + m = n → PourI n f t i c0 (vw k σ) → FS k σ0 σ → gG d mX3_pourInto 2 [some (.ref k), some (.int (nI f)), some (.int (nI t)), some (.int (nI i)), none] [] σ (fun v σ' => v = none ∧ PourI n f t n c0 (vw k σ') ∧ FS k σ0 σ') := by
  have hn := hA.2.1
  intro m
  induction m with
  | zero =>
    intro i σ hi h hfs
    have : i = n := by omega
    subst this
    have h7 : σ k 7 = nI i := by have := h.1 0 (by decide) (by decide); have e := congrFun this 7; exact e.trans hA.1
    refine bX3_pourInto_2 hk ?_
    rw [h7]
    exact ⟨fun _ => ⟨rfl, h, hfs⟩, fun c => absurd (nI_le (Nat.le_refl _) (by omega)) c⟩
  | succ m ih =>
    intro i σ hi h hfs
    obtain ⟨p1, p2, p3, p4, p5⟩ := h
    have h7 : σ k 7 = nI n := by have := p1 0 (by decide) (by decide); have e := congrFun this 7; exact e.trans hA.1
    have vi : vp_in (nI i) 8 := vp_in_nI (by omega) (by decide)
    have nft : ¬ nI f = nI t := by rw [nI_eq (by omega) (by omega)]; exact hft
    have ei : σ (k + 3) i = c0 3 i := by
      have := p2 i (by omega)
      simpa [vw] using this
    refine bX3_pourInto_2 hk ?_
    rw [h7, i_cl (show i < 2 ^ 31 by omega), ei, nI_1]
    refine ⟨fun c => absurd c (nI_ge (by omega) (by omega)), fun _ => ⟨vi, fun cf => ⟨vi, fun s1 q1 => ?_⟩, fun cf => ?_⟩⟩
    · -- parcel i comes over
      have w1 : vw k s1 = gw_u (vw k σ) 3 i (nI t) := by rw [q1, vw_u]
      have hA1 : RpA n (vw k s1) := by
        refine ⟨?_, hn, fun j hj => ?_⟩
        · rw [w1, gw_ne (by decide), p1 0 (by decide) (by decide)]; exact hA.1
        · rw [w1, gw_ne (by decide), p1 1 (by decide) (by decide)]
          refine ⟨(hA.2.2 j hj).1, ?_⟩
          rw [gw_at]
          by_cases ej : j = i
          · simp [ej]; exact ⟨t, ht, rfl⟩
          · simp [ej]
            rw [p2 j hj]
            split
            · exact ⟨t, ht, rfl⟩
            · exact (hA.2.2 j hj).2
      have c1i : vw k s1 3 i = nI t := by rw [w1, gw_self]
      have c1o : ∀ j, j ≠ i → vw k s1 3 j = vw k σ 3 j := fun j hj => by rw [w1, gw_nj hj]
      have c12 : vw k s1 2 = vw k σ 2 := by rw [w1, gw_ne (by decide)]
      have c11 : vw k s1 1 = vw k σ 1 := by rw [w1, gw_ne (by decide)]
      have ci3 : vw k σ 3 i = nI f := by
        rw [p2 i (by omega)]
        simpa using cf
      refine l_pour2 (d := d) (x1 := nI f) (x2 := nI t) (i := i) hk (by omega) (vw k s1) hA1 c1i σ0 ?_ n 0 s1 (by omega) (fun q _ => rfl) (fun v hv => rfl) (fun j _ _ => rfl) (fun j _ _ => Or.inr rfl) (fun j hj => by omega) (hfs.tr (by rw [q1]; exact FS.u (by decide)))
      intro σ' g1 g2 g3 g4 g5 g6
      have o3 : vw k σ' 3 = vw k s1 3 := g1 3 (by decide)
      have o1 : vw k σ' 1 = vw k s1 1 := g1 1 (by decide)
      refine ih (i + 1) σ' (by omega) ⟨?_, ?_, ?_, ?_, ?_⟩ g6
      · intro q a b
        rw [g1 q a, w1, gw_ne b]
        exact p1 q a b
      · intro j hj
        rw [o3]
        by_cases ej : j = i
        · subst ej
          have : c0 3 j = nI f := cf
          rw [c1i]
          simp [this]
        · rw [c1o j ej, p2 j hj]
          have : (j < i + 1) ↔ (j < i) := by omega
          simp [this]
      · intro v hv
        rw [← p3 v hv]
        have t1 : sumN (pcl (vw k σ') t v) n = sumN (pcl (vw k s1) t v) n := by
          have := g2 v hv
          have e1 : sumN (pcl (vw k σ') t v) n = sumN (fun j => if vw k s1 3 j = nI t ∧ vw k s1 1 j = nI v then vw k σ' 2 j else 0) n := sumN_congr (fun j _ => by rw [pcl, o3, o1])
          rw [e1, this]
          rfl
        have t2 : sumN (pcl (vw k σ') f v) n = sumN (pcl (vw k s1) f v) n := by
          refine sumN_congr (fun j hj => ?_)
          unfold pcl
          rw [o3, o1]
          split
          · rename_i q
            exact g3 j hj (by rw [q.1]; exact nft)
          · rfl
        have t3 : sumN (pcl (vw k s1) t v) n = sumN (pcl (vw k σ) t v) n + (if vw k σ 1 i = nI v then vw k σ 2 i else 0) := by
          rw [sumN_one (g := pcl (vw k σ) t v) (k := i) (by omega)]
          · congr 1
            unfold pcl
            rw [c1i, ci3, c11, c12]
            simp [nft]
          · intro j _ hj
            unfold pcl
            rw [c1o j hj, c11, c12]
        have t4 : sumN (pcl (vw k s1) f v) n = sumN (pcl (vw k σ) f v) n - (if vw k σ 1 i = nI v then vw k σ 2 i else 0) := by
          rw [sumN_one (g := pcl (vw k σ) f v) (k := i) (by omega)]
          · have : ¬ nI t = nI f := fun e => nft e.symm
            unfold pcl
            rw [c1i, ci3, c11, c12]
            simp [this, Int32.sub_eq_add_neg]
          · intro j _ hj
            unfold pcl
            rw [c1o j hj, c11, c12]
        rw [t1, t2, t3, t4, ad_sh]
      · intro j hj a b
        have hji : j ≠ i := fun e => a (by rw [e]; exact cf)
        have e3 : vw k s1 3 j = c0 3 j := by
          rw [c1o j hji, p2 j hj]
          simp [a]
        rw [g3 j hj (by rw [e3]; exact b), c12]
        exact p4 j hj a b
      · intro x y hx hy hne e3 e1
        rw [o3] at e3
        rw [o1] at e1
        by_cases xi : x = i
        · subst xi
          exact Or.inr (g5 y hy (Ne.symm hne) (by rw [← e3]; exact c1i) e1.symm)
        · by_cases yi : y = i
          · subst yi
            exact Or.inl (g5 x hx hne (by rw [e3]; exact c1i) e1)
          · rw [c1o x xi, c1o y yi] at e3
            rw [c11] at e1
            have := p5 x y hx hy hne e3 e1
            rw [← c12] at this
            rcases this with z | z
            · left
              rcases g4 x hx xi with w | w
              · exact w
              · rw [w]; exact z
            · right
              rcases g4 y hy yi with w | w
              · exact w
              · rw [w]; exact z
    · refine ih (i + 1) σ (by omega) ⟨p1, fun j hj => ?_, p3, p4, p5⟩ hfs
      rw [p2 j hj]
      by_cases ej : j = i
      · subst ej
        have : ¬ c0 3 j = nI f := cf
        simp [this]
      · have : (j < i + 1) ↔ (j < i) := by omega
        simp [this]
theorem s_pour {d n k f t : Nat} {So : Nat → Bool} {S σ : gw_S} (hk : gw_st k) (hc : cJ n f t S) (h : Rp n So S (vw k σ)) : gB d mX3_pourInto [.ref k, .int (nI f), .int (nI t)] σ (fun v σ' => v = none ∧ Rp n So (sJn f t S) (vw k σ') ∧ σ' k 12 = σ k 12 ∧ FS k σ σ') := by
  obtain ⟨hf, ht, hft, wf, wt⟩ := hc
  have hn := h.1.2.1
  have nft : ¬ nI f = nI t := by rw [nI_eq (by omega) (by omega)]; exact hft
  refine eX3_pourInto hk ((l_pour (σ0 := σ) hk hft hf ht h.1 n 0 σ (by omega) ⟨fun _ _ _ => rfl, fun j _ => by simp, fun _ _ => rfl, fun _ _ _ _ => rfl, h.2.1⟩ FS.rf).mono ?_)
  rintro v σ' ⟨rfl, ⟨p1, p2, p3, p4, p5⟩, hfs⟩
  obtain ⟨⟨a1, a2, a3⟩, hU, hV, hW, ⟨o1, o2, o3, o4⟩, hS⟩ := h
  have q0 := p1 0 (by decide) (by decide)
  have q1 := p1 1 (by decide) (by decide)
  have p2' : ∀ j, j < n → vw k σ' 3 j = if vw k σ 3 j = nI f then nI t else vw k σ 3 j := fun j hj => by rw [p2 j hj]; simp [hj]
  have nof : ∀ j, j < n → ¬ vw k σ' 3 j = nI f := fun j hj => by
    rw [p2' j hj]
    split
    · exact fun e => nft e.symm
    · assumption
  have zf : ∀ v, sumN (pcl (vw k σ') f v) n = 0 := fun v => sumN_zero (fun j hj => by rw [pcl, if_neg (fun q => nof j hj q.1)])
  refine ⟨rfl, ⟨⟨by rw [q0]; exact a1, a2, fun i hi => ?_⟩, p5, ?_, ?_, ⟨?_, ?_, ?_, ?_⟩, ?_⟩, ?_, hfs⟩
  · rw [q1]
    refine ⟨(a3 i hi).1, ?_⟩
    rw [p2' i hi]
    split
    · exact ⟨t, ht, rfl⟩
    · exact (a3 i hi).2
  · intro b v hb hv
    have e1 : (8 * b + v) / 8 = b := by omega
    have e2 : (8 * b + v) % 8 = v := by omega
    by_cases ebt : b = t
    · subst ebt
      have := p3 v hv
      rw [zf v, Int32.add_zero] at this
      rw [this, ← hV b v hb hv, ← hV f v hf hv]
      simp [sJn, e1, e2]
    · by_cases ebf : b = f
      · subst ebf
        rw [zf v]
        simp [sJn, e1, hft]
      · have : sJn f t S 0 (8 * b + v) = S 0 (8 * b + v) := by simp [sJn, e1, ebt, ebf]
        rw [this, hV b v hb hv]
        refine sumN_congr (fun j hj => ?_)
        have nbf : ¬ nI b = nI f := by rw [nI_eq (by omega) (by omega)]; exact ebf
        have nbt : ¬ nI b = nI t := by rw [nI_eq (by omega) (by omega)]; exact ebt
        unfold pcl
        rw [q1, p2' j hj]
        by_cases z : vw k σ 3 j = nI f
        · have n1 : ¬ nI t = nI b := fun e => nbt e.symm
          have n2 : ¬ nI f = nI b := fun e => nbf e.symm
          rw [if_pos z, z]
          simp [n1, n2]
        · rw [if_neg z]
          by_cases zb : vw k σ 3 j = nI b
          · rw [p4 j hj z (by rw [zb]; exact nbt)]
          · simp [zb]
  · intro b hb
    have s3 : sJn f t S 3 b = S 3 b := by simp [sJn]
    rw [s3, q0]
    refine ⟨(hW b hb).1, fun z i hi hpl => ?_⟩
    rw [p2' i hi] at hpl
    by_cases zf' : vw k σ 3 i = nI f
    · rw [if_pos zf'] at hpl
      have : t = b := (nI_eq (by omega) (by omega)).mp hpl
      subst this
      exact absurd z wt
    · rw [if_neg zf'] at hpl
      rw [p4 i hi zf' (fun e => wt (by rw [hpl, nI_eq (by omega) (by omega)] at e; rw [← e]; exact z))]
      exact (hW b hb).2 z i hi hpl
  · intro b hb
    rw [p1 5 (by decide) (by decide), p1 4 (by decide) (by decide)]
    simpa [sJn] using o1 b hb
  · intro v hv
    rw [p1 6 (by decide) (by decide), p1 7 (by decide) (by decide)]
    simpa [sJn] using o2 v hv
  · rw [q0]
    simpa [sJn] using o3
  · intro a ha
    rw [q0]
    simpa [sJn] using o4 a ha
  · intro b hb
    rw [q0]
    exact hS b hb
  · exact congrFun q0 12
