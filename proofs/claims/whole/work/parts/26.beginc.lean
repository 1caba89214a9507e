theorem s_fill {d n a : Nat} {x : Int32} {σ : gw_S} (ha : gw_k a = some (.inl (.int, n))) (hn : n < 2 ^ 31) : gB d mJ7_fill_53178 [.ref a, .int x] σ (fun v σ' => v = none ∧ (∀ j, j < n → σ' a j = x) ∧ ∀ m, m ≠ a → σ' m = σ m) := by
  have key : ∀ m i (s : gw_S), i + m = n → (∀ j, j < i → s a j = x) → (∀ m, m ≠ a → s m = σ m) → gG d mJ7_fill_53178 5 [some (.ref a), some (.int x), some (.int (nI i)), some (.int (nI n))] [] s (fun v σ' => v = none ∧ (∀ j, j < n → σ' a j = x) ∧ ∀ m, m ≠ a → σ' m = σ m) := by
    intro m
    induction m with
    | zero =>
      intro i s hi h1 h2
      have : i = n := by omega
      subst this
      exact bJ7_fill_53178_5 ha ⟨fun _ => ⟨rfl, h1, h2⟩, fun c => absurd (nI_le (Nat.le_refl _) hn) c⟩
    | succ m ih =>
      intro i s hi h1 h2
      refine bJ7_fill_53178_5 ha ⟨fun c => absurd c (nI_ge (by omega) hn), fun _ => ⟨vp_in_nI (by omega) hn, fun s1 q1 => ?_⟩⟩
      rw [i_cl (show i < 2 ^ 31 by omega)] at q1
      rw [nI_1]
      refine ih (i + 1) s1 (by omega) (fun j hj => ?_) (fun z hz => ?_)
      · rw [q1, gw_at]
        by_cases e : j = i
        · simp [e]
        · simp [e, h1 j (by omega)]
      · rw [q1, gw_ne hz]
        exact h2 z hz
  exact eJ7_fill_53178 ha (key n 0 σ (by omega) (fun j hj => by omega) (fun _ _ => rfl))
/-- two bottles that may be swapped, or none -/
def okSwC (x y n : Nat) : Prop := (x < n ∧ y < n) ∨ (x = 0 ∧ y = 0)
theorem swpC_lt {x y n i : Nat} (hn : n ≤ 8) (h : okSwC x y n) (hi : i < n) : swp (nI x) (nI y) i < n := by
  unfold swp
  rcases h with ⟨hx, hy⟩ | ⟨rfl, rfl⟩
  · rw [i_cl (show x < 2 ^ 31 by omega), i_cl (show y < 2 ^ 31 by omega)]
    repeat' split
    all_goals omega
  · rw [i_cl (show 0 < 2 ^ 31 by decide)]
    repeat' split
    all_goals omega
theorem swp_id {i : Nat} (hi : i < 2 ^ 31) : swp (nI 0) (nI 0) i = i := by
  unfold swp
  rw [i_cl (show 0 < 2 ^ 31 by decide)]
  by_cases h : nI i = nI 0
  · rw [if_pos h]
    exact ((nI_eq hi (by decide)).mp h).symm
  · rw [if_neg h, if_neg h]
theorem swp_m1 {i : Nat} (hi : i < 2 ^ 31) : swp (-1) (-1) i = i := by
  unfold swp
  rw [if_neg (nI_ne_m1 hi), if_neg (nI_ne_m1 hi)]
def Bg (V M C : Nat → Int32) (So : Nat → Bool) (n i : Nat) (c : gw_S) : Prop := c 0 7 = nI n ∧ (∀ j, j < i → c 1 j = V j ∧ c 2 j = M j ∧ c 3 j = nI j ∧ c 4 j = C j ∧ c 5 j = 0) ∧ ∀ j, j < 8 → (tb (c 0 8) j ↔ j < i ∧ So j = true)
theorem s_beginC {d n m0 k x y : Nat} {f : Nat → Int32} {σ : gw_S} (hk : gw_st k) (hk36 : 36 ≤ k) (hm : m0 ≤ 47) (hnn : n = nBo f m0) (hV : ∀ b, b < n → ∃ v, v < 8 ∧ pV f b = nI v) (hx : okSwC x y n) (hs : SC f m0 σ) : gB (d + 1) mX3_begin [.ref k, .ref 7, .int (nI x), .int (nI y)] σ (fun v σ' => v = none ∧ Rp n (fun b => pS f (swp (nI x) (nI y) b)) (sBegin n (fun b => pV f (swp (nI x) (nI y) b)) (fun b => pM f (swp (nI x) (nI y) b)) (fun b => pC f (swp (nI x) (nI y) b))) (vw k σ') ∧ σ' k 12 = -1 ∧ FS k σ σ') := by
  have hn : n ≤ 8 := by rw [hnn]; exact nBo_le hm
  obtain ⟨s74, sE, s73⟩ := hs
  rw [← hnn] at s74 sE s73
  have x8 : x < 8 ∧ y < 8 := by rcases hx with h | h <;> omega
  refine eX3_begin hk (fun s1 q1 s2 q2 => ?_)
  have w2 : vw k s2 = gw_u (gw_u (vw k σ) 0 7 (nI n)) 0 8 0 := by rw [q2, vw_u0, q1, vw_u0, s74]
  have f2 : FS k σ s2 := by rw [q2, q1]; exact FS.u0.tr FS.u0
  generalize hVV : (fun b => pV f (swp (nI x) (nI y) b)) = V
  generalize hMM : (fun b => pM f (swp (nI x) (nI y) b)) = M
  generalize hCC : (fun b => pC f (swp (nI x) (nI y) b)) = C
  generalize hSS : (fun b => pS f (swp (nI x) (nI y) b)) = So
  have key : ∀ m i (s : gw_S), i + m = n → Bg V M C So n i (vw k s) → FS k σ s → gG (d + 1) mX3_begin 16 [some (.ref k), some (.ref 7), some (.int (nI x)), some (.int (nI y)), some (.int (nI i)), none] [] s (fun v σ' => v = none ∧ Rp n So (sBegin n V M C) (vw k σ') ∧ σ' k 12 = -1 ∧ FS k σ σ') := by
    intro m
    induction m with
    | zero =>
      intro i s hi hB hf
      have : i = n := by omega
      subst this
      refine bX3_begin_16 hk ?_
      rw [show s k 7 = nI i from hB.1]
      refine ⟨fun _ => ?_, fun c => absurd (nI_le (Nat.le_refl _) (by omega)) c⟩
      refine (s_fill (n := 8) (hk.2 5 (by decide)) (by decide)).mono ?_
      rintro v s3 ⟨rfl, z1, z2⟩
      refine ⟨rfl, (s_fill (n := 8) (hk.2 6 (by decide)) (by decide)).mono ?_⟩
      rintro v s4 ⟨rfl, y1, y2⟩
      refine ⟨rfl, fun s5 q5 s6 q6 s7 q7 s8 q8 => ?_⟩
      have e47 : s4 k 7 = nI i := by rw [y2 k (by omega), z2 k (by omega)]; exact hB.1
      have w8 : vw k s8 = gw_u (gw_u (gw_u (gw_u (vw k s4) 0 9 ((1 : Int32) <<< (nI i &&& 31) - 1)) 0 10 0) 0 11 0) 0 12 (-1) := by
        rw [q8, vw_u0, q7, vw_u0, q6, vw_u0, q5, vw_u0, e47]
      have o4 : ∀ q, q ≠ 6 → q ≠ 7 → vw k s4 q = vw k s q := fun q a b => by
        show s4 (k + q) = s (k + q)
        rw [y2 (k + q) (by omega), z2 (k + q) (by omega)]
      have z6 : ∀ v, v < 8 → vw k s4 6 v = 0 := fun v hv => by
        show s4 (k + 6) v = 0
        rw [y2 (k + 6) (by omega)]
        exact z1 v hv
      have z7 : ∀ v, v < 8 → vw k s4 7 v = 0 := y1
      have f8 : FS k σ s8 := by
        refine hf.tr (fun m hm => ?_)
        rw [q8, gw_ne (by omega), q7, gw_ne (by omega), q6, gw_ne (by omega), q5, gw_ne (by omega), y2 m (by omega), z2 m (by omega)]
      have c0 : ∀ q, q ≠ 0 → vw k s8 q = vw k s4 q := fun q hq => by rw [w8, gw_ne hq, gw_ne hq, gw_ne hq, gw_ne hq]
      have cq : ∀ q, q ≠ 0 → q ≠ 6 → q ≠ 7 → vw k s8 q = vw k s q := fun q a b c => by rw [c0 q a, o4 q b c]
      have c9 : vw k s8 0 9 = (1 : Int32) <<< (nI i &&& 31) - 1 := by rw [w8, gw_nj (by decide), gw_nj (by decide), gw_nj (by decide), gw_self]
      have c10 : vw k s8 0 10 = 0 := by rw [w8, gw_nj (by decide), gw_nj (by decide), gw_self]
      have c11 : vw k s8 0 11 = 0 := by rw [w8, gw_nj (by decide), gw_self]
      have c8 : vw k s8 0 8 = vw k s 0 8 := by rw [w8, gw_nj (by decide), gw_nj (by decide), gw_nj (by decide), gw_nj (by decide), o4 0 (by decide) (by decide)]
      have c7 : vw k s8 0 7 = nI i := by rw [w8, gw_nj (by decide), gw_nj (by decide), gw_nj (by decide), gw_nj (by decide), o4 0 (by decide) (by decide)]; exact hB.1
      have p3 : ∀ j, j < i → vw k s8 3 j = nI j := fun j hj => by rw [cq 3 (by decide) (by decide) (by decide)]; exact (hB.2.1 j hj).2.2.1
      have p1 : ∀ j, j < i → vw k s8 1 j = V j := fun j hj => by rw [cq 1 (by decide) (by decide) (by decide)]; exact (hB.2.1 j hj).1
      have p2 : ∀ j, j < i → vw k s8 2 j = M j := fun j hj => by rw [cq 2 (by decide) (by decide) (by decide)]; exact (hB.2.1 j hj).2.1
      refine ⟨rfl, ⟨⟨c7, hn, fun j hj => ⟨?_, j, hj, p3 j hj⟩⟩, ?_, ?_, ?_, ⟨?_, ?_, ?_, ?_⟩, ?_⟩, by rw [q8, gw_self], f8⟩
      · rw [p1 j hj, ← hVV]
        exact hV _ (swpC_lt hn hx hj)
      · intro a b ha hb hne e3 _
        rw [p3 a ha, p3 b hb, nI_eq (by omega) (by omega)] at e3
        exact absurd e3 hne
      · intro b v hb hv
        have eb : (8 * b + v) / 8 = b := by omega
        have ev : (8 * b + v) % 8 = v := by omega
        rw [sumN_only (k := b) hb]
        · unfold pcl
          rw [p3 b hb, p1 b hb, p2 b hb]
          simp only [sBegin, eb, ev]
          by_cases q : V b = nI v
          · simp [hb, q]
          · have q2 : ¬ nI v = V b := fun e => q e.symm
            simp [q, q2]
        · intro j hj hne
          unfold pcl
          rw [p3 j hj, if_neg]
          rintro ⟨q, -⟩
          rw [nI_eq (by omega) (by omega)] at q
          exact hne q
      · intro b hb
        have := tb_full ⟨i, by omega⟩ ⟨b, by omega⟩
        simp only at this
        rw [c9, this]
        refine ⟨?_, fun z => ?_⟩
        · simp [sBegin, bi, hb]
        · simp [sBegin, bi, hb] at z
      · intro b hb
        rw [cq 5 (by decide) (by decide) (by decide), cq 4 (by decide) (by decide) (by decide)]
        have := hB.2.1 b hb
        simp [sBegin, this, hb]
      · intro v hv
        rw [c0 6 (by decide), c0 7 (by decide), z6 v hv, z7 v hv]
        simp [sBegin]
      · rw [c10]
        simp [sBegin]
      · intro a ha
        rw [c11]
        simp only [sBegin]
        simp
      · intro b hb
        rw [c8, hB.2.2 b (by omega)]
        simp [hb]
    | succ m ih =>
      intro i s hi hB hf
      have hin : i < n := by omega
      have lo := hf.low hk36
      have hsw := swpC_lt hn hx hin
      have main : gG (d + 1) mX3_begin 47 [some (.ref k), some (.ref 7), some (.int (nI x)), some (.int (nI y)), some (.int (nI i)), none] [.int (nI (swp (nI x) (nI y) i))] s (fun v σ' => v = none ∧ Rp n So (sBegin n V M C) (vw k σ') ∧ σ' k 12 = -1 ∧ FS k σ σ') := by
        have vs : vp_in (nI (swp (nI x) (nI y) i)) 8 := vp_in_nI (by omega) (by decide)
        have vi : vp_in (nI i) 8 := vp_in_nI (by omega) (by decide)
        have cs : (nI (swp (nI x) (nI y) i)).toNatClampNeg = swp (nI x) (nI y) i := i_cl (by omega)
        refine bX3_begin_47 hk ?_
        rw [cs, i_cl (show i < 2 ^ 31 by omega)]
        refine ⟨vs, vi, fun s9 q9 => ⟨vs, vi, fun s10 q10 => ⟨vi, fun s11 q11 => ⟨vs, vi, fun s12 q12 => ⟨vi, fun s13 q13 s14 q14 => ?_⟩⟩⟩⟩⟩
        obtain ⟨u1, u2, u3⟩ := sE _ hsw
        have g9 : FS k s s9 := by rw [q9]; exact FS.u (by decide)
        have g10 : FS k s s10 := g9.tr (by rw [q10]; exact FS.u (by decide))
        have g11 : FS k s s11 := g10.tr (by rw [q11]; exact FS.u (by decide))
        have g12 : FS k s s12 := g11.tr (by rw [q12]; exact FS.u (by decide))
        have g13 : FS k s s13 := g12.tr (by rw [q13]; exact FS.u (by decide))
        have g14 : FS k s s14 := g13.tr (by rw [q14]; exact FS.u0)
        have l8 : s 8 (swp (nI x) (nI y) i) = V i := by rw [lo 8 (by omega), u1, ← hVV]
        have l9 : s9 9 (swp (nI x) (nI y) i) = M i := by rw [g9.low hk36 9 (by omega), lo 9 (by omega), u2, ← hMM]
        have l10 : s11 10 (swp (nI x) (nI y) i) = C i := by rw [g11.low hk36 10 (by omega), lo 10 (by omega), u3, ← hCC]
        have l7 : s13 7 3 = bm (pS f) n := by rw [g13.low hk36 7 (by omega), lo 7 (by omega), s73]
        rw [l8] at q9
        rw [l9] at q10
        rw [l10] at q12
        rw [l7, bit_bi (by omega)] at q14
        have e13 : s13 k 8 = s k 8 := by
          rw [q13, gw_ne (by omega), q12, gw_ne (by omega), q11, gw_ne (by omega), q10, gw_ne (by omega), q9, gw_ne (by omega)]
        rw [e13] at q14
        have w14 : vw k s14 = gw_u (gw_u (gw_u (gw_u (gw_u (gw_u (vw k s) 1 i (V i)) 2 i (M i)) 3 i (nI i)) 4 i (C i)) 5 i 0) 0 8 (vw k s 0 8 ||| (bi (tb (bm (pS f) n) (swp (nI x) (nI y) i))) <<< (nI i &&& 31)) := by
          rw [q14, vw_u0, q13, vw_u, q12, vw_u, q11, vw_u, q10, vw_u, q9, vw_u]
          rfl
        rw [nI_1]
        refine ih (i + 1) s14 (by omega) ⟨?_, ?_, ?_⟩ (hf.tr g14)
        · rw [w14, gw_nj (by decide), gw_ne (by decide), gw_ne (by decide), gw_ne (by decide), gw_ne (by decide), gw_ne (by decide)]
          exact hB.1
        · intro j hj
          rw [w14]
          simp only [gw_at]
          by_cases e : j = i
          · simp [e]
          · have := hB.2.1 j (by omega)
            simp [e, this]
        · intro j hj
          have e0 : vw k s14 0 8 = vw k s 0 8 ||| (bi (tb (bm (pS f) n) (swp (nI x) (nI y) i))) <<< (nI i &&& 31) := by rw [w14, gw_self]
          rw [e0, bi_sh (by omega) (by omega), hB.2.2 j hj, tb_bm n _ (by omega) (by omega), ← hSS]
          constructor
          · rintro (⟨a, b⟩ | ⟨⟨a, b⟩, c⟩)
            · exact ⟨by omega, b⟩
            · subst c; exact ⟨by omega, b⟩
          · rintro ⟨a, b⟩
            by_cases e : j = i
            · subst e; exact Or.inr ⟨⟨hsw, b⟩, rfl⟩
            · exact Or.inl ⟨by omega, b⟩
      have esw : swp (nI x) (nI y) i = if nI i = nI x then y else if nI i = nI y then x else i := by
        unfold swp
        rw [i_cl (show x < 2 ^ 31 by omega), i_cl (show y < 2 ^ 31 by omega)]
      rw [esw] at main
      refine bX3_begin_16 hk ?_
      rw [show s k 7 = nI n from hB.1]
      refine ⟨fun c => absurd c (nI_ge (by omega) (by omega)), fun _ => ⟨fun c1 => ⟨fun c2 => ?_, fun c2 => ?_⟩, fun c1 => ?_⟩⟩
      · rw [if_neg c1, if_neg c2] at main; exact main
      · rw [if_neg c1, if_pos c2] at main; exact main
      · rw [if_pos c1] at main; exact main
  refine key n 0 s2 (by omega) ⟨?_, fun j hj => by omega, fun j hj => ?_⟩ f2
  · rw [w2, gw_nj (by decide), gw_self]
  · rw [w2, gw_self]
    constructor
    · intro q; exact absurd q (tb_0 (by omega))
    · rintro ⟨a, -⟩; omega
