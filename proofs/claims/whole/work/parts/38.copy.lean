/-! copy -/
abbrev okCr (τ : gw_S) (s t : Nat) (i j n : Int32) : Prop := 0 ≤ i ∧ 0 ≤ j ∧ 0 ≤ n ∧ i.toInt + n.toInt ≤ (τ 170 s).toInt ∧ j.toInt + n.toInt ≤ (τ 170 t).toInt
def V_copy (τ : gw_S) (s i t j n : Nat) : gw_S := fun k x => if k = 171 ∧ 60 * t + j ≤ x ∧ x < 60 * t + j + n then τ 171 (60 * s + i + (x - (60 * t + j))) else τ k x
theorem VC_ne {τ : gw_S} {s i t j n k : Nat} (h : k ≠ 171) : V_copy τ s i t j n k = τ k := by
  funext x
  unfold V_copy
  rw [if_neg (fun q => h q.1)]
theorem VC_0 {τ : gw_S} {s i t j : Nat} : V_copy τ s i t j 0 = τ := by
  funext k x
  unfold V_copy
  rw [if_neg (by omega)]
theorem VC_s {τ : gw_S} {s i t j n : Nat} : gw_u (V_copy τ s i t j n) 171 (60 * t + j + n) (τ 171 (60 * s + i + n)) = V_copy τ s i t j (n + 1) := by
  funext k x
  rw [gw_at]
  unfold V_copy
  by_cases h : k = 171
  · subst h
    by_cases e : x = 60 * t + j + n
    · rw [if_pos ⟨rfl, e⟩, if_pos ⟨rfl, by omega, by omega⟩, show x - (60 * t + j) = n by omega]
    · rw [if_neg (fun q => e q.2)]
      by_cases c : 60 * t + j ≤ x ∧ x < 60 * t + j + n
      · rw [if_pos ⟨rfl, c⟩, if_pos ⟨rfl, c.1, by omega⟩]
      · rw [if_neg (fun q => c q.2), if_neg (fun q => c ⟨q.2.1, by omega⟩)]
  · rw [if_neg (fun q => h q.1), if_neg (fun q => h q.1), if_neg (fun q => h q.1)]
/-- what a copy finds; 0: nothing -/
def cfn (τ : gw_S) (s t : Nat) (i j n : Int32) : Int32 := if τ 168 s = 0 ∨ τ 168 t = 0 then 1 else if ¬ τ 169 s = τ 169 t then 4 else if okCr τ s t i j n then 0 else 2
def A_copy (τ : gw_S) (s i t j n : Int32) : Int32 := if ok4 s ∧ ok4 t then (if cfn τ s.toNatClampNeg t.toNatClampNeg i j n = 0 then 1 else -10 - cfn τ s.toNatClampNeg t.toNatClampNeg i j n) else -2
def U_copy (τ : gw_S) (s i t j n : Int32) : gw_S := if ok4 s ∧ ok4 t then (if cfn τ s.toNatClampNeg t.toNatClampNeg i j n = 0 then V_copy τ s.toNatClampNeg i.toNatClampNeg t.toNatClampNeg j.toNatClampNeg n.toNatClampNeg else U_find τ (cfn τ s.toNatClampNeg t.toNatClampNeg i j n)) else τ
theorem w_copy {τ : gw_S} {s i t j n : Int32} (hw : WF τ) : WF (U_copy τ s i t j n) := by
  unfold U_copy
  split
  · split
    · exact hw.she (fun k h1 _ => VC_ne (by omega)) (fun j _ => by rw [VC_ne (by decide)]) (fun s hs => by rw [VC_ne (by decide), VC_ne (by decide), VC_ne (by decide)]; exact hw.2.2.2.2.2 s hs)
    · exact w_find hw
  · exact hw
theorem z_sub {z n : Int32} {a : Nat} (ha : a ≤ 60) (e : z = nI a) (h0 : 0 ≤ n) (h : ¬ z < n) : (z - n).toInt = (a : Int) - n.toInt := by
  obtain ⟨m, hm, rfl⟩ := i_nn h0
  rw [e] at h ⊢
  rw [i_lt, nI_toInt (by omega), nI_toInt (by omega)] at h
  rw [nI_sub (by omega), nI_toInt (by omega), nI_toInt (by omega)]
  omega
theorem s_hasItems {d x z : Nat} {i n : Int32} {σ : gw_S} (hx : x < 4) (hz : z ≤ 60) (h : σ 33 x = nI z) : gB d mX1_hasItems [.ref 26, .int (nI x), .int i, .int n] σ (fun v σ' => v = some (.int (bi (0 ≤ i ∧ 0 ≤ n ∧ i.toInt + n.toInt ≤ (nI z).toInt))) ∧ σ' = σ) := by
  have vi : vp_in (nI x) 4 := vp_in_nI hx (by decide)
  have e0 : (0 : Int32).toInt = 0 := by decide
  refine eX1_hasItems ?_
  rw [i_cl (show x < 2 ^ 31 by omega), h]
  refine ⟨fun c => ⟨?_, rfl⟩, fun c => ⟨fun c2 => ⟨?_, rfl⟩, fun c2 => ⟨vi, fun c3 => ⟨?_, rfl⟩, fun c3 => ⟨vi, fun c4 => ⟨?_, rfl⟩, fun c4 => ⟨?_, rfl⟩⟩⟩⟩⟩
  · rw [bi_f]
    rintro ⟨q, -⟩
    rw [i_le] at q; rw [i_lt] at c; omega
  · rw [bi_f]
    rintro ⟨-, q, -⟩
    rw [i_le] at q; rw [i_lt] at c2; omega
  · rw [bi_f]
    rintro ⟨q1, q2, q3⟩
    rw [i_le] at q1; rw [i_lt] at c3; omega
  · rw [bi_f]
    rintro ⟨q1, q2, q3⟩
    rw [i_lt, z_sub hz rfl q2 c3] at c4
    rw [nI_toInt (by omega)] at q3
    omega
  · have p1 : 0 ≤ i := by rw [i_le]; rw [i_lt] at c; omega
    have p2 : 0 ≤ n := by rw [i_le]; rw [i_lt] at c2; omega
    rw [i_lt, z_sub hz rfl p2 c3] at c4
    rw [bi_t ⟨p1, p2, by rw [nI_toInt (by omega)]; omega⟩]
theorem c_copy {d : Nat} {s i t j n : Int32} {τ σ : gw_S} (hw : WF τ) (h : TC τ σ) : gB (d + 2) mX8_copy [.ref 0, .int s, .int i, .int t, .int j, .int n] σ (QU τ (U_copy τ s i t j n) σ (A_copy τ s i t j n)) := by
  have bad : ¬ (ok4 s ∧ ok4 t) → QU τ (U_copy τ s i t j n) σ (A_copy τ s i t j n) (some (.int (-2))) σ := fun c => QU.no h (by rw [U_copy, if_neg c]) (by rw [A_copy, if_neg c])
  refine eX8_copy (gB_det s_isWithin ⟨_, rfl, br_bj (fun h1 => ?_) (fun h1 => bad (fun q => h1 q.1))⟩)
  refine gB_det s_isWithin ⟨_, rfl, br_bi (fun h2 => ?_) (fun h2 => bad (fun q => h2 q.2))⟩
  obtain ⟨x, hx, rfl⟩ := ok4_x h1
  obtain ⟨y, hy, rfl⟩ := ok4_x h2
  have ic : (nI x).toNatClampNeg = x := i_cl (show x < 2 ^ 31 by omega)
  have jc : (nI y).toNatClampNeg = y := i_cl (show y < 2 ^ 31 by omega)
  have vi : vp_in (nI x) 4 := vp_in_nI hx (by decide)
  have vj : vp_in (nI y) 4 := vp_in_nI hy (by decide)
  have fi : ∀ c : Int32, cfn τ x y i j n = c → ¬ c = 0 → ∀ d, gB d mX8_find [.ref 0, .int c] σ (fun v σ' => ∃ r : Int32, v = some (.int r) ∧ QU τ (U_copy τ (nI x) i (nI y) j n) σ (A_copy τ (nI x) i (nI y) j n) (some (.int r)) σ') := fun c e hne d => by
    subst e
    exact QU.find h (by rw [U_copy, if_pos ⟨h1, h2⟩, ic, jc, if_neg hne]) (by rw [A_copy, if_pos ⟨h1, h2⟩, ic, jc, if_neg hne])
  obtain ⟨t1, t2⟩ := sh_there hw h hx
  obtain ⟨u1, u2⟩ := sh_there hw h hy
  rw [ic, jc]
  refine ⟨vi, fun c => fi 1 (by rw [cfn, if_pos (Or.inl (t1.mp c))]) (by decide) _, fun c => ⟨vj, fun c2 => ⟨vi, vj, ?_⟩, fun c2 => fi 1 (by rw [cfn, if_pos (Or.inr (u1.mp c2))]) (by decide) _⟩⟩
  have p1 : ¬ τ 168 x = 0 := fun q => c (t1.mpr q)
  have p2 : ¬ τ 168 y = 0 := fun q => c2 (u1.mpr q)
  have p3 : ¬ (τ 168 x = 0 ∨ τ 168 y = 0) := fun q => q.elim p1 p2
  obtain ⟨⟨f1, hf1, ef1, ef2⟩, z1, hz1, ez1, ez2⟩ := t2 p1
  obtain ⟨⟨f3, hf3, ef3, ef4⟩, z3, hz3, ez3, ez4⟩ := u2 p2
  rw [ef2, ef4, ← ef1, ← ef3]
  refine ⟨fun c3 => ?_, fun c3 => fi 4 (by rw [cfn, if_neg p3, if_pos c3]) (by decide) _⟩
  have ng : ¬ okCr τ x y i j n → cfn τ x y i j n = 2 := fun q => by rw [cfn, if_neg p3, if_neg (not_not_intro c3), if_neg q]
  refine gB_det (s_hasItems hx hz1 ez2) ⟨_, rfl, br_bj (fun c4 => ?_) (fun c4 => fi 2 (ng (fun q => c4 ⟨q.1, q.2.2.1, by rw [← ez1]; exact q.2.2.2.1⟩)) (by decide) _)⟩
  refine gB_det (s_hasItems hy hz3 ez4) ⟨_, rfl, br_bi (fun c5 => ?_) (fun c5 => fi 2 (ng (fun q => c5 ⟨q.2.1, q.2.2.1, by rw [← ez3]; exact q.2.2.2.2⟩)) (by decide) _)⟩
  have ok : okCr τ x y i j n := ⟨c4.1, c5.1, c4.2.1, by rw [ez1]; exact c4.2.2, by rw [ez3]; exact c5.2.2⟩
  have c0 : cfn τ x y i j n = 0 := by rw [cfn, if_neg p3, if_neg (not_not_intro c3), if_pos ok]
  obtain ⟨I, hI, rfl⟩ := i_nn c4.1
  obtain ⟨J, hJ, rfl⟩ := i_nn c5.1
  obtain ⟨N, hN, rfl⟩ := i_nn c4.2.1
  have l1 := c4.2.2
  have l2 := c5.2.2
  rw [nI_toInt hI, nI_toInt hN, nI_toInt (by omega)] at l1
  rw [nI_toInt hJ, nI_toInt hN, nI_toInt (by omega)] at l2
  rw [i_cl hI, i_cl hJ, i_cl hN]
  refine ⟨vi, 28 + x, (sh_q hx).1, (sh_q hx).2, vj, 28 + y, (sh_q hy).1, (sh_q hy).2, ⟨nI_pos hI, nI_pos hJ, nI_pos hN, by omega, by omega⟩, fun s17 q17 => ?_⟩
  have eU : U_copy τ (nI x) (nI I) (nI y) (nI J) (nI N) = V_copy τ x I y J N := by rw [U_copy, if_pos ⟨h1, h2⟩, ic, jc, if_pos c0, i_cl hI, i_cl hJ, i_cl hN]
  have kk : ∀ k, k ≠ 28 + y → s17 k = σ k := fun k a => by rw [q17]; unfold gw_cp; rw [if_neg a]
  refine ⟨by rw [A_copy, if_pos ⟨h1, h2⟩, ic, jc, if_pos c0], ?_, Or.inl ⟨?_, ?_⟩, fun k hk => kk k (by omega)⟩
  · rw [eU]
    refine h.she (fun k h1 _ => VC_ne (by omega)) (fun j _ => by rw [VC_ne (by decide)]) (fun k a b => kk k (by omega)) ⟨fun w hw4 => ?_, ?_⟩
    · have w0 := h.2.2.2.1 w hw4
      rw [VC_ne (show (168 : Nat) ≠ 171 by decide), VC_ne (show (169 : Nat) ≠ 171 by decide), VC_ne (show (170 : Nat) ≠ 171 by decide), kk 32 (by omega), kk 33 (by omega)]
      refine ⟨w0.1, w0.2.1, fun a ha => ?_⟩
      unfold V_copy
      by_cases e : w = y
      · subst e
        rw [q17]
        unfold gw_cp va_cpy
        rw [if_pos rfl]
        by_cases r : J ≤ a ∧ a < J + N
        · rw [if_pos r, if_pos ⟨rfl, by omega, by omega⟩, (h.2.2.2.1 x hx).2.2 _ (by omega)]
          congr 1
          omega
        · rw [if_neg r, if_neg (by omega), w0.2.2 a ha]
      · rw [kk (28 + w) (by omega), if_neg (by omega), w0.2.2 a ha]
    · rw [kk 0 (by omega), VC_ne (by decide)]
      exact h.2.2.2.2
  · rw [eU]
    exact SD.she (fun k h1 _ => VC_ne (by omega)) (fun j _ => by rw [VC_ne (by decide)])
  · exact ⟨by rw [kk 0 (by omega)], by rw [kk 0 (by omega)], by rw [kk 0 (by omega)], fun m a b => kk m (by omega)⟩
theorem m_copy {d : Nat} {s i t j n : Int32} {τ σ : gw_S} (hw : WF τ) (h : TM τ σ) : gB (d + 2) mX9_copy [.ref 1, .int s, .int i, .int t, .int j, .int n] σ (QN (U_copy τ s i t j n) σ (A_copy τ s i t j n)) := by
  have bad : ¬ (ok4 s ∧ ok4 t) → QN (U_copy τ s i t j n) σ (A_copy τ s i t j n) (some (.int (-2))) σ := fun c => QN.no h (by rw [U_copy, if_neg c]) (by rw [A_copy, if_neg c])
  refine eX9_copy (gB_det s_isSheet2 ⟨_, rfl, br_bj (fun h1 => ?_) (fun h1 => bad (fun q => h1 q.1))⟩)
  refine gB_det s_isSheet2 ⟨_, rfl, br_bi (fun h2 => ?_) (fun h2 => bad (fun q => h2 q.2))⟩
  obtain ⟨x, hx, rfl⟩ := ok4_x h1
  obtain ⟨y, hy, rfl⟩ := ok4_x h2
  have ic : (nI x).toNatClampNeg = x := i_cl (show x < 2 ^ 31 by omega)
  have jc : (nI y).toNatClampNeg = y := i_cl (show y < 2 ^ 31 by omega)
  have vi : vp_in (nI x) 4 := vp_in_nI hx (by decide)
  have vj : vp_in (nI y) 4 := vp_in_nI hy (by decide)
  have e0 : (0 : Int32).toInt = 0 := by decide
  have fi : ∀ c : Int32, cfn τ x y i j n = c → ¬ c = 0 → ∀ d, gB d mX9_meets [.ref 1, .int c] σ (fun v σ' => ∃ r : Int32, v = some (.int r) ∧ QN (U_copy τ (nI x) i (nI y) j n) σ (A_copy τ (nI x) i (nI y) j n) (some (.int r)) σ') := fun c e hne d => by
    subst e
    exact QN.find h (by rw [U_copy, if_pos ⟨h1, h2⟩, ic, jc, if_neg hne]) (by rw [A_copy, if_pos ⟨h1, h2⟩, ic, jc, if_neg hne])
  rw [ic, jc, h.1 168 (by decide), h.1 169 (by decide), h.1 170 (by decide)]
  refine ⟨vi, fun c => fi 1 (by rw [cfn, if_pos (Or.inl c)]) (by decide) _, fun p1 => ⟨vj, fun p2 => ⟨vi, vj, fun c3 => ?_, fun c3 => fi 4 (by rw [cfn, if_neg (fun q => q.elim p1 p2), if_pos c3]) (by decide) _⟩, fun c2 => fi 1 (by rw [cfn, if_pos (Or.inr c2)]) (by decide) _⟩⟩
  have p3 : ¬ (τ 168 x = 0 ∨ τ 168 y = 0) := fun q => q.elim p1 p2
  have ng : ¬ okCr τ x y i j n → cfn τ x y i j n = 2 := fun q => by rw [cfn, if_neg p3, if_neg (not_not_intro c3), if_neg q]
  rw [lg_cmp_gt, lg_cmp_le, Int64.lt_iff_toInt_lt, Int64.le_iff_toInt_le, lg_i2l_add, lg_i2l_add, Int32.toInt_toInt64, Int32.toInt_toInt64]
  refine ⟨fun a1 => fi 2 (ng (fun q => ?_)) (by decide) _, fun a1 => ⟨fun a2 => fi 2 (ng (fun q => ?_)) (by decide) _, fun a2 => ⟨fun a3 => fi 2 (ng (fun q => ?_)) (by decide) _, fun a3 => ⟨vi, fun a4 => fi 2 (ng (fun q => ?_)) (by decide) _, fun a4 => ⟨vj, fun a5 => ?_, fun a5 => fi 2 (ng (fun q => ?_)) (by decide) _⟩⟩⟩⟩⟩
  · have := i_le.mp q.1; rw [i_lt] at a1; omega
  · have := i_le.mp q.2.1; rw [i_lt] at a2; omega
  · have := i_le.mp q.2.2.1; rw [i_lt] at a3; omega
  · have := q.2.2.2.1; omega
  · have b1 : 0 ≤ i := by rw [i_le]; rw [i_lt] at a1; omega
    have b2 : 0 ≤ j := by rw [i_le]; rw [i_lt] at a2; omega
    have b3 : 0 ≤ n := by rw [i_le]; rw [i_lt] at a3; omega
    have ok : okCr τ x y i j n := ⟨b1, b2, b3, by omega, a5⟩
    have c0 : cfn τ x y i j n = 0 := by rw [cfn, if_neg p3, if_neg (not_not_intro c3), if_pos ok]
    have w1 := hw.2.2.2.2.2 x hx
    obtain ⟨-, z1, hz1, ez1⟩ := w1.2 (w1.1.resolve_left p1)
    have w2 := hw.2.2.2.2.2 y hy
    obtain ⟨-, z2, hz2, ez2⟩ := w2.2 (w2.1.resolve_left p2)
    obtain ⟨I, hI, rfl⟩ := i_nn b1
    obtain ⟨J, hJ, rfl⟩ := i_nn b2
    obtain ⟨N, hN, rfl⟩ := i_nn b3
    have l1 := ok.2.2.2.1
    have l2 := ok.2.2.2.2
    rw [nI_toInt hI, nI_toInt hN, ez1, nI_toInt (by omega)] at l1
    rw [nI_toInt hJ, nI_toInt hN, ez2, nI_toInt (by omega)] at l2
    have eU : U_copy τ (nI x) (nI I) (nI y) (nI J) (nI N) = V_copy τ x I y J N := by rw [U_copy, if_pos ⟨h1, h2⟩, ic, jc, if_pos c0, i_cl hI, i_cl hJ, i_cl hN]
    have eA : A_copy τ (nI x) (nI I) (nI y) (nI J) (nI N) = 1 := by rw [A_copy, if_pos ⟨h1, h2⟩, ic, jc, if_pos c0]
    rw [eU, eA]
    have k2 : ∀ m k (r : gw_S), k + m = N → TM (V_copy τ x I y J k) r → (∀ a, a < N → r 172 a = τ 171 (60 * x + I + a)) → FMo σ r → gG (d + 1 + 1) mX9_copy 157 [some (.ref 1), none, none, some (.int (nI y)), some (.int (nI J)), some (.int (nI N)), some (.int (nI k))] [] r (QN (V_copy τ x I y J N) σ 1) := by
      intro m
      induction m with
      | zero =>
        intro k r hk ht hm hf
        have : k = N := by omega
        subst this
        exact bX9_copy_157 ⟨fun _ => ⟨rfl, ht, hf⟩, fun q => absurd (nI_le (Nat.le_refl _) (by omega)) q⟩
      | succ m ih =>
        intro k r hk ht hm hf
        refine bX9_copy_157 ⟨fun q => absurd q (nI_ge (by omega) (by omega)), fun _ => ?_⟩
        rw [e60, nI_add, i_cl (show 60 * y + J + k < 2 ^ 31 by omega), i_cl (show k < 2 ^ 31 by omega), nI_1, hm k (by omega)]
        refine ⟨vp_in_nI (by omega) (by decide), vp_in_nI (by omega) (by decide), fun s22 q22 => ih (k + 1) s22 (by omega) ?_ ?_ ?_⟩
        · rw [q22, ← VC_s]; exact ht.u
        · rw [q22, gw_ne (by decide)]; exact hm
        · rw [q22]; exact hf.tr (FMo.u (by decide))
    have k1 : ∀ m k (r : gw_S), k + m = N → TM τ r → (∀ a, a < k → r 172 a = τ 171 (60 * x + I + a)) → FMo σ r → gG (d + 1 + 1) mX9_copy 120 [some (.ref 1), some (.int (nI x)), some (.int (nI I)), some (.int (nI y)), some (.int (nI J)), some (.int (nI N)), some (.int (nI k))] [] r (QN (V_copy τ x I y J N) σ 1) := by
      intro m
      induction m with
      | zero =>
        intro k r hk ht hm hf
        have : k = N := by omega
        subst this
        exact bX9_copy_120 ⟨fun _ => k2 k 0 r (by omega) (by rw [VC_0]; exact ht) hm hf, fun q => absurd (nI_le (Nat.le_refl _) (by omega)) q⟩
      | succ m ih =>
        intro k r hk ht hm hf
        refine bX9_copy_120 ⟨fun q => absurd q (nI_ge (by omega) (by omega)), fun _ => ?_⟩
        rw [e60, nI_add, i_cl (show 60 * x + I + k < 2 ^ 31 by omega), i_cl (show k < 2 ^ 31 by omega), nI_1, ht.1 171 (by decide)]
        refine ⟨vp_in_nI (by omega) (by decide), vp_in_nI (by omega) (by decide), fun s21 q21 => ih (k + 1) s21 (by omega) ?_ ?_ ?_⟩
        · rw [q21]; exact ht.frL (FM.u (L := [172]) (J := []) (Or.inl (by decide))) (by decide) (by decide)
        · intro a ha
          rw [q21, gw_at]
          by_cases e : a = k
          · rw [if_pos ⟨rfl, e⟩, e]
          · rw [if_neg (fun q => e q.2)]
            exact hm a (by omega)
        · rw [q21]; exact hf.tr (FMo.u (by decide))
    exact k1 N 0 σ (by omega) h (fun a ha => by omega) FMo.rf
  · have := q.2.2.2.2; omega
/-! read -/
def rdL (x : Nat) : Nat → Nat → gw_S → Nat × gw_S
  | 0, n, τ => (n, τ)
  | m + 1, n, τ => if 0 < A_act τ (τ 171 (60 * x + 4 * n)) (τ 171 (60 * x + 4 * n + 1)) (τ 171 (60 * x + 4 * n + 2)) (τ 171 (60 * x + 4 * n + 3)) then rdL x m (n + 1) (U_act τ (τ 171 (60 * x + 4 * n)) (τ 171 (60 * x + 4 * n + 1)) (τ 171 (60 * x + 4 * n + 2)) (τ 171 (60 * x + 4 * n + 3))) else (n, τ)
def A_read (τ : gw_S) (s : Int32) : Int32 := if ok4 s then (if τ 168 s.toNatClampNeg = 0 then -11 else nI (rdL s.toNatClampNeg ((τ 170 s.toNatClampNeg).toNatClampNeg / 4) 0 τ).1) else -2
def U_read (τ : gw_S) (s : Int32) : gw_S := if ok4 s then (if τ 168 s.toNatClampNeg = 0 then U_find τ 1 else (rdL s.toNatClampNeg ((τ 170 s.toNatClampNeg).toNatClampNeg / 4) 0 τ).2) else τ
theorem rdL_w {x : Nat} : ∀ m n (τ : gw_S), WF τ → WF (rdL x m n τ).2
  | 0, _, _, h => h
  | m + 1, n, τ, h => by
    unfold rdL
    split
    · exact rdL_w m (n + 1) _ (w_act h)
    · exact h
theorem w_read {τ : gw_S} {s : Int32} (hw : WF τ) : WF (U_read τ s) := by
  unfold U_read
  split
  · split
    · exact w_find hw
    · exact rdL_w _ _ _ hw
  · exact hw
theorem act_pos {τ : gw_S} {D k b t : Int32} (hw : WF τ) : (0 < A_act τ D k b t ↔ okA D k b t ∧ ¬ τ 1 12 = 16) ∧ (0 < A_act τ D k b t ↔ 0 ≤ A_act τ D k b t) ∧ (¬ 0 < A_act τ D k b t → U_act τ D k b t = τ) := by
  by_cases c : okA D k b t
  · by_cases c2 : τ 1 12 = 16
    · have e : A_act τ D k b t = -4 := by rw [A_act, if_pos c, if_pos c2]
      rw [e]
      exact ⟨⟨fun q => absurd q (by decide), fun q => absurd c2 q.2⟩, by decide, fun _ => by rw [U_act, if_neg (fun q => q.2 c2)]⟩
    · have e : A_act τ D k b t = nI (nA τ + 1) := by rw [A_act, if_pos c, if_neg c2, hw.2.2.2.1.1, nI_1]
      have := act_n hw c2
      have p : 0 < A_act τ D k b t := by rw [e]; exact nI_lt (a := 0) (by omega) (by omega)
      have p2 : 0 ≤ A_act τ D k b t := by rw [e]; exact nI_pos' (by omega)
      exact ⟨⟨fun _ => ⟨c, c2⟩, fun _ => p⟩, ⟨fun _ => p2, fun _ => p⟩, fun q => absurd p q⟩
  · have e : A_act τ D k b t = -2 := by rw [A_act, if_neg c]
    rw [e]
    exact ⟨⟨fun q => absurd q (by decide), fun q => absurd q.1 c⟩, by decide, fun _ => by rw [U_act, if_neg (fun q => c q.1)]⟩
theorem U_act_ne {τ : gw_S} {D k b t : Int32} {m : Nat} (h1 : m ≠ 1) (h2 : m < 148 ∨ 151 < m) : U_act τ D k b t m = τ m := by
  unfold U_act
  split
  · exact V_ne h1 h2
  · rfl
/-- the class's caches, when acts were told or not -/
def KF (τ τ' σ σ' : gw_S) : Prop := (SD τ τ' ∧ KP σ σ') ∨ FG σ'
theorem KF.tr {τ τ1 τ2 σ σ1 σ2 : gw_S} (h : KF τ τ1 σ σ1) (h2 : KF τ1 τ2 σ1 σ2) : KF τ τ2 σ σ2 := by
  rcases h2 with h2 | h2
  · rcases h with h | h
    · exact Or.inl ⟨h.1.tr h2.1, h.2.tr h2.2⟩
    · exact Or.inr ⟨h2.2.1.trans h.1, h2.2.2.1.trans h.2⟩
  · exact Or.inr h2
theorem e4 {n : Nat} : (4 : Int32) * nI n = nI (4 * n) := by rw [show (4 : Int32) = nI 4 from rfl, nI_mul]
theorem c_read {d : Nat} {s : Int32} {τ σ : gw_S} (hw : WF τ) (h : TC τ σ) : gB (d + 3) mX8_read [.ref 0, .int s] σ (QU τ (U_read τ s) σ (A_read τ s)) := by
  refine eX8_read (gB_det s_isWithin ⟨_, rfl, br_bi (fun h1 => ?_) (fun h1 => QU.no h (by rw [U_read, if_neg h1]) (by rw [A_read, if_neg h1]))⟩)
  obtain ⟨x, hx, rfl⟩ := ok4_x h1
  have vi : vp_in (nI x) 4 := vp_in_nI hx (by decide)
  have ic : (nI x).toNatClampNeg = x := i_cl (show x < 2 ^ 31 by omega)
  obtain ⟨t1, t2⟩ := sh_there hw h hx
  rw [ic]
  refine ⟨vi, fun c => ?_, fun c => QU.find h (by rw [U_read, if_pos h1, ic, if_pos (t1.mp c)]) (by rw [A_read, if_pos h1, ic, if_pos (t1.mp c)]; rfl)⟩
  have c2 : ¬ τ 168 x = 0 := fun q => c (t1.mpr q)
  obtain ⟨-, z, hz, ez, ez2⟩ := t2 c2
  have eU : U_read τ (nI x) = (rdL x (z / 4) 0 τ).2 := by rw [U_read, if_pos h1, ic, if_neg c2, ez, i_cl (show z < 2 ^ 31 by omega)]
  have eA : A_read τ (nI x) = nI (rdL x (z / 4) 0 τ).1 := by rw [A_read, if_pos h1, ic, if_neg c2, ez, i_cl (show z < 2 ^ 31 by omega)]
  refine ⟨vi, 28 + x, (sh_q hx).1, (sh_q hx).2, vi, ?_⟩
  rw [ez2, show (4 : Int32) = nI 4 from rfl, nI_div (by omega) (by decide) (by decide), eU, eA]
  have key : ∀ m n (τ1 r : gw_S), n + m = z / 4 → WF τ1 → TC τ1 r → KF τ τ1 σ r → FCl σ r → gG (d + 2 + 1) mX8_read 55 [some (.ref 0), none, some (.ref (28 + x)), some (.int (nI (z / 4))), some (.int (nI n)), none] [] r (QU τ (rdL x m n τ1).2 σ (nI (rdL x m n τ1).1)) := by
    intro m
    induction m with
    | zero =>
      intro n τ1 r hn k1 k2 k3 k4
      have : n = z / 4 := by omega
      subst this
      exact bX8_read_55 (sh_q hx).2 ⟨fun _ => ⟨rfl, k2, k3, k4⟩, fun q => absurd (nI_le (Nat.le_refl _) (by omega)) q⟩
    | succ m ih =>
      intro n τ1 r hn k1 k2 k3 k4
      refine bX8_read_55 (sh_q hx).2 ⟨fun q => absurd q (nI_ge (by omega) (by omega)), fun _ => ?_⟩
      have it := (k2.2.2.2.1 x hx).2.2
      rw [e4, show nI (4 * n) + 1 = nI (4 * n + 1) from nI_add _ 1, show nI (4 * n) + 2 = nI (4 * n + 2) from nI_add _ 2, show nI (4 * n) + 3 = nI (4 * n + 3) from nI_add _ 3, i_cl (show 4 * n < 2 ^ 31 by omega), i_cl (show 4 * n + 1 < 2 ^ 31 by omega), i_cl (show 4 * n + 2 < 2 ^ 31 by omega), i_cl (show 4 * n + 3 < 2 ^ 31 by omega), it (4 * n) (by omega), it (4 * n + 1) (by omega), it (4 * n + 2) (by omega), it (4 * n + 3) (by omega), ← Nat.add_assoc (60 * x) (4 * n) 1, ← Nat.add_assoc (60 * x) (4 * n) 2, ← Nat.add_assoc (60 * x) (4 * n) 3, nI_1]
      refine ⟨vp_in_nI (by omega) (by decide), vp_in_nI (by omega) (by decide), vp_in_nI (by omega) (by decide), vp_in_nI (by omega) (by decide), (c_act k1 k2).mono ?_⟩
      rintro _ σ7 ⟨rfl, g1, g2, g3⟩
      obtain ⟨-, b2, b3⟩ := act_pos (τ := τ1) (D := τ1 171 (60 * x + 4 * n)) (k := τ1 171 (60 * x + 4 * n + 1)) (b := τ1 171 (60 * x + 4 * n + 2)) (t := τ1 171 (60 * x + 4 * n + 3)) k1
      refine ⟨_, rfl, fun c5 => ?_, fun c5 => ?_⟩
      · have := ih (n + 1) _ σ7 (by omega) (w_act k1) g1 (k3.tr g2) (k4.tr g3)
        unfold rdL
        rw [if_pos (b2.mpr c5)]
        exact this
      · have c6 := fun q => c5 (b2.mp q)
        rw [b3 c6] at g1 g2
        unfold rdL
        rw [if_neg c6]
        exact ⟨rfl, g1, k3.tr g2, k4.tr g3⟩
  exact key (z / 4) 0 τ σ (by omega) hw h (Or.inl ⟨SD.rf, KP.rf⟩) FCl.rf
theorem m_read {d : Nat} {s : Int32} {τ σ : gw_S} (hw : WF τ) (h : TM τ σ) : gB (d + 3) mX9_read [.ref 1, .int s] σ (QN (U_read τ s) σ (A_read τ s)) := by
  refine eX9_read (gB_det s_isSheet2 ⟨_, rfl, br_bi (fun h1 => ?_) (fun h1 => QN.no h (by rw [U_read, if_neg h1]) (by rw [A_read, if_neg h1]))⟩)
  obtain ⟨x, hx, rfl⟩ := ok4_x h1
  have vi : vp_in (nI x) 4 := vp_in_nI hx (by decide)
  have ic : (nI x).toNatClampNeg = x := i_cl (show x < 2 ^ 31 by omega)
  rw [ic, h.1 168 (by decide)]
  refine ⟨vi, fun c2 => ?_, fun c => QN.find h (by rw [U_read, if_pos h1, ic, if_pos c]) (by rw [A_read, if_pos h1, ic, if_pos c]; rfl)⟩
  have w1 := hw.2.2.2.2.2 x hx
  obtain ⟨-, z, hz, ez⟩ := w1.2 (w1.1.resolve_left c2)
  have eU : U_read τ (nI x) = (rdL x (z / 4) 0 τ).2 := by rw [U_read, if_pos h1, ic, if_neg c2, ez, i_cl (show z < 2 ^ 31 by omega)]
  have eA : A_read τ (nI x) = nI (rdL x (z / 4) 0 τ).1 := by rw [A_read, if_pos h1, ic, if_neg c2, ez, i_cl (show z < 2 ^ 31 by omega)]
  rw [eU, eA]
  have key : ∀ m n (τ1 r : gw_S), n + m = z / 4 → WF τ1 → τ1 170 x = nI z → TM τ1 r → FMo σ r → gG (d + 2 + 1) mX9_read 27 [some (.ref 1), some (.int (nI x)), some (.int (nI n))] [] r (QN (rdL x m n τ1).2 σ (nI (rdL x m n τ1).1)) := by
    intro m
    induction m with
    | zero =>
      intro n τ1 r hn k1 k0 k2 k4
      have : n = z / 4 := by omega
      subst this
      refine bX9_read_27 ?_
      rw [ic, k2.1 170 (by decide), k0, e4, show nI (4 * (z / 4)) + 3 = nI (4 * (z / 4) + 3) from nI_add _ 3]
      exact ⟨vi, fun _ => ⟨rfl, k2, k4⟩, fun q => absurd (nI_le (by omega) (by omega)) q⟩
    | succ m ih =>
      intro n τ1 r hn k1 k0 k2 k4
      refine bX9_read_27 ?_
      rw [ic, k2.1 170 (by decide), k0, e4, show nI (4 * n) + 3 = nI (4 * n + 3) from nI_add _ 3, e60, show nI (60 * x + 4 * n) + 1 = nI (60 * x + 4 * n + 1) from nI_add _ 1, show nI (60 * x + 4 * n) + 2 = nI (60 * x + 4 * n + 2) from nI_add _ 2, show nI (60 * x + 4 * n) + 3 = nI (60 * x + 4 * n + 3) from nI_add _ 3, i_cl (show 60 * x + 4 * n < 2 ^ 31 by omega), i_cl (show 60 * x + 4 * n + 1 < 2 ^ 31 by omega), i_cl (show 60 * x + 4 * n + 2 < 2 ^ 31 by omega), i_cl (show 60 * x + 4 * n + 3 < 2 ^ 31 by omega), k2.1 171 (by decide), nI_1]
      refine ⟨vi, fun q => absurd q (nI_ge (by omega) (by omega)), fun _ => ⟨vp_in_nI (by omega) (by decide), vp_in_nI (by omega) (by decide), vp_in_nI (by omega) (by decide), vp_in_nI (by omega) (by decide), (m_act k1 k2).mono ?_⟩⟩
      rintro _ σ7 ⟨rfl, g1, g3⟩
      obtain ⟨-, b2, b3⟩ := act_pos (τ := τ1) (D := τ1 171 (60 * x + 4 * n)) (k := τ1 171 (60 * x + 4 * n + 1)) (b := τ1 171 (60 * x + 4 * n + 2)) (t := τ1 171 (60 * x + 4 * n + 3)) k1
      refine ⟨_, rfl, fun c5 => ?_, fun c5 => ?_⟩
      · have c6 : ¬ 0 < A_act τ1 (τ1 171 (60 * x + 4 * n)) (τ1 171 (60 * x + 4 * n + 1)) (τ1 171 (60 * x + 4 * n + 2)) (τ1 171 (60 * x + 4 * n + 3)) := fun q => by rw [i_lt] at q; rw [i_le] at c5; omega
        rw [b3 c6] at g1
        unfold rdL
        rw [if_neg c6]
        exact ⟨rfl, g1, k4.tr g3⟩
      · have c6 : 0 < A_act τ1 (τ1 171 (60 * x + 4 * n)) (τ1 171 (60 * x + 4 * n + 1)) (τ1 171 (60 * x + 4 * n + 2)) (τ1 171 (60 * x + 4 * n + 3)) := by rw [i_lt]; rw [i_le] at c5; omega
        have := ih (n + 1) _ σ7 (by omega) (w_act k1) (by rw [U_act_ne (by decide) (by decide)]; exact k0) g1 (k4.tr g3)
        unfold rdL
        rw [if_pos c6]
        exact this
  exact key (z / 4) 0 τ σ (by omega) hw ez h FMo.rf
