/-! sheets -/
abbrev ok3 (x : Int32) : Prop := 0 ≤ x ∧ x < 3
theorem ok4_x {x : Int32} (h : ok4 x) : ∃ s, s < 4 ∧ x = nI s := i_in (by decide) h.1 (i_lt.mp h.2)
theorem sh_q {s : Nat} (h : s < 4) : ([28, 29, 30, 31] : List Nat)[s]? = some (28 + s) ∧ gw_k (28 + s) = some (.inl (.int, 60)) := by
  have : s = 0 ∨ s = 1 ∨ s = 2 ∨ s = 3 := by omega
  rcases this with rfl | rfl | rfl | rfl
  · exact ⟨rfl, gk_28⟩
  · exact ⟨rfl, gk_29⟩
  · exact ⟨rfl, gk_30⟩
  · exact ⟨rfl, gk_31⟩
theorem s_isSheet2 {d : Nat} {x : Int32} {σ : gw_S} : gB (d + 1) mX9_isSheet [.int x] σ (fun v σ' => v = some (.int (bi (ok4 x))) ∧ σ' = σ) := gB_det s_isSheet ⟨bi_sm (by rw [lt_k (c := 3) (c' := 4) (by decide)]), rfl⟩
theorem s_in2 {d : Nat} {x : Int32} {σ : gw_S} : gB d mX9_in [.int x, .int 0, .int 2] σ (fun v σ' => v = some (.int (bi (ok3 x))) ∧ σ' = σ) := gB_det s_in ⟨bi_sm (by rw [lt_k (c := 2) (c' := 3) (by decide)]), rfl⟩
/-- only sheets change: the class -/
theorem TC.she {τ τ' σ σ' : gw_S} (h : TC τ σ) (e : ∀ k, k < 168 → k ≠ 1 → τ' k = τ k) (e1 : ∀ j, j ≠ 46 → τ' 1 j = τ 1 j) (hf : ∀ k, k ≠ 0 → k < 28 → σ' k = σ k) (ha : TCs τ' σ') : TC τ' σ' := by
  refine ⟨(h.1.fr (fun k hk => hf k ?_ ?_)).ct (fun k hk => e k ?_ ?_), (h.2.1.fr (fun k hk => hf k ?_ ?_)).ct (fun k hk => e k ?_ ?_) (fun k hk => e1 k ?_), (h.2.2.1.fr (fun k hk => hf k ?_ ?_)).ct (fun k hk => e k ?_ ?_) (e1 36 (by decide)), ha⟩
  all_goals (revert hk; simp only [List.mem_cons, List.not_mem_nil, or_false]; omega)
theorem WF.she {τ τ' : gw_S} (hw : WF τ) (e : ∀ k, k < 168 → k ≠ 1 → τ' k = τ k) (e1 : ∀ j, j ≠ 46 → τ' 1 j = τ 1 j) (hs : ∀ s, s < 4 → (τ' 168 s = 0 ∨ τ' 168 s = 1) ∧ (τ' 168 s = 1 → (∃ f, f < 3 ∧ τ' 169 s = nI f) ∧ ∃ z, z ≤ 60 ∧ τ' 170 s = nI z)) : WF τ' := by
  obtain ⟨w1, w2, w3, w4, w5, w6⟩ := hw
  unfold WF n0 n1 nH nA nW okAct at *
  rw [e 140 (by decide) (by decide), e 147 (by decide) (by decide), e 148 (by decide) (by decide), e 149 (by decide) (by decide), e 150 (by decide) (by decide), e 151 (by decide) (by decide), e 164 (by decide) (by decide), e 165 (by decide) (by decide), e 166 (by decide) (by decide), e1 9 (by decide), e1 10 (by decide), e1 12 (by decide), e1 36 (by decide)]
  exact ⟨w1, w2, w3, w4, w5, hs⟩
theorem SD.she {τ τ' : gw_S} (e : ∀ k, k < 168 → k ≠ 1 → τ' k = τ k) (e1 : ∀ j, j ≠ 46 → τ' 1 j = τ 1 j) : SD τ τ' := by
  refine ⟨fun k hk => e k ?_ ?_, fun k hk => e1 k ?_⟩
  all_goals (revert hk; simp only [List.mem_cons, List.not_mem_nil, or_false]; omega)
/-- a finding -/
def U_find (τ : gw_S) (x : Int32) : gw_S := gw_u τ 1 46 x
theorem w_find {τ : gw_S} {x : Int32} (hw : WF τ) : WF (U_find τ x) := hw.she (fun k h1 h2 => gw_ne h2) (fun j hj => gw_nj hj) (fun s hs => by unfold U_find; rw [gw_ne (by decide), gw_ne (by decide), gw_ne (by decide)]; exact hw.2.2.2.2.2 s hs)
theorem TC.find {τ σ : gw_S} {x : Int32} (h : TC τ σ) : TC (U_find τ x) (gw_u σ 0 13 x) := by
  refine h.she (fun k h1 h2 => gw_ne h2) (fun j hj => gw_nj hj) (fun k h1 h2 => gw_ne h1) ?_
  have w := h.2.2.2
  unfold TCs U_find at *
  rw [gw_self, gw_self, gw_ne (show (32 : Nat) ≠ 0 by decide), gw_ne (show (33 : Nat) ≠ 0 by decide), gw_ne (show (168 : Nat) ≠ 1 by decide), gw_ne (show (169 : Nat) ≠ 1 by decide), gw_ne (show (170 : Nat) ≠ 1 by decide), gw_ne (show (171 : Nat) ≠ 1 by decide)]
  refine ⟨fun s hs => ?_, rfl⟩
  rw [gw_ne (by omega)]
  exact w.1 s hs
theorem QU.find {d : Nat} {τ τ' σ : gw_S} {A x : Int32} (h : TC τ σ) (et : τ' = U_find τ x) (e : A = -10 - x) : gB d mX8_find [.ref 0, .int x] σ (fun v σ' => ∃ r : Int32, v = some (.int r) ∧ QU τ τ' σ A (some (.int r)) σ') := by
  subst et
  exact gB_det s_find ⟨_, rfl, by rw [e], h.find, Or.inl ⟨SD.u (by decide), KP.u (by decide)⟩, FCl.u (by decide)⟩
theorem QN.find {d : Nat} {τ τ' σ : gw_S} {A x : Int32} (h : TM τ σ) (et : τ' = U_find τ x) (e : A = -10 - x) : gB d mX9_meets [.ref 1, .int x] σ (fun v σ' => ∃ r : Int32, v = some (.int r) ∧ QN τ' σ A (some (.int r)) σ') := by
  subst et
  exact gB_det s_meets ⟨_, rfl, by rw [e], h.u, FMo.u (by decide)⟩
/-- a sheet laid anew -/
def zf (τ : gw_S) (s i : Nat) : gw_S := fun k j => if k = 171 ∧ 60 * s ≤ j ∧ j < 60 * s + i then 0 else τ k j
theorem zf_ne {τ : gw_S} {s i k : Nat} (h : k ≠ 171) : zf τ s i k = τ k := by
  funext j
  unfold zf
  rw [if_neg (fun q => h q.1)]
theorem zf_0 {τ : gw_S} {s : Nat} : zf τ s 0 = τ := by
  funext k j
  unfold zf
  rw [if_neg (by omega)]
theorem zf_s {τ : gw_S} {s i : Nat} : gw_u (zf τ s i) 171 (60 * s + i) 0 = zf τ s (i + 1) := by
  funext k j
  rw [gw_at]
  unfold zf
  by_cases h : k = 171
  · subst h
    by_cases e : j = 60 * s + i
    · rw [if_pos ⟨rfl, e⟩, if_pos ⟨rfl, by omega, by omega⟩]
    · rw [if_neg (fun q => e q.2)]
      by_cases c : 60 * s ≤ j ∧ j < 60 * s + i
      · rw [if_pos ⟨rfl, c⟩, if_pos ⟨rfl, c.1, by omega⟩]
      · rw [if_neg (fun q => c q.2), if_neg (fun q => c ⟨q.2.1, by omega⟩)]
  · rw [if_neg (fun q => h q.1), if_neg (fun q => h q.1), if_neg (fun q => h q.1)]
abbrev okSh (s f n : Int32) : Prop := ok4 s ∧ ok3 f ∧ n ≤ 60
def A_sheet (s f n : Int32) : Int32 := if okSh s f n then (if 0 ≤ n then n else -15) else -2
def V_sheet (τ : gw_S) (s : Nat) (f n : Int32) : gw_S := zf (gw_u (gw_u (gw_u τ 168 s 1) 169 s f) 170 s n) s 60
def U_sheet (τ : gw_S) (s f n : Int32) : gw_S := if okSh s f n then (if 0 ≤ n then V_sheet τ s.toNatClampNeg f n else U_find τ 5) else τ
theorem VS_ne {τ : gw_S} {s : Nat} {f n : Int32} : ∀ k, k < 168 → V_sheet τ s f n k = τ k := fun k h => by
  unfold V_sheet
  rw [zf_ne (by omega), gw_ne (by omega), gw_ne (by omega), gw_ne (by omega)]
theorem VS_at {τ : gw_S} {s x : Nat} {f n : Int32} : V_sheet τ s f n 168 x = (if x = s then 1 else τ 168 x) ∧ V_sheet τ s f n 169 x = (if x = s then f else τ 169 x) ∧ V_sheet τ s f n 170 x = (if x = s then n else τ 170 x) := by
  unfold V_sheet
  rw [zf_ne (by decide), zf_ne (by decide), zf_ne (by decide)]
  simp [gw_at]
theorem w_sheet {τ : gw_S} {s f n : Int32} (hw : WF τ) : WF (U_sheet τ s f n) := by
  by_cases c : okSh s f n
  · by_cases c2 : 0 ≤ n
    · rw [U_sheet, if_pos c, if_pos c2]
      refine hw.she (fun k h1 _ => VS_ne k h1) (fun j _ => by rw [VS_ne 1 (by decide)]) (fun x hx => ?_)
      rw [VS_at.1, VS_at.2.1, VS_at.2.2]
      by_cases e : x = s.toNatClampNeg
      · rw [if_pos e, if_pos e, if_pos e]
        refine ⟨Or.inr rfl, fun _ => ⟨i_in (by decide) c.2.1.1 (i_lt.mp c.2.1.2), ?_⟩⟩
        obtain ⟨z, hz, ez⟩ := i_in (n := 61) (by decide) c2 (by have := i_le.mp c.2.2; rw [show (60 : Int32).toInt = 60 from by decide] at this; omega)
        exact ⟨z, by omega, ez⟩
      · rw [if_neg e, if_neg e, if_neg e]
        exact hw.2.2.2.2.2 x hx
    · rw [U_sheet, if_pos c, if_neg c2]; exact w_find hw
  · rw [U_sheet, if_neg c]; exact hw
theorem c_sheet {d : Nat} {s f n : Int32} {τ σ : gw_S} (h : TC τ σ) : gB (d + 1) mX8_sheet [.ref 0, .int s, .int f, .int n] σ (QU τ (U_sheet τ s f n) σ (A_sheet s f n)) := by
  have bad : ¬ okSh s f n → QU τ (U_sheet τ s f n) σ (A_sheet s f n) (some (.int (-2))) σ := fun c => QU.no h (by rw [U_sheet, if_neg c]) (by rw [A_sheet, if_neg c])
  refine eX8_sheet (gB_det s_isWithin ⟨_, rfl, br_bj (fun h1 => ?_) (fun h1 => bad (fun q => h1 q.1))⟩)
  refine gB_det s_isWithin ⟨_, rfl, br_bj (fun h2 => ⟨fun h3 => ⟨fun h4 => ?_, fun h4 => ?_⟩, fun h3 => bad (fun q => h3 q.2.2)⟩) (fun h2 => bad (fun q => h2 q.2.1))⟩
  · obtain ⟨x, hx, rfl⟩ := ok4_x h1
    have vi : vp_in (nI x) 4 := vp_in_nI hx (by decide)
    have ic : (nI x).toNatClampNeg = x := i_cl (show x < 2 ^ 31 by omega)
    have eU : U_sheet τ (nI x) f n = V_sheet τ x f n := by rw [U_sheet, if_pos ⟨h1, h2, h3⟩, if_pos h4, ic]
    rw [ic]
    refine ⟨vi, fun s5 q5 => ⟨vi, fun s6 q6 => ⟨vi, 28 + x, (sh_q hx).1, (sh_q hx).2, (s_fill (sh_q hx).2 (by decide)).mono ?_⟩⟩⟩
    rintro _ σ9 ⟨rfl, g1, g2⟩
    have kk : ∀ k, k ≠ 28 + x → k ≠ 32 → k ≠ 33 → σ9 k = σ k := fun k a b c => by rw [g2 k a, q6, gw_ne c, q5, gw_ne b]
    refine ⟨rfl, by rw [A_sheet, if_pos ⟨h1, h2, h3⟩, if_pos h4], ?_, Or.inl ⟨?_, ?_⟩, fun k hk => kk k (by omega) (by omega) (by omega)⟩
    · rw [eU]
      refine h.she (fun k h1 _ => VS_ne k h1) (fun j _ => by rw [VS_ne 1 (by decide)]) (fun k h1 h2 => kk k (by omega) (by omega) (by omega)) ⟨fun y hy => ?_, ?_⟩
      · have w := h.2.2.2.1 y hy
        have e32 : σ9 32 y = if y = x then f else σ 32 y := by
          rw [g2 32 (by omega), q6, gw_ne (by decide), q5, gw_at]
          simp
        have e33 : σ9 33 y = if y = x then n else σ 33 y := by
          rw [g2 33 (by omega), q6, gw_at, q5, gw_ne (by decide)]
          simp
        rw [VS_at.1, VS_at.2.1, VS_at.2.2, e32, e33]
        by_cases e : y = x
        · subst e
          simp only [if_true]
          refine ⟨fun q => absurd q (by decide), fun _ => ⟨trivial, trivial⟩, fun j hj => ?_⟩
          rw [g1 j hj]
          unfold V_sheet zf
          rw [if_pos ⟨rfl, by omega, by omega⟩]
        · simp only [e, if_false]
          refine ⟨w.1, w.2.1, fun j hj => ?_⟩
          rw [kk (28 + y) (by omega) (by omega) (by omega), w.2.2 j hj]
          unfold V_sheet zf
          rw [if_neg (by omega), gw_ne (by decide), gw_ne (by decide), gw_ne (by decide)]
      · rw [kk 0 (by omega) (by decide) (by decide), VS_ne 1 (by decide)]
        exact h.2.2.2.2
    · rw [eU]
      exact SD.she (fun k h1 _ => VS_ne k h1) (fun j _ => by rw [VS_ne 1 (by decide)])
    · exact ⟨by rw [kk 0 (by omega) (by decide) (by decide)], by rw [kk 0 (by omega) (by decide) (by decide)], by rw [kk 0 (by omega) (by decide) (by decide)], fun m a b => kk m (by omega) (by omega) (by omega)⟩
  · exact QU.find h (by rw [U_sheet, if_pos ⟨h1, h2, h3⟩, if_neg h4]) (by rw [A_sheet, if_pos ⟨h1, h2, h3⟩, if_neg h4]; rfl)
theorem m_sheet {d : Nat} {s f n : Int32} {τ σ : gw_S} (h : TM τ σ) : gB (d + 2) mX9_sheet [.ref 1, .int s, .int f, .int n] σ (QN (U_sheet τ s f n) σ (A_sheet s f n)) := by
  have bad : ¬ okSh s f n → QN (U_sheet τ s f n) σ (A_sheet s f n) (some (.int (-2))) σ := fun c => QN.no h (by rw [U_sheet, if_neg c]) (by rw [A_sheet, if_neg c])
  refine eX9_sheet (gB_det s_isSheet2 ⟨_, rfl, br_bj (fun h1 => ?_) (fun h1 => bad (fun q => h1 q.1))⟩)
  refine gB_det s_in2 ⟨_, rfl, br_bj (fun h2 => ⟨fun h3 => ⟨fun h4 => ?_, fun h4 => ?_⟩, fun h3 => bad (fun q => h3 q.2.2)⟩) (fun h2 => bad (fun q => h2 q.2.1))⟩
  · obtain ⟨x, hx, rfl⟩ := ok4_x h1
    have vi : vp_in (nI x) 4 := vp_in_nI hx (by decide)
    have ic : (nI x).toNatClampNeg = x := i_cl (show x < 2 ^ 31 by omega)
    have eU : U_sheet τ (nI x) f n = V_sheet τ x f n := by rw [U_sheet, if_pos ⟨h1, h2, h3⟩, if_pos h4, ic]
    have eA : A_sheet (nI x) f n = n := by rw [A_sheet, if_pos ⟨h1, h2, h3⟩, if_pos h4]
    rw [ic, eU, eA]
    refine ⟨vi, fun s5 q5 => ⟨vi, fun s6 q6 => ⟨vi, fun s7 q7 => ?_⟩⟩⟩
    rw [show vp_nar .boolean 1 = 1 from rfl] at q5
    have t7 : TM (gw_u (gw_u (gw_u τ 168 x 1) 169 x f) 170 x n) s7 := by rw [q7, q6, q5]; exact h.u.u.u
    have f7 : FMo σ s7 := by
      rw [q7, q6, q5]
      exact ((FMo.u (by decide)).tr (FMo.u (by decide))).tr (FMo.u (by decide))
    have key : ∀ m i (r : gw_S), i + m = 60 → TM (zf (gw_u (gw_u (gw_u τ 168 x 1) 169 x f) 170 x n) x i) r → FMo σ r → gG (d + 2) mX9_sheet 59 [some (.ref 1), some (.int (nI x)), none, some (.int n), some (.int (nI i))] [] r (QN (V_sheet τ x f n) σ n) := by
      intro m
      induction m with
      | zero =>
        intro i r hi ht hf
        have : i = 60 := by omega
        subst this
        exact bX9_sheet_59 ⟨fun _ => ⟨rfl, ht, hf⟩, fun c => absurd (by decide) c⟩
      | succ m ih =>
        intro i r hi ht hf
        refine bX9_sheet_59 ⟨fun c => absurd c (nI_ge (b := 60) (by omega) (by decide)), fun _ => ?_⟩
        rw [show (60 : Int32) * nI x + nI i = nI (60 * x + i) by rw [show (60 : Int32) = nI 60 from rfl, nI_mul, nI_add], i_cl (show 60 * x + i < 2 ^ 31 by omega), nI_1]
        refine ⟨vp_in_nI (by omega) (by decide), fun s10 q10 => ih (i + 1) s10 (by omega) ?_ ?_⟩
        · rw [q10, ← zf_s]; exact ht.u
        · rw [q10]; exact hf.tr (FMo.u (by decide))
    exact key 60 0 s7 (by omega) (by rw [zf_0]; exact t7) f7
  · exact QN.find h (by rw [U_sheet, if_pos ⟨h1, h2, h3⟩, if_neg h4]) (by rw [A_sheet, if_pos ⟨h1, h2, h3⟩, if_neg h4]; rfl)
/-! lose -/
def A_lose (τ : gw_S) (s : Int32) : Int32 := if ok4 s then (if τ 168 s.toNatClampNeg = 0 then -11 else τ 170 s.toNatClampNeg) else -2
def U_lose (τ : gw_S) (s : Int32) : gw_S := if ok4 s then (if τ 168 s.toNatClampNeg = 0 then U_find τ 1 else gw_u τ 168 s.toNatClampNeg 0) else τ
theorem w_lose {τ : gw_S} {s : Int32} (hw : WF τ) : WF (U_lose τ s) := by
  by_cases c : ok4 s
  · by_cases c2 : τ 168 s.toNatClampNeg = 0
    · rw [U_lose, if_pos c, if_pos c2]; exact w_find hw
    · rw [U_lose, if_pos c, if_neg c2]
      refine hw.she (fun k h1 _ => gw_ne (by omega)) (fun j _ => by rw [gw_ne (by decide)]) (fun x hx => ?_)
      rw [gw_at, gw_ne (by decide), gw_ne (by decide)]
      split
      · exact ⟨Or.inl rfl, fun q => absurd q (by decide)⟩
      · exact hw.2.2.2.2.2 x hx
  · rw [U_lose, if_neg c]; exact hw
/-- whether a sheet is there -/
theorem sh_there {τ σ : gw_S} {x : Nat} (hw : WF τ) (h : TC τ σ) (hx : x < 4) : (σ 32 x = -1 ↔ τ 168 x = 0) ∧ (¬ τ 168 x = 0 → (∃ f, f < 3 ∧ τ 169 x = nI f ∧ σ 32 x = nI f) ∧ ∃ z, z ≤ 60 ∧ τ 170 x = nI z ∧ σ 33 x = nI z) := by
  have w := hw.2.2.2.2.2 x hx
  have t := h.2.2.2.1 x hx
  rcases w.1 with e | e
  · exact ⟨⟨fun _ => e, fun _ => t.1 e⟩, fun q => absurd e q⟩
  · obtain ⟨⟨f, hf, ef⟩, z, hz, ez⟩ := w.2 e
    obtain ⟨e1, e2⟩ := t.2.1 e
    have ne : ¬ σ 32 x = -1 := by rw [e1, ef]; exact nI_ne_m1 (by omega)
    have ne2 : ¬ τ 168 x = 0 := by rw [e]; decide
    exact ⟨⟨fun q => absurd q ne, fun q => absurd q ne2⟩, fun _ => ⟨⟨f, hf, ef, by rw [e1, ef]⟩, z, hz, ez, by rw [e2, ez]⟩⟩
theorem c_lose {d : Nat} {s : Int32} {τ σ : gw_S} (hw : WF τ) (h : TC τ σ) : gB (d + 1) mX8_lose [.ref 0, .int s] σ (QU τ (U_lose τ s) σ (A_lose τ s)) := by
  refine eX8_lose (gB_det s_isWithin ⟨_, rfl, br_bi (fun h1 => ?_) (fun h1 => QU.no h (by rw [U_lose, if_neg h1]) (by rw [A_lose, if_neg h1]))⟩)
  obtain ⟨x, hx, rfl⟩ := ok4_x h1
  have vi : vp_in (nI x) 4 := vp_in_nI hx (by decide)
  have ic : (nI x).toNatClampNeg = x := i_cl (show x < 2 ^ 31 by omega)
  obtain ⟨t1, t2⟩ := sh_there hw h hx
  rw [ic]
  refine ⟨vi, fun c => ⟨vi, vi, fun s3 q3 => ⟨vi, fun s4 q4 => ?_⟩⟩, fun c => QU.find h (by rw [U_lose, if_pos h1, ic, if_pos (t1.mp c)]) (by rw [A_lose, if_pos h1, ic, if_pos (t1.mp c)]; rfl)⟩
  have c2 : ¬ τ 168 x = 0 := fun q => c (t1.mpr q)
  obtain ⟨-, z, hz, ez, ez2⟩ := t2 c2
  have kk : ∀ k, k ≠ 32 → k ≠ 33 → s4 k = σ k := fun k a b => by rw [q4, gw_ne b, q3, gw_ne a]
  have eU : U_lose τ (nI x) = gw_u τ 168 x 0 := by rw [U_lose, if_pos h1, ic, if_neg c2]
  refine ⟨by rw [A_lose, if_pos h1, ic, if_neg c2, ez2, ez], ?_, Or.inl ⟨by rw [eU]; exact SD.u (by omega), ?_⟩, fun k hk => kk k (by omega) (by omega)⟩
  · rw [eU]
    refine h.she (fun k h1 _ => gw_ne (by omega)) (fun j _ => by rw [gw_ne (by decide)]) (fun k h1 h2 => kk k (by omega) (by omega)) ⟨fun y hy => ?_, ?_⟩
    · have w := h.2.2.2.1 y hy
      rw [kk (28 + y) (by omega) (by omega), gw_ne (show (169 : Nat) ≠ 168 by decide), gw_ne (show (170 : Nat) ≠ 168 by decide), gw_ne (show (171 : Nat) ≠ 168 by decide), q4, q3, gw_ne (show (32 : Nat) ≠ 33 by decide), gw_at, gw_at, gw_at, gw_ne (show (33 : Nat) ≠ 32 by decide)]
      by_cases e : y = x
      · simp only [e, true_and, and_self, if_true]
        rw [e] at w
        exact ⟨fun _ => trivial, fun q => absurd q (by decide), w.2.2⟩
      · simp only [e, and_false, if_false]
        exact w
    · rw [kk 0 (by decide) (by decide), gw_ne (by decide)]
      exact h.2.2.2.2
  · exact ⟨by rw [kk 0 (by decide) (by decide)], by rw [kk 0 (by decide) (by decide)], by rw [kk 0 (by decide) (by decide)], fun m a b => kk m (by omega) (by omega)⟩
theorem m_lose {d : Nat} {s : Int32} {τ σ : gw_S} (h : TM τ σ) : gB (d + 2) mX9_lose [.ref 1, .int s] σ (QN (U_lose τ s) σ (A_lose τ s)) := by
  refine eX9_lose (gB_det s_isSheet2 ⟨_, rfl, br_bi (fun h1 => ?_) (fun h1 => QN.no h (by rw [U_lose, if_neg h1]) (by rw [A_lose, if_neg h1]))⟩)
  obtain ⟨x, hx, rfl⟩ := ok4_x h1
  have vi : vp_in (nI x) 4 := vp_in_nI hx (by decide)
  have ic : (nI x).toNatClampNeg = x := i_cl (show x < 2 ^ 31 by omega)
  rw [ic, h.1 168 (by decide)]
  refine ⟨vi, fun c => ⟨vi, fun s3 q3 => ⟨vi, ?_⟩⟩, fun c => QN.find h (by rw [U_lose, if_pos h1, ic, if_pos c]) (by rw [A_lose, if_pos h1, ic, if_pos c]; rfl)⟩
  rw [show vp_nar .boolean 0 = 0 from rfl] at q3
  refine ⟨by rw [A_lose, if_pos h1, ic, if_neg c, q3, gw_ne (by decide), h.1 170 (by decide)], ?_, by rw [q3]; exact FMo.u (by decide)⟩
  rw [U_lose, if_pos h1, ic, if_neg c, q3]
  exact h.u
