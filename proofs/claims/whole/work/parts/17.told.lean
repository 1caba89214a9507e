/-! what was told, in the model's numbering -/
def n0 (τ : gw_S) : Nat := (τ 140 0).toNatClampNeg
def n1 (τ : gw_S) : Nat := (τ 140 1).toNatClampNeg
def f0 (τ : gw_S) : Nat → Int32 := τ 141
def g0 (τ : gw_S) : Nat → Int32 := fun j => τ 141 (47 + j)
def NB (τ : gw_S) : Nat := nBo (f0 τ) (n0 τ)
def NL (τ : gw_S) : Nat := nLe (g0 τ) (n1 τ)
def nH (τ : gw_S) : Nat := (τ 1 10).toNatClampNeg
def nA (τ : gw_S) : Nat := (τ 1 12).toNatClampNeg
def nW (τ : gw_S) : Nat := (τ 1 36).toNatClampNeg
def anyN (p : Nat → Bool) : Nat → Bool
  | 0 => false
  | n + 1 => anyN p n || p n
theorem anyN_iff {p : Nat → Bool} : ∀ {n : Nat}, anyN p n = true ↔ ∃ j, j < n ∧ p j = true
  | 0 => by simp [anyN]
  | n + 1 => by
    unfold anyN
    rw [Bool.or_eq_true, anyN_iff]
    constructor
    · rintro (⟨j, h1, h2⟩ | h)
      · exact ⟨j, by omega, h2⟩
      · exact ⟨n, by omega, h⟩
    · rintro ⟨j, h1, h2⟩
      by_cases e : j = n
      · subst e; exact Or.inr h2
      · exact Or.inl ⟨j, by omega, h2⟩
def hotF (τ : gw_S) (d : Nat) : Bool := anyN (fun j => decide (τ 147 j = nI d)) (nH τ)
def WF (τ : gw_S) : Prop :=
  (τ 140 0 = nI (n0 τ) ∧ n0 τ ≤ 47 ∧ τ 140 1 = nI (n1 τ) ∧ n1 τ ≤ 8) ∧ (τ 1 10 = nI (nH τ) ∧ nH τ ≤ 8 ∧ ∀ j, j < nH τ → ∃ d, d < 40 ∧ τ 147 j = nI d) ∧ (1 ≤ τ 1 9 ∧ τ 1 9 ≤ 200) ∧ (τ 1 12 = nI (nA τ) ∧ nA τ ≤ 16 ∧ ∀ a, a < nA τ → okAct τ a) ∧
  (τ 1 36 = nI (nW τ) ∧ nW τ ≤ 8 ∧ ∀ w, w < nW τ → (∃ d, d < 40 ∧ τ 164 w = nI d) ∧ (∃ b, b < 8 ∧ τ 165 w = nI b) ∧ ∃ m, m < 1000 ∧ τ 166 w = nI m) ∧ ∀ s, s < 4 → (τ 168 s = 0 ∨ τ 168 s = 1) ∧ (τ 168 s = 1 → (∃ f, f < 3 ∧ τ 169 s = nI f) ∧ ∃ z, z ≤ 60 ∧ τ 170 s = nI z)
/-- the model holds what was told -/
def TM (τ σ : gw_S) : Prop := (∀ k ∈ [140, 141, 147, 148, 149, 150, 151, 164, 165, 166, 168, 169, 170, 171], σ k = τ k) ∧ ∀ j ∈ [9, 10, 12, 36, 46], σ 1 j = τ 1 j
/-- the model's rows but those of L, its numbers but those of J are as they were, and so is the class -/
def FM (L J : List Nat) (σ σ' : gw_S) : Prop := (∀ k, k ≠ 1 → k ∉ L → σ' k = σ k) ∧ ∀ j, j ∉ J → σ' 1 j = σ 1 j
theorem FM.rf {L J : List Nat} {σ : gw_S} : FM L J σ σ := ⟨fun _ _ _ => rfl, fun _ _ => rfl⟩
theorem FM.tr {L J : List Nat} {σ σ1 σ2 : gw_S} (h : FM L J σ σ1) (h2 : FM L J σ1 σ2) : FM L J σ σ2 := ⟨fun k a b => (h2.1 k a b).trans (h.1 k a b), fun j b => (h2.2 j b).trans (h.2 j b)⟩
theorem FM.wk {L J L2 J2 : List Nat} {σ σ' : gw_S} (h : FM L J σ σ') (hL : ∀ x ∈ L, x ∈ L2) (hJ : ∀ x ∈ J, x ∈ J2) : FM L2 J2 σ σ' := ⟨fun k a b => h.1 k a (fun q => b (hL k q)), fun j b => h.2 j (fun q => b (hJ j q))⟩
theorem FM.u {L J : List Nat} {σ : gw_S} {k j : Nat} {v : Int32} (h : (k ∈ L ∧ k ≠ 1) ∨ k = 1 ∧ j ∈ J) : FM L J σ (gw_u σ k j v) := by
  constructor
  · intro k2 a b
    rw [gw_ne]
    intro e
    subst e
    rcases h with h | h
    · exact b h.1
    · exact a h.1
  · intro j2 b
    rw [gw_at, if_neg]
    rintro ⟨e1, e2⟩
    subst e2
    rcases h with h | h
    · exact h.2 e1.symm
    · exact b h.2
theorem FRd.fm {σ σ' : gw_S} (h : FRd σ σ') : FM [142, 143, 144, 145, 146] [2, 7] σ σ' := by
  refine ⟨fun k a b => ?_, fun j b => ?_⟩
  · simp only [List.mem_cons, List.not_mem_nil, or_false, not_or] at b
    exact h.1 k a b.1 b.2.1 b.2.2.1 b.2.2.2.1 b.2.2.2.2
  · simp only [List.mem_cons, List.not_mem_nil, or_false, not_or] at b
    exact h.2 j b.1 b.2
theorem FRs.fm {σ σ' : gw_S} (h : FRs σ σ') : FM [155, 156, 157, 158, 160, 161, 162] [30, 31] σ σ' := by
  refine ⟨fun k a b => ?_, fun j b => ?_⟩
  · simp only [List.mem_cons, List.not_mem_nil, or_false, not_or] at b
    exact h.1 k a b.1 b.2.1 b.2.2.1 b.2.2.2.1 b.2.2.2.2.1 b.2.2.2.2.2.1 b.2.2.2.2.2.2
  · simp only [List.mem_cons, List.not_mem_nil, or_false, not_or] at b
    exact h.2 j b.1 b.2
/-- the rows that hold nothing told -/
abbrev scL : List Nat := [142, 143, 144, 145, 146, 152, 153, 154, 155, 156, 157, 158, 159, 160, 161, 162, 163, 167, 172]
abbrev scJ : List Nat := [2, 7, 17, 19, 30, 31, 32, 33, 34]
abbrev FSc (σ σ' : gw_S) : Prop := FM scL scJ σ σ'
theorem TM.fr {τ σ σ' : gw_S} (h : TM τ σ) (hf : FSc σ σ') : TM τ σ' := by
  refine ⟨fun k hk => ?_, fun j hj => ?_⟩
  · rw [← h.1 k hk]
    refine hf.1 k ?_ ?_
    · intro e; subst e; revert hk; decide
    · intro q
      revert hk q
      simp only [scL, List.mem_cons, List.not_mem_nil, or_false]
      omega
  · rw [← h.2 j hj]
    refine hf.2 j ?_
    intro q
    revert hj q
    simp only [scJ, List.mem_cons, List.not_mem_nil, or_false]
    omega
theorem TM.frL {τ σ σ' : gw_S} {L J : List Nat} (h : TM τ σ) (hf : FM L J σ σ') (hL : ∀ x ∈ L, x ∈ scL) (hJ : ∀ x ∈ J, x ∈ scJ) : TM τ σ' := h.fr (hf.wk hL hJ)
abbrev PMt (τ σ : gw_S) : Prop := PM (f0 τ) (g0 τ) (n0 τ) (n1 τ) σ
theorem PM.fr {f g : Nat → Int32} {n m : Nat} {σ σ' : gw_S} {L J : List Nat} (h : PM f g n m σ) (hf : FM L J σ σ') (hL : 142 ∉ L ∧ 143 ∉ L ∧ 144 ∉ L ∧ 145 ∉ L ∧ 146 ∉ L) (hJ : 2 ∉ J ∧ 7 ∉ J) : PM f g n m σ' := by
  obtain ⟨h1, h2, h3, h4⟩ := h
  refine ⟨by rw [hf.2 2 hJ.1]; exact h1, fun b hb => ?_, by rw [hf.2 7 hJ.2]; exact h3, ?_⟩
  · rw [hf.1 142 (by decide) hL.1, hf.1 143 (by decide) hL.2.1, hf.1 144 (by decide) hL.2.2.1, hf.1 145 (by decide) hL.2.2.2.1]
    exact h2 b hb
  · rw [hf.1 146 (by decide) hL.2.2.2.2]
    exact h4
theorem s_readsT {d : Nat} {τ σ : gw_S} (hw : WF τ) (h : TM τ σ) : gB (d + 4) mX9_reads [.ref 1] σ (fun v σ' => v = none ∧ PMt τ σ' ∧ FM [142, 143, 144, 145, 146] [2, 7] σ σ') := by
  refine (s_reads (n := n0 τ) (m := n1 τ) (f := f0 τ) (g := g0 τ) hw.1.2.1 ?_ hw.1.2.2.2 ?_ (h.1 141 (by decide)) (fun j hj => rfl)).mono ?_
  · rw [h.1 140 (by decide)]; exact hw.1.1
  · rw [h.1 140 (by decide)]; exact hw.1.2.2.1
  · rintro v σ1 ⟨rfl, k1, k2⟩
    exact ⟨rfl, k1, k2.fm⟩
/-- as told: nothing left out, swapped, corked ahead or sold -/
def AT (τ σ : gw_S) : Prop := PMt τ σ ∧ σ 1 32 = -1 ∧ σ 1 33 = -1 ∧ σ 1 34 = -1 ∧ σ 1 17 = 0 ∧ σ 1 19 = 0 ∧ ∀ d, d < 40 → σ 159 d = bi (hotF τ d = true)
theorem l_asT2 {d : Nat} {τ : gw_S} (hw : WF τ) : ∀ m j (σ σ0 : gw_S), j + m = nH τ → TM τ σ → FM [142, 143, 144, 145, 146, 159] [2, 7, 17, 19, 32, 33, 34] σ0 σ → (∀ e, e < 40 → σ 159 e = bi (anyN (fun j => decide (τ 147 j = nI e)) j = true)) → PMt τ σ → σ 1 32 = -1 → σ 1 33 = -1 → σ 1 34 = -1 → σ 1 17 = 0 → σ 1 19 = 0 → gG (d + 1) mX9_asTold 52 [some (.ref 1), some (.int (nI j))] [] σ (fun v σ' => v = none ∧ AT τ σ' ∧ FM [142, 143, 144, 145, 146, 159] [2, 7, 17, 19, 32, 33, 34] σ0 σ') := by
  intro m
  induction m with
  | zero =>
    intro j σ σ0 hj ht hf hh hp h1 h2 h3 h4 h5
    have : j = nH τ := by omega
    subst this
    refine bX9_asTold_52 ?_
    rw [ht.2 10 (by decide), hw.2.1.1]
    exact ⟨fun _ => ⟨rfl, ⟨hp, h1, h2, h3, h4, h5, hh⟩, hf⟩, fun c => absurd (nI_le (Nat.le_refl _) (by have := hw.2.1.2.1; omega)) c⟩
  | succ m ih =>
    intro j σ σ0 hj ht hf hh hp h1 h2 h3 h4 h5
    have h8 := hw.2.1.2.1
    obtain ⟨e, he, ee⟩ := hw.2.1.2.2 j (by omega)
    refine bX9_asTold_52 ?_
    rw [ht.2 10 (by decide), hw.2.1.1, i_cl (show j < 2 ^ 31 by omega), ht.1 147 (by decide), ee, i_cl (show e < 2 ^ 31 by omega), nI_1]
    refine ⟨fun c => absurd c (nI_ge (by omega) (by omega)), fun _ => ⟨vp_in_nI (by omega) (by decide), vp_in_nI he (by decide), fun s q => ?_⟩⟩
    rw [show vp_nar .boolean 1 = 1 from rfl] at q
    have fq : FM [159] [] σ s := by rw [q]; exact FM.u (Or.inl (by decide))
    refine ih (j + 1) s σ0 (by omega) (ht.frL fq (by decide) (by decide)) (hf.tr (fq.wk (by decide) (by decide))) ?_ (hp.fr fq (by decide) (by decide)) ?_ ?_ ?_ ?_ ?_
    · intro x hx
      rw [q, gw_at]
      by_cases ex : x = e
      · subst ex
        simp [bi, anyN, ee]
      · have hne : ¬ nI e = nI x := by rw [nI_eq (by omega) (by omega)]; omega
        simp only [ex, and_false, if_false]
        rw [hh x hx]
        apply bi_congr
        simp [anyN, ee, hne]
    · rw [fq.2 32 (by decide)]; exact h1
    · rw [fq.2 33 (by decide)]; exact h2
    · rw [fq.2 34 (by decide)]; exact h3
    · rw [fq.2 17 (by decide)]; exact h4
    · rw [fq.2 19 (by decide)]; exact h5
theorem s_asTold {d : Nat} {τ σ : gw_S} (hw : WF τ) (h : TM τ σ) : gB (d + 5) mX9_asTold [.ref 1] σ (fun v σ' => v = none ∧ AT τ σ' ∧ FM [142, 143, 144, 145, 146, 159] [2, 7, 17, 19, 32, 33, 34] σ σ') := by
  refine eX9_asTold ((s_readsT hw h).mono ?_)
  rintro v σ1 ⟨rfl, k1, k2⟩
  refine ⟨rfl, fun s2 q2 s3 q3 s4 q4 s5 q5 s6 q6 => ?_⟩
  have f6 : FM [142, 143, 144, 145, 146, 159] [2, 7, 17, 19, 32, 33, 34] σ1 s6 := by
    rw [q6, q5, q4, q3, q2]
    exact ((((FM.u (by decide)).tr (FM.u (by decide))).tr (FM.u (by decide))).tr (FM.u (by decide))).tr (FM.u (by decide))
  have f0' : FM [142, 143, 144, 145, 146, 159] [2, 7, 17, 19, 32, 33, 34] σ s6 := (k2.wk (by decide) (by decide)).tr f6
  have p6 : PMt τ s6 := by
    have : FM [] [17, 19, 32, 33, 34] σ1 s6 := by
      rw [q6, q5, q4, q3, q2]
      exact ((((FM.u (by decide)).tr (FM.u (by decide))).tr (FM.u (by decide))).tr (FM.u (by decide))).tr (FM.u (by decide))
    exact k1.fr this (by decide) (by decide)
  have v32 : s6 1 32 = -1 := by rw [q6, q5, q4, q3, q2]; simp [gw_at]
  have v33 : s6 1 33 = -1 := by rw [q6, q5, q4, q3, q2]; simp [gw_at]
  have v34 : s6 1 34 = -1 := by rw [q6, q5, q4, q3, q2]; simp [gw_at]
  have v17 : s6 1 17 = 0 := by rw [q6, q5, q4, q3, q2]; simp [gw_at]
  have v19 : s6 1 19 = 0 := by rw [q6, q5, q4, q3, q2]; simp [gw_at]
  have key : ∀ m j (s : gw_S), j + m = 40 → FM [159] [] s6 s → (∀ e, e < j → s 159 e = 0) → gG (d + 4 + 1) mX9_asTold 31 [some (.ref 1), some (.int (nI j))] [] s (fun v σ' => v = none ∧ AT τ σ' ∧ FM [142, 143, 144, 145, 146, 159] [2, 7, 17, 19, 32, 33, 34] σ σ') := by
    intro m
    induction m with
    | zero =>
      intro j s hj hf hz
      have : j = 40 := by omega
      subst this
      refine bX9_asTold_31 ⟨fun _ => ?_, fun c => absurd (by decide) c⟩
      have fs := f0'.tr (hf.wk (by decide) (by decide))
      refine l_asT2 hw (nH τ) 0 s σ (by omega) (h.frL fs (by decide) (by decide)) fs (fun e he => by rw [hz e he]; rfl) (p6.fr hf (by decide) (by decide)) ?_ ?_ ?_ ?_ ?_
      · rw [hf.2 32 (by decide)]; exact v32
      · rw [hf.2 33 (by decide)]; exact v33
      · rw [hf.2 34 (by decide)]; exact v34
      · rw [hf.2 17 (by decide)]; exact v17
      · rw [hf.2 19 (by decide)]; exact v19
    | succ m ih =>
      intro j s hj hf hz
      refine bX9_asTold_31 ⟨fun c => absurd c (nI_ge (b := 40) (by omega) (by decide)), fun _ => ⟨vp_in_nI (by omega) (by decide), fun s7 q7 => ?_⟩⟩
      rw [i_cl (show j < 2 ^ 31 by omega), show vp_nar .boolean 0 = 0 from rfl] at q7
      rw [nI_1]
      refine ih (j + 1) s7 (by omega) (hf.tr (by rw [q7]; exact FM.u (Or.inl (by decide)))) (fun e he => ?_)
      rw [q7, gw_at]
      by_cases ex : e = j
      · simp [ex]
      · simp [ex, hz e (by omega)]
  exact key 40 0 s6 (by omega) FM.rf (fun e he => by omega)
