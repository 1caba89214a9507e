/-! what the class keeps stands when nothing of the days was told -/
theorem cDay_sd {τ τ' : gw_S} (h : SD τ τ') {D : Nat} {w : Int32} {S : gw_S} : cDay (NB τ') (soT τ') τ' w D S = cDay (NB τ) (soT τ) τ w D S := by
  obtain ⟨e1, -, e2, -, e3⟩ := NB_sd h
  unfold cDay soT
  rw [e1, e2, e3, hotF_sd h, sActs_sd h, h.2 9 (by decide)]
theorem bgC_sd {τ τ' : gw_S} (h : SD τ τ') {C : Nat → Bool} : bgC τ' C = bgC τ C := by
  obtain ⟨e1, -, e2, -, -⟩ := NB_sd h
  unfold bgC Vt Mt Ct
  rw [e1, e2]
theorem simC_sd {τ τ' : gw_S} (h : SD τ τ') {C : Nat → Bool} : ∀ k, simC τ' C k = simC τ C k
  | 0 => bgC_sd h
  | k + 1 => by
    show cDay (NB τ') (soT τ') τ' (-1) k (simC τ' C k) = cDay (NB τ) (soT τ) τ (-1) k (simC τ C k)
    rw [cDay_sd h, simC_sd h k]
theorem sgC_sd {τ τ' : gw_S} (h : SD τ τ') {D : Nat} {C : Nat → Bool} : sgC τ' D C = sgC τ D C := by
  obtain ⟨e1, e2, -, e4, -⟩ := NB_sd h
  have en : ntT τ' = ntT τ := by
    funext i
    unfold ntT
    rw [e4]
  unfold sgC spT
  rw [simC_sd h, e1, e2, en]
theorem sks_sd {τ τ' : gw_S} (h : SD τ τ') {D : Nat} : ∀ m c, sks τ' D m c = sks τ D m c
  | 0, _ => rfl
  | m + 1, c => by
    have e : qC τ' D c = qC τ D c := by
      funext x
      unfold qC
      rw [(NB_sd h).1, sgC_sd h]
    unfold sks
    rw [e, sks_sd h m (c + 1)]
theorem CK.sd {τ τ' σ σ' : gw_S} (hk : CK τ σ) (h : SD τ τ') (e1 : σ' 0 11 = σ 0 11) (e2 : σ' 0 12 = σ 0 12) : CK τ' σ' := by
  unfold CK at hk ⊢
  rw [e1, e2]
  rcases hk with q | ⟨D, h1, h2, h3⟩
  · exact Or.inl q
  · exact Or.inr ⟨D, h1, h2, by rw [sks_sd h]; exact h3⟩
/-- the class, whole: it holds what was told, and what it keeps is right -/
def IC (τ σ : gw_S) : Prop := TC τ σ ∧ CN τ σ ∧ CK τ σ
theorem QC.ic {τ σ σ' : gw_S} {A : Int32} {v : Option Value} (h : IC τ σ) (q : QC τ σ A v σ') : v = some (.int A) ∧ IC τ σ' ∧ FCl σ σ' :=
  ⟨q.1, ⟨h.1.fr q.2.2.tc, q.2.1, h.2.2.sd SD.rf (q.2.2.2 11 (by decide)) (q.2.2.2 12 (by decide))⟩, q.2.2.cl⟩
theorem QU.ic {τ τ' σ σ' : gw_S} {A : Int32} {v : Option Value} (h : IC τ σ) (q : QU τ τ' σ A v σ') : v = some (.int A) ∧ IC τ' σ' ∧ FCl σ σ' := by
  refine ⟨q.1, ⟨q.2.1, ?_, ?_⟩, q.2.2.2⟩
  · rcases q.2.2.1 with z | z
    · exact (h.2.1.kp z.2).sd z.1
    · intro y
      rw [z.1] at y
      exact absurd y (by decide)
  · rcases q.2.2.1 with z | z
    · exact h.2.2.sd z.1 z.2.2.1 z.2.2.2.1
    · exact Or.inl z.2
theorem QX.ic {τ τ' σ σ' : gw_S} {A : Int32} {v : Option Value} (h : IC τ σ) (q : QX τ τ' σ A v σ') : v = some (.int A) ∧ IC τ' σ' ∧ FCl σ σ' :=
  ⟨q.1, ⟨q.2.1, q.2.2.1, h.2.2.sd q.2.2.2.1 q.2.2.2.2.1.1 q.2.2.2.2.1.2⟩, q.2.2.2.2.2⟩
theorem QK.ic {τ σ σ' : gw_S} {A : Int32} {v : Option Value} (q : QK τ σ A v σ') : v = some (.int A) ∧ IC τ σ' ∧ FCl σ σ' := ⟨q.1, ⟨q.2.1, q.2.2.1, q.2.2.2.1⟩, q.2.2.2.2⟩
theorem QM.in {τ σ σ' : gw_S} {A : Int32} {v : Option Value} (q : QM τ σ A v σ') : v = some (.int A) ∧ TM τ σ' ∧ FMo σ σ' := ⟨q.1, q.2.1, FSc.mo q.2.2⟩
/-- a call of the class leaves the model's told cells, a call of the model those of the class -/
theorem TM.cl {τ σ σ' : gw_S} (h : TM τ σ) (hf : FCl σ σ') : TM τ σ' := by
  refine ⟨fun k hk => ?_, fun j hj => by rw [hf 1 (Or.inl rfl)]; exact h.2 j hj⟩
  rw [hf k (Or.inr (by revert hk; simp only [List.mem_cons, List.not_mem_nil, or_false]; omega))]
  exact h.1 k hk
theorem IC.mo {τ σ σ' : gw_S} (h : IC τ σ) (hf : FMo σ σ') : IC τ σ' := by
  refine ⟨h.1.fr ⟨fun k _ _ _ _ _ _ => hf k (by omega) (by omega), fun j _ => by rw [hf 17 (by decide) (by decide)], by rw [hf 0 (by decide) (by decide)]⟩, ?_, ?_⟩
  · have e0 := hf 0 (by decide) (by decide)
    exact h.2.1.kp ⟨by rw [e0], by rw [e0], by rw [e0], fun m a b => hf m (by omega) (by omega)⟩
  · have e0 := hf 0 (by decide) (by decide)
    exact h.2.2.sd SD.rf (by rw [e0]) (by rw [e0])
