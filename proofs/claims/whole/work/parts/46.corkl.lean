theorem find_cg {α : Type} {p q : α → Bool} : ∀ {L : List α}, (∀ l, l ∈ L → p l = q l) → L.find? p = L.find? q
  | [], _ => rfl
  | a :: L, h => by
    have h1 := h a (by simp)
    by_cases c : p a = true
    · rw [List.find?_cons_of_pos c, List.find?_cons_of_pos (by rw [← h1]; exact c)]
    · rw [List.find?_cons_of_neg (by simpa using c), List.find?_cons_of_neg (by rw [← h1]; simpa using c)]
      exact find_cg (fun l hl => h l (by simp [hl]))
theorem tl_in {n c : Nat} {l : List Nat} (hn : n ≤ 8) (hc : c < 4) (h : l ∈ TL n c) : l.length = c ∧ (∀ b, b < 8 → clF l b = bitC (bt l) b) ∧ pcN (bt l) 16 = c ∧ ∀ i, i < 3 → cAt (bt l) i 8 0 0 = if i < c then nI (l.getD i 0) else -1 := by
  have h1 := tl_ok ⟨n, by omega⟩ ⟨c, hc⟩
  rw [List.all_eq_true] at h1
  have h2 := h1 l h
  rw [Bool.and_eq_true, Bool.and_eq_true, Bool.and_eq_true, beq_iff_eq, beq_iff_eq, List.all_eq_true, List.all_eq_true] at h2
  exact ⟨h2.1.1.1, fun b hb => beq_iff_eq.mp (h2.1.1.2 b (List.mem_range.mpr hb)), h2.1.2, fun i hi => decide_eq_true_iff.mp (h2.2 i (List.mem_range.mpr hi))⟩
theorem dsc_TL {τ : gw_S} {D c : Nat} (hw : WF τ) (hc : c < 4) : dsc (qC τ D c) 256 = ((TL (NB τ) c).find? (fun l => sgC τ D (clF l))).map bt := by
  have hn := NB_le hw
  have e1 : dsc (qC τ D c) 256 = (dnL (fun x => (pcN x 16 == c) && areB (NB τ) x) 256).find? (fun x => sgC τ D (bitC x)) := dsc_dn 256
  have e2 := ord_eq ⟨NB τ, by omega⟩ ⟨c, hc⟩
  simp only at e2
  rw [e1, ← e2, List.find?_map]
  congr 1
  refine find_cg (fun l hl => ?_)
  show sgC τ D (bitC (bt l)) = sgC τ D (clF l)
  exact sgC_congr (fun b hb => ((tl_in hn hc hl).2.1 b (by omega)).symm)
theorem sks_m {τ : gw_S} {D : Nat} (hw : WF τ) : sks τ D 4 0 = (mCk τ D).map bt := by
  have h0 := dsc_TL (D := D) hw (show 0 < 4 by decide)
  have h1 := dsc_TL (D := D) hw (show 1 < 4 by decide)
  have h2 := dsc_TL (D := D) hw (show 2 < 4 by decide)
  have h3 := dsc_TL (D := D) hw (show 3 < 4 by decide)
  unfold mCk
  simp only [sks]
  rw [show (0 + 1 : Nat) = 1 from rfl, show (1 + 1 : Nat) = 2 from rfl, show (2 + 1 : Nat) = 3 from rfl, h0, h1, h2, h3]
  cases (TL (NB τ) 0).find? (fun l => sgC τ D (clF l)) with
  | some l => rfl
  | none =>
    cases (TL (NB τ) 1).find? (fun l => sgC τ D (clF l)) with
    | some l => rfl
    | none =>
      cases (TL (NB τ) 2).find? (fun l => sgC τ D (clF l)) with
      | some l => rfl
      | none =>
        cases (TL (NB τ) 3).find? (fun l => sgC τ D (clF l)) with
        | some l => rfl
        | none => rfl
theorem mCk_in {τ : gw_S} {D : Nat} {l : List Nat} (h : mCk τ D = some l) : ∃ c, c < 4 ∧ l ∈ TL (NB τ) c := by
  unfold mCk at h
  cases e0 : (TL (NB τ) 0).find? (fun l => sgC τ D (clF l)) with
  | some x =>
    rw [e0] at h
    rw [← Option.some.inj h]
    exact ⟨0, by decide, List.mem_of_find?_eq_some e0⟩
  | none =>
    rw [e0] at h
    cases e1 : (TL (NB τ) 1).find? (fun l => sgC τ D (clF l)) with
    | some x =>
      rw [e1] at h
      rw [← Option.some.inj h]
      exact ⟨1, by decide, List.mem_of_find?_eq_some e1⟩
    | none =>
      rw [e1] at h
      cases e2 : (TL (NB τ) 2).find? (fun l => sgC τ D (clF l)) with
      | some x =>
        rw [e2] at h
        rw [← Option.some.inj h]
        exact ⟨2, by decide, List.mem_of_find?_eq_some e2⟩
      | none =>
        rw [e2] at h
        cases e3 : (TL (NB τ) 3).find? (fun l => sgC τ D (clF l)) with
        | some x =>
          rw [e3] at h
          rw [← Option.some.inj h]
          exact ⟨3, by decide, List.mem_of_find?_eq_some e3⟩
        | none =>
          rw [e3] at h
          exact absurd h (by simp)
/-- what the model says of its corks -/
theorem s_ofCorks {d D : Nat} {i : Int32} {τ σ0 σ : gw_S} (hw : WF τ) (hi : i = -1 ∨ ok3 i) (h : PCk τ σ0 (mCk τ D) (some (.int (oL (mCk τ D)))) σ) : gB d mX9_ofCorks [.ref 1, .int (oL (mCk τ D)), .int i] σ (fun v σ' => v = some (.int (aCor (sks τ D 4 0) i)) ∧ σ' = σ) := by
  have hn := NB_le hw
  rw [sks_m hw]
  cases e : mCk τ D with
  | none =>
    refine eX9_ofCorks ⟨fun c => ⟨fun _ => ⟨rfl, rfl⟩, fun q => absurd ?_ q⟩, fun c => ⟨rfl, rfl⟩⟩
    show (-1 : Int32) ≤ i
    have := i_le.mp (hi.resolve_left c).1
    rw [i_le, show (-1 : Int32).toInt = -1 from by decide]
    rw [show (0 : Int32).toInt = 0 from by decide] at this
    omega
  | some l =>
    obtain ⟨c, hc, hl⟩ := mCk_in e
    obtain ⟨t1, -, t3, t4⟩ := tl_in hn hc hl
    have eO : oL (some l) = nI c := by rw [← t1]; rfl
    rw [eO]
    show gB d mX9_ofCorks [.ref 1, .int (nI c), .int i] σ (fun v σ' => v = some (.int (if i = -1 then nI (pcN (bt l) 16) else cAt (bt l) i.toNatClampNeg 8 0 0)) ∧ σ' = σ)
    refine eX9_ofCorks ⟨fun z => ?_, fun z => ⟨by rw [if_pos z, t3], rfl⟩⟩
    obtain ⟨I, hI, rfl⟩ : ∃ I, I < 3 ∧ i = nI I := i_in (by decide) (hi.resolve_left z).1 (i_lt.mp (hi.resolve_left z).2)
    rw [i_cl (show I < 2 ^ 31 by omega), if_neg z, t4 I hI, nI_leI (by omega) (by omega)]
    refine ⟨fun q => ⟨by rw [if_neg (by omega)], rfl⟩, fun q => ⟨vp_in_nI hI (by decide), ?_, rfl⟩⟩
    rw [if_pos (by omega), h.2.2.2 l e I (by omega)]
theorem lt_m3 {x : Int32} : (-1 ≤ x ∧ x ≤ 2) ↔ (x = -1 ∨ ok3 x) := by
  have e1 : (-1 : Int32).toInt = -1 := by decide
  have e7 : (2 : Int32).toInt = 2 := by decide
  have e8 : (3 : Int32).toInt = 3 := by decide
  have e0 : (0 : Int32).toInt = 0 := by decide
  rw [i_le, i_le, ok3, i_le, i_lt, e1, e7, e8, e0, ← Int32.toInt_inj, e1]
  omega
theorem m_corks {d : Nat} {day i : Int32} {τ σ : gw_S} (hw : WF τ) (h : TM τ σ) : gB (d + 7) mX9_corks [.ref 1, .int day, .int i] σ (QM τ σ (A_corks τ day i)) := by
  have bad : ¬ (okD day ∧ (i = -1 ∨ ok3 i)) → A_corks τ day i = -2 := fun c => by rw [A_corks, if_neg c]
  refine eX9_corks (gB_det s_isDay2 ⟨_, rfl, br_bj (fun h1 => ?_) (fun h1 => QM.bad h FM.rf (bad (fun q => h1 q.1)))⟩)
  refine gB_det s_in ?_
  rw [bi_congr lt_m3]
  refine ⟨_, rfl, br_bj (fun h2 => ?_) (fun h2 => QM.bad h FM.rf (bad (fun q => h2 q.2)))⟩
  obtain ⟨D, hD, rfl⟩ := okD_n h1
  refine (s_corksBy hw h hD).mono ?_
  rintro _ σ5 ⟨rfl, g1, g2, g3⟩
  refine ⟨_, rfl, gB_det (s_ofCorks (σ0 := σ) hw h2 ⟨rfl, g1, g2, g3⟩) ⟨_, rfl, ?_, g1, g2⟩⟩
  rw [A_corks, if_pos ⟨h1, h2⟩, i_cl (show D < 2 ^ 31 by omega)]
