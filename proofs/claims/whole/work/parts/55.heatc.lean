/-- a day that is hot or not -/
def dyH (τ : gw_S) (hot : Bool) (D : Nat) (S : gw_S) : gw_S := sEnds hot (soT τ) (τ 1 9) (NB τ) (sActs (NB τ) τ (-1) (nI D) (nA τ) S)
theorem dyH_two {τ : gw_S} {D : Nat} {S : gw_S} : dyH τ false D S = sLA (NB τ) (sActs (NB τ) τ (-1) (nI D) (nA τ) S) ∧ dyH τ true D S = sBA (soT τ) (τ 1 9) (NB τ) (sLA (NB τ) (sActs (NB τ) τ (-1) (nI D) (nA τ) S)) := by
  unfold dyH
  rw [sEnds_two, sEnds_two, if_neg (by decide), if_pos rfl]
  exact ⟨rfl, rfl⟩
theorem sBA_id {So : Nat → Bool} {bu : Int32} {S : gw_S} : ∀ n, (∀ b, b < n → ¬ (So b = true ∧ bu ≤ alI S b)) → sBA So bu n S = S
  | 0, _ => rfl
  | n + 1, h => by
    show Bs So bu n (sBA So bu n S) = S
    rw [sBA_id n (fun b hb => h b (by omega))]
    have := h n (by omega)
    unfold Bs
    split
    · rename_i c
      exact absurd ⟨c.2.1, c.2.2⟩ this
    · rfl
/-- in how many ways of 16 a day the bottle stays whole: m days from day D on -/
def wyN (τ : gw_S) (c b : Nat) : Nat → Nat → gw_S → Nat
  | 0, _, S => if S 3 b = 0 then 0 else 1
  | m + 1, D, S => (16 - c) * wyN τ c b m (D + 1) (dyH τ false D S) + c * wyN τ c b m (D + 1) (dyH τ true D S)
theorem wyN_le {τ : gw_S} {c b : Nat} (hc : c ≤ 16) : ∀ m D S, wyN τ c b m D S ≤ 16 ^ m
  | 0, _, S => by unfold wyN; split <;> simp
  | m + 1, D, S => by
    unfold wyN
    have h1 := wyN_le (τ := τ) (b := b) hc m (D + 1) (dyH τ false D S)
    have h2 := wyN_le (τ := τ) (b := b) hc m (D + 1) (dyH τ true D S)
    have e1 : (16 - c) * wyN τ c b m (D + 1) (dyH τ false D S) ≤ (16 - c) * 16 ^ m := Nat.mul_le_mul_left _ h1
    have e2 : c * wyN τ c b m (D + 1) (dyH τ true D S) ≤ c * 16 ^ m := Nat.mul_le_mul_left _ h2
    have e3 : (16 - c) * 16 ^ m + c * 16 ^ m = 16 ^ (m + 1) := by
      rw [← Nat.add_mul, show 16 - c + c = 16 by omega, Nat.pow_succ]
      omega
    omega
theorem sEnds_30 {hot : Bool} {So : Nat → Bool} {bu : Int32} {b : Nat} : ∀ (m : Nat) (S : gw_S), S 3 b = 0 → sEnds hot So bu m S 3 b = 0
  | 0, _, h => h
  | m + 1, S, h => by
    have ih := sEnds_30 (hot := hot) (So := So) (bu := bu) (b := b) m S h
    show (if sEnds hot So bu m S 3 m = 0 then sEnds hot So bu m S else sEnd hot (So m) bu m (sEnds hot So bu m S)) 3 b = 0
    split
    · exact ih
    · unfold sEnd
      split
      · show upd (sLk m (sEnds hot So bu m S) 3) m 0 b = 0
        unfold upd
        split
        · rfl
        · exact ih
      · exact ih
theorem aS_30 {n : Nat} {K : Int32} {b x : Nat} {t : Int32} {S : gw_S} (h : S 3 b = 0) : aS n K x t S 3 b = 0 := by
  unfold aS sSell sCork
  repeat' split
  all_goals first | exact h | (rw [gw_ne (by decide)]; exact h) | skip
  · show upd (S 3) x 0 b = 0
    unfold upd
    split
    · rfl
    · exact h
theorem sActs_30 {n : Nat} {τ : gw_S} {w D : Int32} {b : Nat} : ∀ (m : Nat) (S : gw_S), S 3 b = 0 → sActs n τ w D m S 3 b = 0
  | 0, _, h => h
  | m + 1, S, h => by
    show sAct n τ w D m (sActs n τ w D m S) 3 b = 0
    have ih := sActs_30 (n := n) (τ := τ) (w := w) (D := D) m S h
    unfold sAct
    split
    · rw [gw_ne (by decide)]; exact aS_30 ih
    · exact ih
theorem wyN_0 {τ : gw_S} {c b : Nat} : ∀ m D S, S 3 b = 0 → wyN τ c b m D S = 0
  | 0, _, S, h => by unfold wyN; rw [if_pos h]
  | m + 1, D, S, h => by
    unfold wyN
    have h1 : ∀ hot, dyH τ hot D S 3 b = 0 := fun hot => sEnds_30 _ _ (sActs_30 _ _ h)
    rw [wyN_0 m (D + 1) _ (h1 false), wyN_0 m (D + 1) _ (h1 true)]
    simp
def S7Z (τ : gw_S) (D : Nat) (S : gw_S) : Prop := ∀ a D', D ≤ D' → D' < 40 → τ 148 a = nI D' → S 7 a = 0
theorem S7Z.nx {τ S : gw_S} {D : Nat} {hot : Bool} (hD : D < 40) (h : S7Z τ D S) : S7Z τ (D + 1) (dyH τ hot D S) := fun a D' h1 h2 e => by
  unfold dyH
  rw [sEnds_7, sActs_7 _ _ _ (by rw [e, nI_eq (by omega) (by omega)]; omega)]
  exact h a D' (by omega) h2 e
theorem ht_q {D : Nat} (h : D < 11) : ([52, 60, 68, 76, 84, 92, 100, 108, 116, 124, 132] : List Nat)[D]? = some (52 + 8 * D) := by
  have : D = 0 ∨ D = 1 ∨ D = 2 ∨ D = 3 ∨ D = 4 ∨ D = 5 ∨ D = 6 ∨ D = 7 ∨ D = 8 ∨ D = 9 ∨ D = 10 := by omega
  rcases this with rfl | rfl | rfl | rfl | rfl | rfl | rfl | rfl | rfl | rfl | rfl <;> rfl
theorem ht_st {D : Nat} (h : D < 11) : gw_st (52 + 8 * D) := by
  have : D = 0 ∨ D = 1 ∨ D = 2 ∨ D = 3 ∨ D = 4 ∨ D = 5 ∨ D = 6 ∨ D = 7 ∨ D = 8 ∨ D = 9 ∨ D = 10 := by omega
  rcases this with rfl | rfl | rfl | rfl | rfl | rfl | rfl | rfl | rfl | rfl | rfl <;> exact ⟨rfl, fun j hj => by rcases (show j = 0 ∨ j = 1 ∨ j = 2 ∨ j = 3 ∨ j = 4 ∨ j = 5 ∨ j = 6 by omega) with rfl | rfl | rfl | rfl | rfl | rfl | rfl <;> rfl⟩
/-- only States behind the D-th have changed -/
def FHt (D : Nat) (σ σ' : gw_S) : Prop := ∀ k, (k < 52 + 8 * (D + 1) ∨ 140 ≤ k) → σ' k = σ k
theorem FHt.tr {D : Nat} {σ σ1 σ2 : gw_S} (h : FHt D σ σ1) (h2 : FHt D σ1 σ2) : FHt D σ σ2 := fun k hk => (h2 k hk).trans (h k hk)
theorem FHt.tc {D : Nat} {σ σ' : gw_S} (h : FHt D σ σ') : FTc σ σ' := ⟨fun k _ _ _ _ _ _ => h k (by omega), fun j _ => by rw [h 17 (by omega)], by rw [h 0 (by omega)]⟩
theorem FS.ht {D : Nat} {σ σ' : gw_S} (h : FS (52 + 8 * (D + 1)) σ σ') (hD : D < 10) : FHt D σ σ' := fun k hk => h k (by omega)
theorem s_ways {τ : gw_S} {c B last : Nat} (hw : WF τ) (hc : c ≤ 16) (hB : B < NB τ) (hl : last < 10) : ∀ (m d D : Nat) (S σ : gw_S), D + m = last + 1 → TC τ σ → Rp (NB τ) (soT τ) S (vw (52 + 8 * D) σ) → σ (52 + 8 * D) 12 + 1 = nI D → S7Z τ D S → gB (d + m + 3) mX8_wholeWays [.ref 34, .ref 6, .int (nI D), .int (nI last), .int (nI c), .int (nI B)] σ (fun v σ' => v = some (.long (lN (wyN τ c B m D S))) ∧ FHt D σ σ') := by
  have hn := NB_le hw
  intro m
  induction m with
  | zero =>
    intro d D S σ hD h hr hd h7
    have q := ht_q (show D < 11 by omega)
    refine eX8_wholeWays (gB_det s_isWithin ⟨_, rfl, br_bj (fun _ => ?_) (fun z => absurd ⟨nI_pos' (by omega), nI_lt (b := 11) (by omega) (by decide)⟩ z)⟩)
    rw [i_cl (show D < 2 ^ 31 by omega)]
    refine ⟨vp_in_nI (by omega) (by decide), 52 + 8 * D, q, ht_st (by omega), gB_det (s_isWholeC (ht_st (by omega)) hr (by omega)) ⟨_, rfl, br_bi (fun z => ⟨fun _ => ⟨?_, fun _ _ => rfl⟩, fun y => absurd (nI_lt (by omega) (by omega)) y⟩) (fun z => ⟨?_, fun _ _ => rfl⟩)⟩⟩
    · unfold wyN
      rw [if_neg z.2]
      rfl
    · unfold wyN
      rw [if_pos (Classical.not_not.mp (fun y => z ⟨hB, y⟩))]
      rfl
  | succ m ih =>
    intro d D S σ hD h hr hd h7
    have st0 := ht_st (show D < 11 by omega)
    have st1 := ht_st (show D + 1 < 11 by omega)
    refine eX8_wholeWays (gB_det s_isWithin ⟨_, rfl, br_bj (fun _ => ?_) (fun z => absurd ⟨nI_pos' (by omega), nI_lt (b := 11) (by omega) (by decide)⟩ z)⟩)
    rw [nI_1, i_cl (show D < 2 ^ 31 by omega), i_cl (show D + 1 < 2 ^ 31 by omega)]
    refine ⟨vp_in_nI (by omega) (by decide), 52 + 8 * D, ht_q (by omega), st0, gB_det (s_isWholeC st0 hr (by omega)) ⟨_, rfl, br_bi (fun z => ⟨fun y => absurd y (nI_nlt (by omega) (by omega)), fun _ => ⟨fun _ => ?_, fun y => absurd (nI_lt (b := 11) (by omega) (by decide)) y⟩⟩) (fun z => ⟨?_, fun _ _ => rfl⟩)⟩⟩
    · refine ⟨vp_in_nI (by omega) (by decide), 52 + 8 * (D + 1), ht_q (by omega), st1, vp_in_nI (by omega) (by decide), 52 + 8 * D, ht_q (by omega), st0, ?_⟩
      refine (s_become (d := d + m + 2) st1 st0 (Or.inr (by omega)) hr).mono ?_
      rintro _ σ11 ⟨rfl, b1, b2, b3⟩
      have f11 := b3.ht (by omega)
      have t11 := h.fr f11.tc
      refine ⟨rfl, (s_until (d := d + m + 1) hw st1 (by omega) t11.2.1 (show D < 40 by omega) (by rw [b2]; exact hd) (fun a _ e => h7 a D (Nat.le_refl _) (by omega) e) b1).mono ?_⟩
      rintro _ σ12 ⟨rfl, u1, u2, u3⟩
      have f12 := f11.tr (u3.ht (by omega))
      have t12 := h.fr f12.tc
      have e64 : σ12 6 4 = τ 1 9 := t12.2.1.2.2.2.2
      obtain ⟨dy0, dy1⟩ := dyH_two (τ := τ) (D := D) (S := S)
      rw [← dy0] at u1 dy1
      rw [e64]
      refine ⟨rfl, gB_det (s_ripe (d := d + m + 2) st1 u1) ⟨_, rfl, ?_⟩⟩
      have z0 := h7.nx (hot := false) (show D < 40 by omega)
      have z1 := h7.nx (hot := true) (show D < 40 by omega)
      have nd : σ12 (52 + 8 * (D + 1)) 12 + 1 = nI (D + 1) := by rw [u2, nI_1]
      have hi := (ih d (D + 1) (dyH τ false D S) σ12 (by omega) t12 u1 nd z0)
      have fdeep : ∀ {s s' : gw_S}, FHt (D + 1) s s' → FHt D s s' := fun hq k hk => hq k (by omega)
      refine ⟨fun y => (hi.mono' (by omega) ?_), fun y => (hi.mono' (by omega) ?_)⟩
      · rintro _ σ15 ⟨rfl, v1⟩
        have r15 : Rp (NB τ) (soT τ) (dyH τ false D S) (vw (52 + 8 * (D + 1)) σ15) := u1.eqv (fun i hi => v1 _ (by omega))
        refine ⟨_, rfl, (s_burst (d := d + m + 2) st1 hw.2.2.1.1 r15).mono ?_⟩
        rintro _ σ17 ⟨rfl, w1, w2, w3⟩
        have f17 := (f12.tr (fdeep v1)).tr (w3.ht (by omega))
        have t17 := h.fr f17.tc
        rw [← dy1] at w1
        have nd2 : σ17 (52 + 8 * (D + 1)) 12 + 1 = nI (D + 1) := by rw [w2, v1 _ (by omega)]; exact nd
        refine ⟨rfl, (ih d (D + 1) (dyH τ true D S) σ17 (by omega) t17 w1 nd2 z1).mono' (by omega) ?_⟩
        rintro _ σ18 ⟨rfl, x1⟩
        refine ⟨_, rfl, ?_, f17.tr (fdeep x1)⟩
        rw [show (16 : Int32) = nI 16 from rfl, nI_sub hc, nI_l (by omega), nI_l (by omega), lN_mul, lN_mul, lN_add]
        rfl
      · rintro _ σ20 ⟨rfl, v1⟩
        refine ⟨_, rfl, ?_, f12.tr (fdeep v1)⟩
        have same : dyH τ true D S = dyH τ false D S := by
          rw [dy1]
          refine sBA_id _ (fun b hb q => ?_)
          have : tb (bm (fun b => soT τ b && decide (τ 1 9 ≤ alI (dyH τ false D S) b)) (NB τ)) b := (tb_bm _ _ (by omega) (by omega)).mpr ⟨hb, by rw [Bool.and_eq_true, decide_eq_true_iff]; exact q⟩
          rw [y] at this
          exact tb_0 (by omega) this
        rw [show (16 : Int64) = lN 16 from rfl, lN_mul]
        show some (Value.long (lN (16 * wyN τ c B m (D + 1) (dyH τ false D S)))) = some (Value.long (lN ((16 - c) * wyN τ c B m (D + 1) (dyH τ false D S) + c * wyN τ c B m (D + 1) (dyH τ true D S))))
        rw [same, ← Nat.add_mul, show 16 - c + c = 16 by omega]
    · rw [wyN_0 _ _ _ (Classical.not_not.mp (fun y => z ⟨hB, y⟩))]
      rfl
