abbrev ok17 (x : Int32) : Prop := 0 ≤ x ∧ x < 17
abbrev ok10 (x : Int32) : Prop := 0 ≤ x ∧ x < 10
def aHeat (τ : gw_S) (c B D : Nat) (w : Int32) : Int64 := aLow (wyN τ c B (D + 1) 0 (simT τ 0)) (2 ^ (4 * (D + 1))) w
def A_heat (τ : gw_S) (c b day w : Int32) : Int64 := if ok17 c ∧ okB τ b ∧ ok10 day ∧ okT w then aHeat τ c.toNatClampNeg b.toNatClampNeg day.toNatClampNeg w else -9223372036854775806
def QL (τ σ : gw_S) (A : Int64) : Option Value → gw_S → Prop := fun v σ' => v = some (.long A) ∧ IC τ σ' ∧ FCl σ σ'
theorem IC.ht {τ σ σ' : gw_S} (h : IC τ σ) (hf : ∀ k, (k < 52 ∨ 140 ≤ k) → σ' k = σ k) : IC τ σ' ∧ FCl σ σ' := by
  have e0 := hf 0 (by omega)
  refine ⟨⟨h.1.fr ⟨fun k _ _ _ _ _ _ => hf k (by omega), fun j _ => by rw [hf 17 (by omega)], by rw [e0]⟩, h.2.1.kp ⟨by rw [e0], by rw [e0], by rw [e0], fun m a b => hf m (by omega)⟩, h.2.2.sd SD.rf (by rw [e0]) (by rw [e0])⟩, fun k hk => hf k (by omega)⟩
theorem c_heat {d : Nat} {c b day w : Int32} {τ σ : gw_S} (hw : WF τ) (h : IC τ σ) : gB (d + 14) mX8_heat [.ref 0, .int c, .int b, .int day, .int w] σ (QL τ σ (A_heat τ c b day w)) := by
  have hn := NB_le hw
  have e74 : σ 7 4 = nI (NB τ) := h.1.1.2.2.2.2.2.2.1.1
  have bad : ¬ (ok17 c ∧ okB τ b ∧ ok10 day ∧ okT w) → QL τ σ (A_heat τ c b day w) (some (.long (-9223372036854775806))) σ := fun z => by
    rw [A_heat, if_neg z]
    exact ⟨rfl, h, FCl.rf⟩
  refine eX8_heat (gB_det s_isWithin ⟨_, rfl, br_bj (fun h1 => ?_) (fun h1 => bad (fun q => h1 q.1))⟩)
  refine gB_det s_isBottleC ?_
  rw [e74]
  refine ⟨_, rfl, br_bj (fun h2 => ?_) (fun h2 => bad (fun q => h2 q.2.1))⟩
  refine gB_det s_isWithin ⟨_, rfl, br_bj (fun h3 => ?_) (fun h3 => bad (fun q => h3 q.2.2.1))⟩
  refine gB_det s_isWithin ⟨_, rfl, br_bi (fun h4 => ?_) (fun h4 => bad (fun q => h4 q.2.2.2))⟩
  obtain ⟨C, hC, rfl⟩ : ∃ C, C < 17 ∧ c = nI C := i_in (by decide) h1.1 (i_lt.mp h1.2)
  obtain ⟨B, hB, rfl⟩ := okB_n hw h2
  obtain ⟨D, hD, rfl⟩ : ∃ D, D < 10 ∧ day = nI D := i_in (by decide) h3.1 (i_lt.mp h3.2)
  have eA : A_heat τ (nI C) (nI B) (nI D) w = aHeat τ C B D w := by rw [A_heat, if_pos ⟨h1, h2, h3, h4⟩, i_cl (show C < 2 ^ 31 by omega), i_cl (show B < 2 ^ 31 by omega), i_cl (show D < 2 ^ 31 by omega)]
  rw [eA]
  refine ⟨vp_in_nI (show 0 < 11 by decide) (by decide), 52, rfl, ht_st (D := 0) (by decide), (s_begin0 (d := d + 12) hw (ht_st (D := 0) (by decide)) (by decide) h.1).mono ?_⟩
  rintro _ σ11 ⟨rfl, g1, g2, g3⟩
  have t11 : TC τ σ11 := h.1.fr ⟨fun k _ _ _ _ _ _ => g3 k (by omega), fun j _ => by rw [g3 17 (by omega)], by rw [g3 0 (by omega)]⟩
  refine ⟨rfl, (s_ways (c := C) (B := B) (last := D) hw (by omega) hB (by omega) (D + 1) (d + 9 - D) 0 (simT τ 0) σ11 (by omega) t11 g1 (by rw [show 52 + 8 * 0 = 52 from rfl, g2]; rfl) (fun a D' _ _ _ => rfl)).mono' (by omega) ?_⟩
  rintro _ σ12 ⟨rfl, p1⟩
  have fin := h.ht (σ' := σ12) (fun k hk => (p1 k (by omega)).trans (g3 k (by omega)))
  have wl := wyN_le (τ := τ) (b := B) (show C ≤ 16 by omega) (D + 1) 0 (simT τ 0)
  have e16 : 16 ^ (D + 1) = 2 ^ (4 * (D + 1)) := by rw [Nat.pow_mul]
  have el : 2 ^ (4 * (D + 1)) ≤ 2 ^ 40 := Nat.pow_le_pow_right (by decide) (by omega)
  have els : gw_lshl 1 (4 * (nI D + 1)) = lN (2 ^ (4 * (D + 1))) := lsh_e ⟨D, hD⟩
  refine ⟨_, rfl, ?_⟩
  rw [lg_cmp_eq, els]
  unfold aHeat
  generalize hW : wyN τ C B (D + 1) 0 (simT τ 0) = W at *
  rw [lN_z (by omega)]
  refine ⟨fun z => ?_, fun z => ?_⟩
  · obtain ⟨t, q, e⟩ := od_of W (by omega)
    have ep : 2 ^ (4 * (D + 1)) = 2 ^ (4 * (D + 1)) * (2 * 0 + 1) := by omega
    have ht : t < 63 := by
      refine Classical.byContradiction (fun y => ?_)
      have y1 : 2 ^ 63 ≤ 2 ^ t := Nat.pow_le_pow_right (by decide) (by omega)
      have y2 : 2 ^ t * 1 ≤ 2 ^ t * (2 * q + 1) := Nat.mul_le_mul_left _ (by omega)
      omega
    rw [e]
    refine gB_det (s_ntzL (d := d + 12) (by omega)) ⟨_, rfl, ?_⟩
    have sl := s_ntzL (d := d + 12) (t := 4 * (D + 1)) (q := 0) (σ := σ12) (by omega)
    rw [← ep] at sl
    refine gB_det sl ⟨_, rfl, ?_⟩
    rw [gw_min_n (by omega) (by omega), lN_shr (by omega) (by omega), lN_shr (by omega) (by omega)]
    refine ⟨fun z2 => ⟨?_, fin⟩, fun z2 => ⟨?_, fin⟩⟩
    · rw [aLow, if_neg z2, gcd_od, Nat.shiftRight_eq_div_pow]
    · rw [aLow, if_pos z2, gcd_od, Nat.shiftRight_eq_div_pow]
  · subst z
    have s1 := s_ntzL (d := d + 12) (t := 0) (q := 0) (σ := σ12) (by decide)
    refine gB_det (s_ntz0 (d := d + 12)) ⟨_, rfl, gB_det s1 ⟨_, rfl, ?_⟩⟩
    have em : gw_min 64 (nI 0) = nI 0 := by decide
    rw [em]
    have gp : 0 < 2 ^ (4 * (D + 1)) := Nat.pow_pos (by decide)
    refine ⟨fun z2 => ⟨?_, fin⟩, fun z2 => ⟨?_, fin⟩⟩
    · rw [aLow, if_neg z2, Nat.gcd_zero_left, Nat.div_self gp]
      rfl
    · rw [aLow, if_pos z2, Nat.zero_div]
      rfl
