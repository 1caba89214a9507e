/-! corks -/
def simF (τ : gw_S) (w : Int32) (S0 : gw_S) (k : Nat) : gw_S := itN (fun D S => cDay (NB τ) (soT τ) τ w D S) k S0
theorem simF_s {τ : gw_S} {w : Int32} {S0 : gw_S} {k : Nat} : simF τ w S0 (k + 1) = cDay (NB τ) (soT τ) τ w k (simF τ w S0 k) := rfl
theorem simF_7 {τ : gw_S} {w : Int32} {S0 : gw_S} {a : Nat} (h0 : S0 7 a = 0) : ∀ k, (∀ D, D < k → ¬ τ 148 a = nI D) → simF τ w S0 k 7 a = 0
  | 0, _ => h0
  | k + 1, h => by
    rw [simF_s, cDay_7 (h k (by omega))]
    exact simF_7 h0 k (fun D hD => h D (by omega))
theorem simF_z {τ : gw_S} {w : Int32} {S0 : gw_S} (h0 : ∀ a, S0 7 a = 0) {K : Nat} (hK : K < 40) : ∀ a, a < nA τ → τ 148 a = nI K → simF τ w S0 K 7 a = 0 := fun a _ h => simF_7 (h0 a) K (fun D hD => by rw [h, nI_eq (by omega) (by omega)]; omega)
/-- the beginning, with the bottles of C corked -/
def bgC (τ : gw_S) (C : Nat → Bool) : gw_S := sBegin (NB τ) (Vt τ (-1) (-1)) (Mt τ (-1) (-1)) (fun b => if C b = true then 9 else Ct τ (-1) (-1) b)
def simC (τ : gw_S) (C : Nat → Bool) (k : Nat) : gw_S := simF τ (-1) (bgC τ C) k
theorem bgC_congr {τ : gw_S} {C C' : Nat → Bool} (h : ∀ b, b < NB τ → C b = C' b) : bgC τ C = bgC τ C' := sBegin_congr (fun b hb => ⟨rfl, rfl, by simp only [h b hb]⟩)
theorem bgC_0 {τ : gw_S} : bgC τ (fun _ => false) = simT τ 0 := rfl
theorem bgC_s {τ : gw_S} {C : Nat → Bool} {b : Nat} (hb : b < NB τ) : gw_u (bgC τ C) 2 b 9 = bgC τ (fun x => decide (x = b) || C x) := by
  funext k j
  rw [gw_at]
  unfold bgC sBegin
  by_cases hk : k = 2
  · subst hk
    by_cases e : j = b
    · subst e
      simp [hb]
    · by_cases hj : j < NB τ
      · simp [e, hj]
      · simp [e, hj]
  · rw [if_neg (fun q => hk q.1)]
    simp only [hk, if_false]
theorem VBC {τ : gw_S} (hw : WF τ) (C : Nat → Bool) : ∀ k, VB (NB τ) (simC τ C k)
  | 0 => by
    have hn := NB_le hw
    refine VB.beg hn (fun b hb => pM_ok hw (swp_lt hn (Or.inl ⟨rfl, rfl⟩) hb)) (fun b hb => pV_ok hw (swp_lt hn (Or.inl ⟨rfl, rfl⟩) hb)) (fun b hb => ?_)
    show ∃ c, c ≤ 9 ∧ (if C b = true then 9 else Ct τ (-1) (-1) b) = nI c
    split
    · exact ⟨9, Nat.le_refl _, rfl⟩
    · exact pC_ok hw (swp_lt hn (Or.inl ⟨rfl, rfl⟩) hb)
  | k + 1 => by
    show VB (NB τ) (cDay (NB τ) (soT τ) τ (-1) k (simC τ C k))
    unfold cDay
    exact VB.ends (VB.acts (NB_le hw) (VBC hw C k))
/-- whether the song is heard on a day, with the bottles of C corked -/
def sgC (τ : gw_S) (D : Nat) (C : Nat → Bool) : Bool := decide (lsF (spT τ (simC τ C (D + 1))) (NL τ) (NL τ) 0 < 1000000)
theorem sgC_congr {τ : gw_S} {D : Nat} {C C' : Nat → Bool} (h : ∀ b, b < NB τ → C b = C' b) : sgC τ D C = sgC τ D C' := by
  unfold sgC simC
  rw [bgC_congr h]
def bitC (x b : Nat) : Bool := x.testBit (7 - b)
def areB (n x : Nat) : Bool := x &&& (255 >>> n) == 0
theorem sh255 : ∀ n : Fin 9, (255 : Int32) >>> (nI n.val &&& 31) = nI (255 >>> n.val) := by decide
theorem s_areB {d x : Nat} {τ σ : gw_S} (hw : WF τ) (h : TC τ σ) (hx : x < 256) : gB d mX8_areBottles [.ref 0, .int (nI x)] σ (fun v σ' => v = some (.int (bi (areB (NB τ) x = true))) ∧ σ' = σ) := by
  have hn := NB_le hw
  have e74 : σ 7 4 = nI (NB τ) := h.1.2.2.2.2.2.2.1.1
  have l : x &&& (255 >>> NB τ) ≤ x := Nat.and_le_left
  have l2 : 255 >>> NB τ ≤ 255 := by rw [Nat.shiftRight_eq_div_pow]; exact Nat.div_le_self _ _
  refine eX8_areBottles ?_
  rw [e74, sh255 ⟨NB τ, by omega⟩, nI_and (by omega) (by show 255 >>> NB τ < 2 ^ 32; omega)]
  have iff : nI (x &&& (255 >>> NB τ)) = 0 ↔ areB (NB τ) x = true := by
    unfold areB
    rw [show (0 : Int32) = nI 0 from rfl, nI_eq (by omega) (by omega), beq_iff_eq]
  exact ⟨fun c => ⟨by rw [bi_f (fun q => c (iff.mpr q))], rfl⟩, fun c => ⟨by rw [bi_t (iff.mp c)], rfl⟩⟩
theorem s_amongN {d x b : Nat} {σ : gw_S} (hx : x < 256) (hb : b < 8) : gB d mX8_isAmong [.int (nI x), .int (nI b)] σ (fun v σ' => v = some (.int (bi (bitC x b = true))) ∧ σ' = σ) := by
  refine gB_det s_isAmong ⟨bi_sm ?_, rfl⟩
  rw [show (7 : Int32) = nI 7 from rfl, nI_sub (by omega)]
  exact tbn (by omega) (by omega)
theorem areB_in : ∀ n : Fin 9, ∀ b : Fin 8, n.val ≤ b.val → (255 >>> n.val).testBit (7 - b.val) = true := by decide
theorem areB_n {n x b : Nat} (hn : n ≤ 8) (h : areB n x = true) (hb : b < 8) (ht : bitC x b = true) : b < n := by
  by_cases q : b < n
  · exact q
  · have e := areB_in ⟨n, by omega⟩ ⟨b, hb⟩ (by show n ≤ b; omega)
    unfold areB at h
    rw [beq_iff_eq] at h
    have : (x &&& (255 >>> n)).testBit (7 - b) = true := by
      rw [Nat.testBit_and]
      simp only [bitC] at ht
      simp only at e
      rw [ht, e]
      rfl
    rw [h, Nat.zero_testBit] at this
    exact absurd this (by decide)
theorem FSt.tc {σ σ' : gw_S} {k : Nat} (h : FS k σ σ') (hk : 44 ≤ k) : FTc σ σ' := ⟨fun m _ _ _ _ _ _ => h m (by omega), fun j _ => by rw [h 17 (by omega)], by rw [h 0 (by omega)]⟩
/-- only the trial and the singer have changed -/
def FT (σ σ' : gw_S) : Prop := (∀ k, k ≠ 17 → k ≠ 19 → k ≠ 20 → k ≠ 21 → (k < 44 ∨ 52 ≤ k) → σ' k = σ k) ∧ ∀ j, j ≠ 5 → σ' 17 j = σ 17 j
theorem FT.rf {σ : gw_S} : FT σ σ := ⟨fun _ _ _ _ _ _ => rfl, fun _ _ => rfl⟩
theorem FT.tr {σ σ1 σ2 : gw_S} (h : FT σ σ1) (h2 : FT σ1 σ2) : FT σ σ2 := ⟨fun k a b c d e => (h2.1 k a b c d e).trans (h.1 k a b c d e), fun j a => (h2.2 j a).trans (h.2 j a)⟩
theorem FS.ft {σ σ' : gw_S} (h : FS 44 σ σ') : FT σ σ' := ⟨fun k _ _ _ _ e => h k (by omega), fun j _ => by rw [h 17 (by omega)]⟩
theorem FSg.ft {σ σ' : gw_S} (h : FSg σ σ') : FT σ σ' := ⟨fun k a b c d _ => h.1 k a b c d, h.2⟩
theorem FT.tc {σ σ' : gw_S} (h : FT σ σ') : FTc σ σ' := ⟨fun k _ e a b c d => h.1 k a b c d (by omega), h.2, by rw [h.1 0 (by decide) (by decide) (by decide) (by decide) (by decide)]⟩
theorem FT.cl {σ σ' : gw_S} (h : FT σ σ') : FCl σ σ' := fun k hk => h.1 k (by omega) (by omega) (by omega) (by omega) (by omega)
theorem FT.kp {σ σ' : gw_S} (h : FT σ σ') : KP σ σ' := by
  have e0 := h.1 0 (by decide) (by decide) (by decide) (by decide) (by decide)
  exact ⟨by rw [e0], by rw [e0], by rw [e0], fun m a b => h.1 m (by omega) (by omega) (by omega) (by omega) (by omega)⟩
theorem s_singsC {d x D : Nat} {τ σ : gw_S} (hw : WF τ) (h : TC τ σ) (hx : x < 256) (ha : areB (NB τ) x = true) (hD : D < 40) : gB (d + 11) mX8_singsCorked [.ref 0, .int (nI x), .int (nI D)] σ (fun v σ' => v = some (.int (bi (sgC τ D (bitC x) = true))) ∧ FT σ σ') := by
  have hn := NB_le hw
  refine eX8_singsCorked ((s_begin0 (d := d + 9) hw st_trial (by decide) h).mono ?_)
  rintro _ σ1 ⟨rfl, g1, g2, g3⟩
  refine ⟨rfl, ?_⟩
  have l51 : ∀ m k (r : gw_S), k + m = D + 1 → FT σ r → r 44 12 + 1 = nI k → Rp (NB τ) (soT τ) (simC τ (bitC x) k) (vw 44 r) → gG (d + 10 + 1) mX8_singsCorked 51 [some (.ref 0), none, some (.int (nI D)), some (.int (nI k))] [] r (fun v σ' => v = some (.int (bi (sgC τ D (bitC x) = true))) ∧ FT σ σ') := by
    intro m
    induction m with
    | zero =>
      intro k r hk hf hd hr
      have : k = D + 1 := by omega
      subst this
      have tr := h.fr hf.tc
      refine bX8_singsCorked_51 ⟨fun _ => (s_seekLeast (d := d) st_trial (by decide) hw tr.1.2.2.2.2.2.2.2 hr (VBC hw _ _)).mono ?_, fun q => absurd (nI_lt (by omega) (by omega)) q⟩
      rintro _ σ5 ⟨rfl, p1, -, p3⟩
      have ll := lsF_le (sp := spT τ (simC τ (bitC x) (D + 1))) (L := NL τ) (m := NL τ) (s := 0)
      refine ⟨rfl, fun q => ⟨?_, hf.tr p3.ft⟩, fun q => ⟨?_, hf.tr p3.ft⟩⟩
      · rw [bi_f]
        intro z
        unfold sgC at z
        rw [decide_eq_true_iff] at z
        rw [p1, aLays, if_pos z] at q
        exact nI_ne_m1 (by omega) q
      · rw [bi_t]
        unfold sgC
        rw [decide_eq_true_iff]
        refine Classical.byContradiction (fun z => q ?_)
        rw [p1, aLays, if_neg z]
    | succ m ih =>
      intro k r hk hf hd hr
      have tr := h.fr hf.tc
      refine bX8_singsCorked_51 ⟨fun q => absurd q (nI_nlt (by omega) (by omega)), fun _ => (s_passDay (d := d + 7) hw st_trial (by decide) tr.2.1 (show k < 40 by omega) hd (simF_z (fun a => rfl) (by omega)) hr).mono ?_⟩
      rintro _ σ6 ⟨rfl, p1, p2, p3⟩
      rw [nI_1]
      exact ⟨rfl, ih (k + 1) σ6 (by omega) (hf.tr p3.ft) (by rw [p2, nI_1]) p1⟩
  have l18 : ∀ m b (r : gw_S), b + m = 8 → FT σ r → r 44 12 = -1 → Rp (NB τ) (soT τ) (bgC τ (fun y => decide (y < b) && bitC x y)) (vw 44 r) → gG (d + 10 + 1) mX8_singsCorked 18 [some (.ref 0), some (.int (nI x)), some (.int (nI D)), some (.int (nI b))] [] r (fun v σ' => v = some (.int (bi (sgC τ D (bitC x) = true))) ∧ FT σ σ') := by
    intro m
    induction m with
    | zero =>
      intro b r hb hf hd hr
      have : b = 8 := by omega
      subst this
      refine bX8_singsCorked_18 ⟨fun _ => l51 (D + 1) 0 r (by omega) hf (by rw [hd]; rfl) ?_, fun q => absurd (by decide) q⟩
      rw [bgC_congr (C' := bitC x) (fun y hy => by simp [show y < 8 by omega])] at hr
      exact hr
    | succ m ih =>
      intro b r hb hf hd hr
      have hb8 : b < 8 := by omega
      refine bX8_singsCorked_18 ⟨fun q => absurd q (nI_ge (b := 8) hb8 (by decide)), fun _ => gB_det (s_amongN hx hb8) ⟨_, rfl, br_bj (fun c => ⟨vp_in_nI hb8 (by decide), fun s4 q4 => ?_⟩) (fun c => ?_)⟩⟩
      · rw [i_cl (show b < 2 ^ 31 by omega)] at q4
        rw [nI_1]
        have hbn := areB_n hn ha hb8 c
        refine ih (b + 1) s4 (by omega) ?_ ?_ ?_
        · rw [q4]; exact hf.tr (FS.ft (FS.u (k := 44) (i := 4) (by decide)))
        · rw [q4, gw_ne (by decide)]; exact hd
        · rw [q4]
          have e := Rp.ck (b := b) (t := 9) hr
          rw [bgC_s hbn] at e
          have : vw 44 (gw_u r 48 b 9) = gw_u (vw 44 r) 4 b 9 := vw_u (k := 44) (i := 4)
          rw [this]
          rw [bgC_congr (C' := fun y => decide (y < b + 1) && bitC x y) (fun y hy => by
            by_cases e1 : y = b
            · subst e1; simp [c]
            · have : (y < b + 1) = (y < b) := by apply propext; omega
              simp [e1, this])] at e
          exact e
      · rw [nI_1]
        refine ih (b + 1) r (by omega) hf hd ?_
        rw [bgC_congr (C' := fun y => decide (y < b + 1) && bitC x y) (fun y hy => by
            by_cases e1 : y = b
            · subst e1; simp at c; simp [c]
            · have : (y < b + 1) = (y < b) := by apply propext; omega
              simp [this])] at hr
        exact hr
  refine l18 8 0 σ1 (by omega) g3.ft g2 ?_
  rw [bgC_congr (C' := fun _ => false) (fun y hy => by simp)]
  exact g1
/-! the order in which corks are tried -/
def dsc (q : Nat → Bool) : Nat → Option Nat
  | 0 => none
  | m + 1 => if q m = true then some m else dsc q m
def qC (τ : gw_S) (D c x : Nat) : Bool := (pcN x 16 == c) && areB (NB τ) x && sgC τ D (bitC x)
def sks (τ : gw_S) (D : Nat) : Nat → Nat → Option Nat
  | 0, _ => none
  | m + 1, c => match dsc (qC τ D c) 256 with
    | some x => some x
    | none => sks τ D m (c + 1)
def oI (o : Option Nat) : Int32 := match o with
  | some x => nI x
  | none => -1
theorem s_seekC {d D : Nat} {τ σ : gw_S} (hw : WF τ) (h : TC τ σ) (hD : D < 40) : gB (d + 12) mX8_seekCorks [.ref 0, .int (nI D)] σ (fun v σ' => v = some (.int (oI (sks τ D 4 0))) ∧ FT σ σ') := by
  have key : ∀ m c (r : gw_S), c + m = 4 → FT σ r → (sks τ D 4 0 = sks τ D m c) → gG (d + 11 + 1) mX8_seekCorks 2 [some (.ref 0), some (.int (nI D)), some (.int (nI c)), none] [] r (fun v σ' => v = some (.int (oI (sks τ D 4 0))) ∧ FT σ σ') := by
    intro m
    induction m with
    | zero =>
      intro c r hc hf e
      have : c = 4 := by omega
      subst this
      exact bX8_seekCorks_2 ⟨fun _ => ⟨by rw [e]; rfl, hf⟩, fun q => absurd (by decide) q⟩
    | succ m ih =>
      intro c r hc hf e
      refine bX8_seekCorks_2 ⟨fun q => absurd q (nI_nlt (a := 3) (b := c) (by omega) (by omega)), fun _ => ?_⟩
      have l11 : ∀ x (r : gw_S), x ≤ 256 → FT σ r → dsc (qC τ D c) 256 = dsc (qC τ D c) x → gG (d + 11 + 1) mX8_seekCorks 11 [some (.ref 0), some (.int (nI D)), some (.int (nI c)), some (.int (nI x - 1))] [] r (fun v σ' => v = some (.int (oI (sks τ D 4 0))) ∧ FT σ σ') := by
        intro x
        induction x with
        | zero =>
          intro r hx hf e2
          refine bX8_seekCorks_11 ⟨fun _ => ?_, fun q => absurd (by decide) q⟩
          rw [nI_1]
          refine ih (c + 1) r (by omega) hf ?_
          rw [e]
          show (match dsc (qC τ D c) 256 with | some x => some x | none => sks τ D m (c + 1)) = _
          rw [e2]
          rfl
        | succ x ihx =>
          intro r hx hf e2
          have e1 : nI (x + 1) - 1 = nI x := nI_pred x
          have e3 : nI x + (-1) = nI x - 1 := (Int32.sub_eq_add_neg _ _).symm
          have tr := h.fr hf.tc
          have ed : dsc (qC τ D c) (x + 1) = if qC τ D c x = true then some x else dsc (qC τ D c) x := rfl
          rw [e1]
          refine bX8_seekCorks_11 ⟨fun q => absurd q (nI_pos (by omega)), fun _ => gB_det (s_bitCount (by omega)) ⟨_, rfl, ?_⟩⟩
          have p16 := pcN_n (s := x) 16
          have no : ∀ r, FT σ r → ¬ qC τ D c x = true → gG (d + 11 + 1) mX8_seekCorks 11 [some (.ref 0), some (.int (nI D)), some (.int (nI c)), some (.int (nI x - 1))] [] r (fun v σ' => v = some (.int (oI (sks τ D 4 0))) ∧ FT σ σ') := fun r hf q => ihx r (by omega) hf (by rw [e2, ed, if_neg q])
          rw [nI_eq (by omega) (by omega), e3]
          refine ⟨fun q => no r hf (fun z => ?_), fun q => gB_det (s_areB hw tr (by omega)) ⟨_, rfl, br_bj (fun q2 => (s_singsC (d := d) hw tr (by omega) q2 hD).mono ?_) (fun q2 => no r hf (fun z => ?_))⟩⟩
          · unfold qC at z
            rw [Bool.and_eq_true, Bool.and_eq_true, beq_iff_eq] at z
            exact q z.1.1
          · rintro _ σ5 ⟨rfl, p1⟩
            have f5 := hf.tr p1
            refine ⟨_, rfl, br_bj (fun q3 => ⟨?_, f5⟩) (fun q3 => no σ5 f5 (fun z => ?_))⟩
            · have hq : qC τ D c x = true := by
                unfold qC
                rw [q2, q3, q]
                simp
              rw [e]
              show _ = some (Value.int (oI (match dsc (qC τ D c) 256 with | some x => some x | none => sks τ D m (c + 1))))
              rw [e2, ed, if_pos hq]
              rfl
            · unfold qC at z
              rw [Bool.and_eq_true] at z
              exact q3 z.2
          · unfold qC at z
            rw [Bool.and_eq_true, Bool.and_eq_true] at z
            exact q2 z.1.2
      exact l11 256 r (Nat.le_refl _) hf rfl
  exact eX8_seekCorks (key 4 0 σ (by omega) FT.rf rfl)
