/-! market: a sale may stand at the day's end -/
theorem sale_at {n b : Nat} {t : Int32} {S : gw_S} {k j : Nat} : sSale n (some (b, t)) S k j = if k = 6 ∧ j = 1 then S 6 1 + bi (b < n ∧ ¬ S 1 b = t) else if b < n ∧ k = 1 ∧ j = b then t else S k j := by
  show gw_u (sSell n b t S) 6 1 (S 6 1 + bi (b < n ∧ ¬ S 1 b = t)) k j = _
  rw [gw_at]
  by_cases c : k = 6 ∧ j = 1
  · rw [if_pos c, if_pos c]
  · rw [if_neg c, if_neg c]
    unfold sSell
    by_cases hb : b < n
    · rw [if_pos hb, gw_at]
      by_cases e : k = 1 ∧ j = b
      · rw [if_pos e, if_pos ⟨hb, e⟩]
      · rw [if_neg e, if_neg (fun q => e q.2)]
    · rw [if_neg hb, if_neg (fun q => hb q.1)]
theorem sale_k {n : Nat} {o : Option (Nat × Int32)} {S : gw_S} {k : Nat} (h1 : k ≠ 1) (h6 : k ≠ 6) : sSale n o S k = S k := by
  cases o with
  | none => rfl
  | some q =>
    funext j
    rw [show q = (q.1, q.2) from rfl, sale_at, if_neg (fun z => h6 z.1), if_neg (fun z => h1 z.2.1)]
theorem sale_60 {n : Nat} {o : Option (Nat × Int32)} {S : gw_S} : sSale n o S 6 0 = S 6 0 := by
  cases o with
  | none => rfl
  | some q => rw [show q = (q.1, q.2) from rfl, sale_at, if_neg (by decide), if_neg (fun z => absurd z.2.1 (by decide))]
theorem sLk_sale {n c : Nat} {o : Option (Nat × Int32)} {S : gw_S} : sLk c (sSale n o S) = sSale n o (sLk c S) := by
  cases o with
  | none => rfl
  | some q =>
    obtain ⟨b, t⟩ := q
    have e0 : sSale n (some (b, t)) S 0 = S 0 := sale_k (by decide) (by decide)
    have e2 : sSale n (some (b, t)) S 2 = S 2 := sale_k (by decide) (by decide)
    have e60 : sSale n (some (b, t)) S 6 0 = S 6 0 := sale_60
    have e61 : sLk c S 6 1 = S 6 1 := rfl
    have e1 : sLk c S 1 = S 1 := rfl
    funext k j
    rw [sale_at, e61, e1]
    by_cases k0 : k = 0
    · subst k0
      rw [if_neg (by omega), if_neg (by omega)]
      unfold sLk
      simp only [if_true]
      rw [e0, e2]
    · by_cases k6 : k = 6
      · subst k6
        by_cases j1 : j = 1
        · subst j1
          rw [if_pos ⟨rfl, rfl⟩]
          show sSale n (some (b, t)) S 6 1 = _
          rw [sale_at, if_pos ⟨rfl, rfl⟩]
        · rw [if_neg (fun z => j1 z.2), if_neg (by omega)]
          unfold sLk
          simp only [show ¬ (6 : Nat) = 0 by decide, if_false, if_true]
          rw [e0, e2, e60]
          by_cases j0 : j = 0
          · subst j0; rfl
          · show upd (sSale n (some (b, t)) S 6) 0 _ j = upd (S 6) 0 _ j
            unfold upd
            rw [if_neg j0, if_neg j0, sale_at, if_neg (fun z => j1 z.2), if_neg (by omega)]
      · have el : ∀ T : gw_S, sLk c T k = T k := fun T => by unfold sLk; rw [if_neg k0, if_neg k6]
        rw [el, el, sale_at]
theorem sBu_sale {n c : Nat} {o : Option (Nat × Int32)} {S : gw_S} : sBu c (sSale n o S) = sSale n o (sBu c S) := by
  cases o with
  | none => rfl
  | some q =>
    obtain ⟨b, t⟩ := q
    have e0 : sSale n (some (b, t)) S 0 = S 0 := sale_k (by decide) (by decide)
    have e3 : sSale n (some (b, t)) S 3 = S 3 := sale_k (by decide) (by decide)
    have e5 : sSale n (some (b, t)) S 5 = S 5 := sale_k (by decide) (by decide)
    have e6 : sBu c S 6 = S 6 := rfl
    have e1 : sBu c S 1 = S 1 := rfl
    funext k j
    rw [sale_at, e6, e1]
    by_cases kk : k = 0 ∨ k = 3 ∨ k = 5
    · rw [if_neg (by omega), if_neg (by omega)]
      unfold sBu
      rcases kk with rfl | rfl | rfl
      · simp only [if_true]; rw [e0]
      · simp only [show ¬ (3 : Nat) = 0 by decide, if_false, if_true]; rw [e3]
      · simp only [show ¬ (5 : Nat) = 0 by decide, show ¬ (5 : Nat) = 3 by decide, if_false, if_true]; rw [e0, e5]
    · have el : ∀ T : gw_S, sBu c T k = T k := fun T => by unfold sBu; rw [if_neg (by omega), if_neg (by omega), if_neg (by omega)]
      rw [el, el, sale_at]
theorem sEnds_sale {n : Nat} {hot : Bool} {So : Nat → Bool} {bu : Int32} {o : Option (Nat × Int32)} : ∀ (m : Nat) (S : gw_S), sEnds hot So bu m (sSale n o S) = sSale n o (sEnds hot So bu m S)
  | 0, _ => rfl
  | m + 1, S => by
    have ih := sEnds_sale (n := n) (hot := hot) (So := So) (bu := bu) (o := o) m S
    have st : ∀ T : gw_S, sEnds hot So bu (m + 1) T = (if sEnds hot So bu m T 3 m = 0 then sEnds hot So bu m T else sEnd hot (So m) bu m (sEnds hot So bu m T)) := fun T => rfl
    rw [st, st, ih, sale_k (show (3 : Nat) ≠ 1 by decide) (by decide)]
    split
    · rfl
    · unfold sEnd
      rw [sLk_sale]
      have ea : alI (sSale n o (sLk m (sEnds hot So bu m S))) m = alI (sLk m (sEnds hot So bu m S)) m := by
        unfold alI
        rw [sale_k (show (0 : Nat) ≠ 1 by decide) (by decide)]
      rw [ea]
      split
      · rw [sBu_sale]
      · rfl
/-- the market's days -/
def mkS (τ : gw_S) (sl : Nat → Option (Nat × Int32)) : Nat → gw_S
  | 0 => simT τ 0
  | k + 1 => sSale (NB τ) (sl k) (cDay (NB τ) (soT τ) τ (-1) k (mkS τ sl k))
theorem mk_run {τ : gw_S} {sl : Nat → Option (Nat × Int32)} : ∀ k, sRun (NB τ, soT τ, τ, nA τ, -1, hotF τ, τ 1 9, 0, (fun _ => 0), sl) (Vt τ (-1) (-1)) (Mt τ (-1) (-1)) (Ct τ (-1) (-1)) k = mkS τ sl k
  | 0 => rfl
  | k + 1 => by
    show sDay _ k (sRun _ _ _ _ k) = mkS τ sl (k + 1)
    rw [mk_run k]
    show sEnds (hotF τ k) (soT τ) (τ 1 9) (NB τ) (sSale (NB τ) (sl k) (sMorn _ k (mkS τ sl k))) = _
    rw [sEnds_sale]
    show sSale (NB τ) (sl k) (sEnds (hotF τ k) (soT τ) (τ 1 9) (NB τ) (sActs (NB τ) τ (-1) (nI k) (nA τ) (if k = 0 then sAhead (NB τ) (fun _ => 0) 0 (mkS τ sl k) else mkS τ sl k))) = _
    have : (if k = 0 then sAhead (NB τ) (fun _ => 0) 0 (mkS τ sl k) else mkS τ sl k) = mkS τ sl k := by split <;> rfl
    rw [this]
    rfl
theorem sLk_61 {c : Nat} {S : gw_S} : sLk c S 6 1 = S 6 1 := rfl
theorem sEnds_61 {hot : Bool} {So : Nat → Bool} {bu : Int32} : ∀ (m : Nat) (S : gw_S), sEnds hot So bu m S 6 1 = S 6 1
  | 0, _ => rfl
  | m + 1, S => by
    show (if sEnds hot So bu m S 3 m = 0 then sEnds hot So bu m S else sEnd hot (So m) bu m (sEnds hot So bu m S)) 6 1 = S 6 1
    have ih := sEnds_61 (hot := hot) (So := So) (bu := bu) m S
    split
    · exact ih
    · unfold sEnd
      split
      · exact ih
      · exact ih
theorem aS_6 {n : Nat} {K : Int32} {b : Nat} {t : Int32} {S : gw_S} : aS n K b t S 6 = S 6 := by
  unfold aS sSell sCork
  repeat' split
  all_goals first | rfl | rw [gw_ne (by decide)]
theorem sActs_6 {n : Nat} {τ : gw_S} {w D : Int32} : ∀ (m : Nat) (S : gw_S), sActs n τ w D m S 6 = S 6
  | 0, _ => rfl
  | m + 1, S => by
    show sAct n τ w D m (sActs n τ w D m S) 6 = S 6
    have ih := sActs_6 (n := n) (τ := τ) (w := w) (D := D) m S
    unfold sAct
    split
    · rw [gw_ne (by decide), aS_6]; exact ih
    · exact ih
theorem cDay_61 {n : Nat} {So : Nat → Bool} {τ : gw_S} {w : Int32} {D : Nat} {S : gw_S} : cDay n So τ w D S 6 1 = S 6 1 := by
  unfold cDay
  rw [sEnds_61, sActs_6]
theorem mkS_7 {τ : gw_S} {sl : Nat → Option (Nat × Int32)} {a : Nat} : ∀ k, (∀ D, D < k → ¬ τ 148 a = nI D) → mkS τ sl k 7 a = 0
  | 0, _ => rfl
  | k + 1, h => by
    show sSale (NB τ) (sl k) (cDay (NB τ) (soT τ) τ (-1) k (mkS τ sl k)) 7 a = 0
    rw [sale_k (by decide) (by decide), cDay_7 (h k (by omega))]
    exact mkS_7 k (fun D hD => h D (by omega))
theorem mkS_z {τ : gw_S} {sl : Nat → Option (Nat × Int32)} {K : Nat} (hK : K < 40) : ∀ a, a < nA τ → τ 148 a = nI K → mkS τ sl K 7 a = 0 := fun a _ h => mkS_7 K (fun D hD => by rw [h, nI_eq (by omega) (by omega)]; omega)
/-! the lots -/
def nxL (x : Int32) : Int32 := 1103515245 * x + 12345
def ltS (seed : Int32) : Nat → Int32
  | 0 => seed
  | d + 1 => nxL (nxL (ltS seed d))
def lo16 (x : Int32) : Nat := x.toBitVec.toNat >>> 16
theorem lo16_e (x : Int32) : gw_ushr x 16 = nI (lo16 x) ∧ lo16 x < 65536 := by
  have hx : x.toBitVec.toNat < 2 ^ 32 := x.toBitVec.isLt
  have e : x = nI x.toBitVec.toNat := by
    apply Int32.toBitVec_inj.mp
    rw [nI_bv, BitVec.ofNat_toNat, BitVec.setWidth_eq]
  refine ⟨?_, ?_⟩
  · have := nI_ushr (a := x.toBitVec.toNat) (k := 16) hx (by decide)
    rw [← e] at this
    exact this
  · unfold lo16
    rw [Nat.shiftRight_eq_div_pow]
    omega
def sbN (seed : Int32) (n d : Nat) : Nat := lo16 (nxL (ltS seed d)) % n
def stN (seed : Int32) (d : Nat) : Nat := lo16 (nxL (nxL (ltS seed d))) % 6
theorem sb_e {seed : Int32} {n d : Nat} (hn : 0 < n) (hn8 : n ≤ 8) : gw_rem (gw_ushr (nxL (ltS seed d)) 16) (nI n) = nI (sbN seed n d) ∧ sbN seed n d < n := by
  obtain ⟨e, l⟩ := lo16_e (nxL (ltS seed d))
  rw [e, rem_nI (by omega) hn (by omega)]
  exact ⟨rfl, Nat.mod_lt _ hn⟩
theorem st_e {seed : Int32} {d : Nat} : gw_rem (gw_ushr (nxL (nxL (ltS seed d))) 16) 6 = nI (stN seed d) := by
  obtain ⟨e, l⟩ := lo16_e (nxL (nxL (ltS seed d)))
  rw [e, show (6 : Int32) = nI 6 from rfl, rem_nI (by omega) (by decide) (by decide)]
  rfl
def slM (τ : gw_S) (seed : Int32) (D d : Nat) : Option (Nat × Int32) := if 0 < NB τ ∧ d < D + 1 then some (sbN seed (NB τ) d, nI (stN seed d)) else none
def aMk (τ : gw_S) (seed : Int32) (D : Nat) (b : Int32) : Int32 := if b = -1 then mkS τ (slM τ seed D) (D + 1) 6 1 else mkS τ (slM τ seed D) (D + 1) 1 b.toNatClampNeg
def A_market (τ : gw_S) (seed day b : Int32) : Int32 := if okD day ∧ (b = -1 ∨ okB τ b) then aMk τ seed day.toNatClampNeg b else -2
theorem Rp.sale {n : Nat} {So : Nat → Bool} {S c : gw_S} {b : Nat} {t : Int32} (h : Rp n So (aS n (nI 0) b t S) c) : Rp n So (sSale n (some (b, t)) S) c := by
  have e : aS n (nI 0) b t S = sSell n b t S := by unfold aS; rw [if_pos (show nI 0 = 0 from rfl)]
  rw [e] at h
  have u : sSale n (some (b, t)) S = gw_u (sSell n b t S) 6 1 (S 6 1 + bi (b < n ∧ ¬ S 1 b = t)) := rfl
  rw [u]
  refine Rp.of h (fun x v _ _ => ?_) (fun x _ => ⟨?_, ?_, ?_⟩) (fun v _ => ⟨?_, ?_⟩) ?_ (fun a _ => ?_)
  · rw [gw_ne (by decide)]
  · rw [gw_ne (by decide)]
  · rw [gw_ne (by decide)]
  · rw [gw_ne (by decide)]
  · rw [gw_ne (by decide)]
  · rw [gw_ne (by decide)]
  · rw [gw_nj (by decide)]
  · rw [gw_ne (by decide)]
theorem mkS_n {τ : gw_S} {sl : Nat → Option (Nat × Int32)} (h : ∀ d, sl d = none) : ∀ k, mkS τ sl k = simT τ k ∧ mkS τ sl k 6 1 = 0
  | 0 => ⟨rfl, rfl⟩
  | k + 1 => by
    obtain ⟨h1, h2⟩ := mkS_n h k
    have e : mkS τ sl (k + 1) = cDay (NB τ) (soT τ) τ (-1) k (mkS τ sl k) := by
      show sSale (NB τ) (sl k) _ = _
      rw [h k]
      rfl
    refine ⟨?_, ?_⟩
    · rw [e, h1, simT_G, simT_G, simG_s]
    · rw [e, cDay_61]; exact h2
theorem c_market {d : Nat} {seed day b : Int32} {τ σ : gw_S} (hw : WF τ) (h : TC τ σ) (hc : CN τ σ) (hk : CK τ σ) : gB (d + 4) mX8_market [.ref 0, .int seed, .int day, .int b] σ (QK τ σ (A_market τ seed day b)) := by
  have hn := NB_le hw
  have e74 : σ 7 4 = nI (NB τ) := h.1.2.2.2.2.2.2.1.1
  have bad : ¬ (okD day ∧ (b = -1 ∨ okB τ b)) → QK τ σ (A_market τ seed day b) (some (.int (-2))) σ := fun c => QK.tr h hc hk FT.rf (by rw [A_market, if_neg c])
  refine eX8_market (gB_det s_isWithin ⟨_, rfl, br_bj (fun h1 => ?_) (fun h1 => bad (fun q => h1 q.1))⟩)
  obtain ⟨D, hD, rfl⟩ := okD_n h1
  rw [e74]
  have go : (b = -1 ∨ okB τ b) → gB (d + 3) mX3_begin [.ref 44, .ref 7, .int 0, .int 0] σ (fun v σ3 => v = none ∧ (gG (d + 3 + 1) mX8_market 62 [some (.ref 0), none, some (.int (nI D)), some (.int b), some (.int (nI (NB τ))), some (.int 0), some (.int seed), some (.int 0), none] [] σ3 (QK τ σ (A_market τ seed (nI D) b)))) := by
    intro hb
    have eA : A_market τ seed (nI D) b = aMk τ seed D b := by rw [A_market, if_pos ⟨h1, hb⟩, i_cl (show D < 2 ^ 31 by omega)]
    rw [eA]
    refine (s_begin0 (d := d + 2) hw st_trial (by decide) h).mono ?_
    rintro _ σ3 ⟨rfl, g1, g2, g3⟩
    refine ⟨rfl, ?_⟩
    -- the answer
    have ans : ∀ (r : gw_S) (x5 : Int32), FS 44 σ r → Rp (NB τ) (soT τ) (mkS τ (slM τ seed D) (D + 1)) (vw 44 r) → x5 = mkS τ (slM τ seed D) (D + 1) 6 1 → (((¬ b = (-1)) → (vp_in b 8 ∧ (QK τ σ (aMk τ seed D b) (some (.int (r 49 b.toNatClampNeg))) r))) ∧ ((b = (-1)) → (QK τ σ (aMk τ seed D b) (some (.int x5)) r))) := by
      intro r x5 hf hr hx
      refine ⟨fun c => ?_, fun c => QK.tr h hc hk hf.ft (by rw [aMk, if_pos c, hx])⟩
      obtain ⟨B, hB, rfl⟩ := okB_n hw (hb.resolve_left c)
      rw [i_cl (show B < 2 ^ 31 by omega)]
      refine ⟨vp_in_nI (by omega) (by decide), QK.tr h hc hk hf.ft ?_⟩
      rw [aMk, if_neg c, i_cl (show B < 2 ^ 31 by omega)]
      exact ((hr.2.2.2.2.1.1 B hB).1).symm
    by_cases hz : NB τ = 0
    · have e0 : ∀ d, slM τ seed D d = none := fun d => by unfold slM; rw [if_neg (by omega)]
      have m0 := mkS_n (τ := τ) e0 (D + 1)
      have nob : b = -1 := hb.elim id (fun q => by
        obtain ⟨B, hB, -⟩ := okB_n hw q
        omega)
      have an : (((¬ b = (-1)) → (vp_in b 8 ∧ (QK τ σ (aMk τ seed D b) (some (.int (σ3 49 b.toNatClampNeg))) σ3))) ∧ ((b = (-1)) → (QK τ σ (aMk τ seed D b) (some (.int 0)) σ3))) := ⟨fun c => absurd nob c, fun c => QK.tr h hc hk g3.ft (by rw [aMk, if_pos c, m0.2])⟩
      refine bX8_market_62 ?_
      rw [hz]
      exact ⟨fun _ => an, fun _ => ⟨fun _ => an, fun q => absurd (by decide) q⟩⟩
    · have hz0 : 0 < NB τ := by omega
      have key : ∀ m k (r : gw_S) (x5 : Int32), k + m = D + 1 → FS 44 σ r → r 44 12 + 1 = nI k → Rp (NB τ) (soT τ) (mkS τ (slM τ seed D) k) (vw 44 r) → x5 = mkS τ (slM τ seed D) k 6 1 → gG (d + 3 + 1) mX8_market 62 [some (.ref 0), none, some (.int (nI D)), some (.int b), some (.int (nI (NB τ))), some (.int x5), some (.int (ltS seed k)), some (.int (nI k)), none] [] r (QK τ σ (aMk τ seed D b)) := by
        intro m
        induction m with
        | zero =>
          intro k r x5 hk2 hf hd hr hx
          have : k = D + 1 := by omega
          subst this
          exact bX8_market_62 ⟨fun _ => ans r x5 hf hr hx, fun q => absurd (nI_lt (by omega) (by omega)) q⟩
        | succ m ih =>
          intro k r x5 hk2 hf hd hr hx
          have tr := h.fr hf.tcT
          obtain ⟨sb1, sb2⟩ := sb_e (seed := seed) (d := k) hz0 hn
          have es : slM τ seed D k = some (sbN seed (NB τ) k, nI (stN seed k)) := by unfold slM; rw [if_pos ⟨hz0, by omega⟩]
          refine bX8_market_62 ⟨fun q => absurd q (nI_nlt (by omega) (by omega)), fun _ => ⟨fun q => absurd q (nI_nle hz0 (by omega)), fun _ => (s_passDay (d := d) hw st_trial (by decide) tr.2.1 (show k < 40 by omega) hd (mkS_z (by omega)) hr).mono ?_⟩⟩
          rintro _ σ7 ⟨rfl, p1, p2, p3⟩
          refine ⟨rfl, gB_det s_nextSeed ⟨_, rfl, nI_ne0 hz0 (by omega), gB_det s_nextSeed ⟨_, rfl, ?_⟩⟩⟩
          have e1 : (1103515245 : Int32) * ltS seed k + 12345 = nxL (ltS seed k) := rfl
          have e2 : (1103515245 : Int32) * nxL (ltS seed k) + 12345 = nxL (nxL (ltS seed k)) := rfl
          rw [e1, e2, sb1, st_e]
          refine (s_doAct (d := d + 2) (K := 0) st_trial (by decide) (show sbN seed (NB τ) k < 8 by omega) (fun q => absurd q (by decide)) p1).mono ?_
          rintro _ σ12 ⟨rfl, t1, t2, t3⟩
          have f12 := hf.tr (p3.tr t3)
          have r12 : Rp (NB τ) (soT τ) (mkS τ (slM τ seed D) (k + 1)) (vw 44 σ12) := by
            show Rp _ _ (sSale (NB τ) (slM τ seed D k) _) _
            rw [es]
            exact t1.sale
          have ew : mkS τ (slM τ seed D) (k + 1) 6 1 = x5 + bi (sbN seed (NB τ) k < NB τ ∧ ¬ cDay (NB τ) (soT τ) τ (-1) k (mkS τ (slM τ seed D) k) 1 (sbN seed (NB τ) k) = nI (stN seed k)) := by
            show sSale (NB τ) (slM τ seed D k) _ 6 1 = _
            rw [es, sale_at, if_pos ⟨rfl, rfl⟩, cDay_61, hx]
          have ea : aF (NB τ) (nI 0) (sbN seed (NB τ) k) (nI (stN seed k)) (cDay (NB τ) (soT τ) τ (-1) k (mkS τ (slM τ seed D) k)) = bi (sbN seed (NB τ) k < NB τ ∧ ¬ cDay (NB τ) (soT τ) τ (-1) k (mkS τ (slM τ seed D) k) 1 (sbN seed (NB τ) k) = nI (stN seed k)) := by
            unfold aF
            rw [if_pos (show nI 0 = 0 from rfl)]
          have nd : σ12 44 12 + 1 = nI (k + 1) := by rw [t2, p2, nI_1]
          rw [ea, nI_1 k]
          refine ⟨_, rfl, br_bj (fun c => ?_) (fun c => ?_)⟩
          · refine ih (k + 1) σ12 _ (by omega) f12 nd r12 ?_
            rw [ew, bi_t c]
          · refine ih (k + 1) σ12 _ (by omega) f12 nd r12 ?_
            rw [ew, bi_f c, Int32.add_zero]
      exact key (D + 1) 0 σ3 0 (by omega) g3 (by rw [g2]; rfl) g1 rfl
  refine ⟨fun c => go (Or.inl c), fun c => gB_det s_isBottleC ?_⟩
  rw [e74]
  exact ⟨_, rfl, br_bi (fun h3 => go (Or.inr h3)) (fun h3 => bad (fun q => q.2.elim c h3))⟩
