/-! corks, in the model -/
theorem sDay_D {τ : gw_S} {na D : Nat} {ck : Nat → Nat} {S : gw_S} (hD : D ≠ 0) : sDay (NB τ, soT τ, τ, nA τ, -1, hotF τ, τ 1 9, na, ck, fun _ => none) D S = cDay (NB τ) (soT τ) τ (-1) D S := by
  unfold sDay sMorn cDay
  rw [if_neg hD]
  rfl
theorem ahead_bg {τ : gw_S} {ck : Nat → Nat} : ∀ m, (∀ j, j < m → ck j < NB τ) → sAhead (NB τ) ck m (bgC τ (fun _ => false)) = bgC τ (fun x => anyN (fun j => decide (x = ck j)) m)
  | 0, _ => rfl
  | m + 1, h => by
    show sCork (NB τ) (ck m) (sAhead (NB τ) ck m (bgC τ (fun _ => false))) = _
    rw [ahead_bg m (fun j hj => h j (by omega))]
    unfold sCork
    rw [if_pos (h m (by omega)), bgC_s (h m (by omega))]
    refine bgC_congr (fun b _ => ?_)
    show (decide (b = ck m) || anyN (fun j => decide (b = ck j)) m) = (anyN (fun j => decide (b = ck j)) m || decide (b = ck m))
    exact Bool.or_comm _ _
theorem sRun_C {τ : gw_S} {na : Nat} {ck : Nat → Nat} (h : ∀ j, j < na → ck j < NB τ) : ∀ k, sRun (NB τ, soT τ, τ, nA τ, -1, hotF τ, τ 1 9, na, ck, fun _ => none) (Vt τ (-1) (-1)) (Mt τ (-1) (-1)) (Ct τ (-1) (-1)) (k + 1) = simC τ (fun x => anyN (fun j => decide (x = ck j)) na) (k + 1)
  | 0 => by
    show sDay (NB τ, soT τ, τ, nA τ, -1, hotF τ, τ 1 9, na, ck, fun _ => none) 0 (bgC τ (fun _ => false)) = cDay (NB τ) (soT τ) τ (-1) 0 (bgC τ (fun x => anyN (fun j => decide (x = ck j)) na))
    rw [← ahead_bg na h]
    unfold sDay sMorn cDay
    rw [if_pos rfl]
    rfl
  | k + 1 => by
    show sDay _ (k + 1) (sRun _ _ _ _ (k + 1)) = cDay (NB τ) (soT τ) τ (-1) (k + 1) (simC τ _ (k + 1))
    rw [sRun_C h k, sDay_D (by omega)]
/-- as told, but for the corks ahead -/
def AC (τ σ : gw_S) : Prop := PMt τ σ ∧ σ 1 32 = -1 ∧ σ 1 33 = -1 ∧ σ 1 34 = -1 ∧ σ 1 19 = 0 ∧ ∀ d, d < 40 → σ 159 d = bi (hotF τ d = true)
theorem AT.ac {τ σ : gw_S} (h : AT τ σ) : AC τ σ := ⟨h.1, h.2.1, h.2.2.1, h.2.2.2.1, h.2.2.2.2.2.1, h.2.2.2.2.2.2⟩
theorem AC.fr {τ σ σ' : gw_S} {L J : List Nat} (h : AC τ σ) (hf : FM L J σ σ') (hL : 142 ∉ L ∧ 143 ∉ L ∧ 144 ∉ L ∧ 145 ∉ L ∧ 146 ∉ L) (hL2 : 159 ∉ L) (hJ : 2 ∉ J ∧ 7 ∉ J) (hJ2 : 32 ∉ J ∧ 33 ∉ J ∧ 34 ∉ J ∧ 19 ∉ J) : AC τ σ' := by
  obtain ⟨hp, h1, h2, h3, h5, h6⟩ := h
  refine ⟨hp.fr hf hL hJ, by rw [hf.2 32 hJ2.1]; exact h1, by rw [hf.2 33 hJ2.2.1]; exact h2, by rw [hf.2 34 hJ2.2.2.1]; exact h3, by rw [hf.2 19 hJ2.2.2.2]; exact h5, ?_⟩
  rw [hf.1 159 (by decide) hL2]
  exact h6
/-- three of a list -/
def in3 (l : List Nat) (x3 x4 x5 : Int32) : Prop := l.length ≤ 3 ∧ ∀ j, j < l.length → (if j = 0 then x3 else if j = 1 then x4 else x5) = nI (l.getD j 0)
def RsC (τ σ : gw_S) (l : List Nat) (σ' : gw_S) : Prop := AC τ σ' ∧ TM τ σ' ∧ FSc σ σ' ∧ ∀ j, j < l.length → σ' 152 j = nI (l.getD j 0)
theorem s_sings {d D : Nat} {l : List Nat} {x3 x4 x5 : Int32} {τ σ : gw_S} (hw : WF τ) (ht : TM τ σ) (ha : AC τ σ) (hD : D < 40) (hl : in3 l x3 x4 x5) (hb : ∀ j, j < l.length → l.getD j 0 < NB τ) : gB (d + 4) mX9_sings [.ref 1, .int (nI D), .int (nI l.length), .int x3, .int x4, .int x5] σ (fun v σ' => v = some (.int (bi (sgC τ D (clF l) = true))) ∧ RsC τ σ l σ') := by
  have hn := NB_le hw
  refine eX9_sings (fun s1 q1 s2 q2 s3 q3 s4 q4 => ?_)
  rw [show (0 : Int32).toNatClampNeg = 0 from rfl] at q2
  rw [show (1 : Int32).toNatClampNeg = 1 from rfl] at q3
  rw [show (2 : Int32).toNatClampNeg = 2 from rfl] at q4
  have f4 : FM [152] [17] σ s4 := by
    rw [q4, q3, q2, q1]
    exact (((FM.u (by decide)).tr (FM.u (by decide))).tr (FM.u (by decide))).tr (FM.u (by decide))
  have a4 := ha.fr f4 (by decide) (by decide) (by decide) (by decide)
  have t4 := ht.frL f4 (by decide) (by decide)
  have c4 : ∀ j, j < l.length → s4 152 j = nI (l.getD j 0) := fun j hj => by
    rw [← hl.2 j hj, q4, q3, q2]
    have : j = 0 ∨ j = 1 ∨ j = 2 := by have := hl.1; omega
    rcases this with rfl | rfl | rfl <;> simp [gw_at]
  have v17 : s4 1 17 = nI l.length := by rw [q4, gw_ne (by decide), q3, gw_ne (by decide), q2, gw_ne (by decide), q1, gw_self]
  have hr := mkRun (na := l.length) (ck := fun j => l.getD j 0) (sl := fun _ => none) (h := hotF τ) hw t4 a4.1 a4.2.1 a4.2.2.1 a4.2.2.2.1 (Or.inl ⟨rfl, rfl⟩) a4.2.2.2.2.2 ⟨v17, hl.1, fun k hk => ⟨c4 k hk, by have := hb k hk; omega⟩⟩ ⟨0, by omega, a4.2.2.2.2.1, fun d hd => ⟨fun q => by omega, fun _ => rfl⟩⟩
  refine (s_runs (d := d) hD hr.1 hr.2).mono ?_
  rintro _ σ5 ⟨rfl, g1, g2⟩
  have er : sRun (NB τ, soT τ, τ, nA τ, -1, hotF τ, τ 1 9, l.length, (fun j => l.getD j 0), fun _ => none) (Vt τ (-1) (-1)) (Mt τ (-1) (-1)) (Ct τ (-1) (-1)) (D + 1) = simC τ (clF l) (D + 1) := sRun_C hb D
  have g1' : MS (simC τ (clF l) (D + 1)) σ5 := by rw [← er]; exact g1
  have a5 := a4.fr g2.fm (by decide) (by decide) (by decide) (by decide)
  have t5 := t4.frL g2.fm (by decide) (by decide)
  have ms := mkMSo hw a5.1 g1' (VBC hw _ _)
  refine ⟨rfl, (s_lays (d := d + 1) ms).mono ?_⟩
  rintro _ σ6 ⟨rfl, -, p2⟩
  have ll : lsF (spT τ (simC τ (clF l) (D + 1))) (NL τ) (NL τ) 0 ≤ 1000000 := lsF_le
  have fin : RsC τ σ l σ6 := by
    refine ⟨a5.fr p2 (by decide) (by decide) (by decide) (by decide), t5.frL p2 (by decide) (by decide), ((f4.wk (by decide) (by decide)).tr (g2.fm.wk (by decide) (by decide))).tr p2.c163, fun j hj => ?_⟩
    rw [p2.1 152 (by decide) (by decide), g2.fm.1 152 (by decide) (by decide)]
    exact c4 j hj
  refine ⟨_, rfl, fun c => ⟨?_, fin⟩, fun c => ⟨?_, fin⟩⟩
  · rw [bi_f]
    intro z
    unfold sgC at z
    rw [decide_eq_true_iff] at z
    have c' : aLays (spT τ (simC τ (clF l) (D + 1))) (NL τ) = -1 := c
    rw [aLays, if_pos z] at c'
    exact nI_ne_m1 (by omega) c'
  · rw [bi_t]
    unfold sgC
    rw [decide_eq_true_iff]
    exact Classical.byContradiction (fun z => c (if_neg z))
/-- the corks that the model finds -/
def mCk (τ : gw_S) (D : Nat) : Option (List Nat) := (((TL (NB τ) 0).find? (fun l => sgC τ D (clF l))).or (((TL (NB τ) 1).find? (fun l => sgC τ D (clF l))).or (((TL (NB τ) 2).find? (fun l => sgC τ D (clF l))).or ((TL (NB τ) 3).find? (fun l => sgC τ D (clF l))))))
def oL (o : Option (List Nat)) : Int32 := match o with
  | none => -1
  | some l => nI l.length
def PCk (τ σ : gw_S) (o : Option (List Nat)) : Option Value → gw_S → Prop := fun v σ' => v = some (.int (oL o)) ∧ TM τ σ' ∧ FSc σ σ' ∧ ∀ l, o = some l → ∀ j, j < l.length → σ' 152 j = nI (l.getD j 0)
theorem fl_s {p : List Nat → Bool} {F : Nat → List (List Nat)} {m a : Nat} {R : Option (List Nat)} : ((fl F (m + 1) a).find? p).or R = ((F a).find? p).or (((fl F m (a + 1)).find? p).or R) := by
  show ((F a ++ fl F m (a + 1)).find? p).or R = _
  rw [List.find?_append, Option.or_assoc]
theorem find1_t {p : List Nat → Bool} {l : List Nat} {R : Option (List Nat)} (h : p l = true) : ([l].find? p).or R = some l := by
  rw [List.find?_cons_of_pos h]; rfl
theorem find1_f {p : List Nat → Bool} {l : List Nat} {R : Option (List Nat)} (h : ¬ p l = true) : ([l].find? p).or R = R := by
  rw [List.find?_cons_of_neg (by simpa using h)]; rfl
theorem s_corksBy {d D : Nat} {τ σ : gw_S} (hw : WF τ) (h : TM τ σ) (hD : D < 40) : gB (d + 6) mX9_corksBy [.ref 1, .int (nI D)] σ (PCk τ σ (mCk τ D)) := by
  have hn := NB_le hw
  refine eX9_corksBy ((s_asTold hw h).mono ?_)
  rintro _ σ1 ⟨rfl, k1, k2⟩
  have t1 := h.frL k2 (by decide) (by decide)
  have f1 : FSc σ σ1 := k2.wk (by decide) (by decide)
  have I : ∀ r l, FSc σ σ1 → RsC τ σ1 l r → AC τ r ∧ TM τ r ∧ FSc σ r := fun r l a b => ⟨b.1, b.2.1, a.tr b.2.2.1⟩
  have nb : ∀ r, AC τ r → r 1 2 = nI (NB τ) := fun r a => a.1.1
  -- three corks
  have l123 : ∀ a b R, b < NB τ → a < NB τ → (∀ r, AC τ r ∧ TM τ r ∧ FSc σ r → gG (d + 5 + 1) mX9_corksBy 110 [some (.ref 1), some (.int (nI D)), some (.int (nI a)), some (.int (nI (b + 1))), none] [] r (PCk τ σ R)) → ∀ m c r, c + m = NB τ → AC τ r ∧ TM τ r ∧ FSc σ r → gG (d + 5 + 1) mX9_corksBy 123 [some (.ref 1), some (.int (nI D)), some (.int (nI a)), some (.int (nI b)), some (.int (nI c))] [] r (PCk τ σ (((fl (fun c => [[a, b, c]]) m c).find? (fun l => sgC τ D (clF l))).or R)) := by
    intro a b R hb ha hR m
    induction m with
    | zero =>
      intro c r hc hr
      refine bX9_corksBy_123 ?_
      rw [nb r hr.1, nI_1]
      exact ⟨fun _ => hR r hr, fun q => absurd (nI_le (by omega) (by omega)) q⟩
    | succ m ih =>
      intro c r hc hr
      refine bX9_corksBy_123 ?_
      rw [nb r hr.1, nI_1 c]
      refine ⟨fun q => absurd q (nI_ge (by omega) (by omega)), fun _ => (s_sings (d := d + 1) (l := [a, b, c]) hw hr.2.1 hr.1 hD ⟨by simp, fun j hj => ?_⟩ (fun j hj => ?_)).mono ?_⟩
      · have : j = 0 ∨ j = 1 ∨ j = 2 := by simp at hj; omega
        rcases this with rfl | rfl | rfl <;> rfl
      · have : j = 0 ∨ j = 1 ∨ j = 2 := by simp at hj; omega
        rcases this with rfl | rfl | rfl
        · exact ha
        · exact hb
        · show c < NB τ; omega
      · rintro _ σ8 ⟨rfl, p⟩
        rw [fl_s]
        refine ⟨_, rfl, br_bj (fun z => ?_) (fun z => ?_)⟩
        · rw [find1_t z]
          exact ⟨rfl, p.2.1, hr.2.2.tr p.2.2.1, fun l e => by rw [← Option.some.inj e]; exact p.2.2.2⟩
        · rw [find1_f z]
          exact ih (c + 1) σ8 (by omega) ⟨p.1, p.2.1, hr.2.2.tr p.2.2.1⟩
  have l110 : ∀ a R, a < NB τ → (∀ r, AC τ r ∧ TM τ r ∧ FSc σ r → gG (d + 5 + 1) mX9_corksBy 98 [some (.ref 1), some (.int (nI D)), some (.int (nI (a + 1))), none, none] [] r (PCk τ σ R)) → ∀ m b r, b + m = NB τ → AC τ r ∧ TM τ r ∧ FSc σ r → gG (d + 5 + 1) mX9_corksBy 110 [some (.ref 1), some (.int (nI D)), some (.int (nI a)), some (.int (nI b)), none] [] r (PCk τ σ (((fl (fun b => fl (fun c => [[a, b, c]]) (NB τ - (b + 1)) (b + 1)) m b).find? (fun l => sgC τ D (clF l))).or R)) := by
    intro a R ha hR m
    induction m with
    | zero =>
      intro b r hb hr
      refine bX9_corksBy_110 ?_
      rw [nb r hr.1, nI_1 a]
      exact ⟨fun _ => hR r hr, fun q => absurd (nI_le (by omega) (by omega)) q⟩
    | succ m ih =>
      intro b r hb hr
      refine bX9_corksBy_110 ?_
      rw [nb r hr.1, nI_1 b]
      refine ⟨fun q => absurd q (nI_ge (by omega) (by omega)), fun _ => ?_⟩
      rw [fl_s]
      exact l123 a b _ (by omega) ha (fun r hr => ih (b + 1) r (by omega) hr) _ (b + 1) r (by omega) hr
  have l98 : ∀ m a r, a + m = NB τ → AC τ r ∧ TM τ r ∧ FSc σ r → gG (d + 5 + 1) mX9_corksBy 98 [some (.ref 1), some (.int (nI D)), some (.int (nI a)), none, none] [] r (PCk τ σ (((fl (fun a => fl (fun b => fl (fun c => [[a, b, c]]) (NB τ - (b + 1)) (b + 1)) (NB τ - (a + 1)) (a + 1)) m a).find? (fun l => sgC τ D (clF l))).or none)) := by
    intro m
    induction m with
    | zero =>
      intro a r ha hr
      refine bX9_corksBy_98 ?_
      rw [nb r hr.1]
      exact ⟨fun _ => ⟨rfl, hr.2.1, hr.2.2, fun l e => by simp [fl] at e⟩, fun q => absurd (nI_le (by omega) (by omega)) q⟩
    | succ m ih =>
      intro a r ha hr
      refine bX9_corksBy_98 ?_
      rw [nb r hr.1, nI_1 a]
      refine ⟨fun q => absurd q (nI_ge (by omega) (by omega)), fun _ => ?_⟩
      rw [fl_s]
      exact l110 a _ (by omega) (fun r hr => ih (a + 1) r (by omega) hr) _ (a + 1) r (by omega) hr
  -- two corks
  have l62 : ∀ a R, a < NB τ → (∀ r, AC τ r ∧ TM τ r ∧ FSc σ r → gG (d + 5 + 1) mX9_corksBy 50 [some (.ref 1), some (.int (nI D)), some (.int (nI (a + 1))), none, none] [] r (PCk τ σ R)) → ∀ m b r, b + m = NB τ → AC τ r ∧ TM τ r ∧ FSc σ r → gG (d + 5 + 1) mX9_corksBy 62 [some (.ref 1), some (.int (nI D)), some (.int (nI a)), some (.int (nI b)), none] [] r (PCk τ σ (((fl (fun b => [[a, b]]) m b).find? (fun l => sgC τ D (clF l))).or R)) := by
    intro a R ha hR m
    induction m with
    | zero =>
      intro b r hb hr
      refine bX9_corksBy_62 ?_
      rw [nb r hr.1, nI_1 a]
      exact ⟨fun _ => hR r hr, fun q => absurd (nI_le (by omega) (by omega)) q⟩
    | succ m ih =>
      intro b r hb hr
      refine bX9_corksBy_62 ?_
      rw [nb r hr.1, nI_1 b]
      refine ⟨fun q => absurd q (nI_ge (by omega) (by omega)), fun _ => (s_sings (d := d + 1) (l := [a, b]) hw hr.2.1 hr.1 hD ⟨by simp, fun j hj => ?_⟩ (fun j hj => ?_)).mono ?_⟩
      · have : j = 0 ∨ j = 1 := by simp at hj; omega
        rcases this with rfl | rfl <;> rfl
      · have : j = 0 ∨ j = 1 := by simp at hj; omega
        rcases this with rfl | rfl
        · exact ha
        · show b < NB τ; omega
      · rintro _ σ8 ⟨rfl, p⟩
        rw [fl_s]
        refine ⟨_, rfl, br_bj (fun z => ?_) (fun z => ?_)⟩
        · rw [find1_t z]
          exact ⟨rfl, p.2.1, hr.2.2.tr p.2.2.1, fun l e => by rw [← Option.some.inj e]; exact p.2.2.2⟩
        · rw [find1_f z]
          exact ih (b + 1) σ8 (by omega) ⟨p.1, p.2.1, hr.2.2.tr p.2.2.1⟩
  have l50 : ∀ R, (∀ r, AC τ r ∧ TM τ r ∧ FSc σ r → gG (d + 5 + 1) mX9_corksBy 98 [some (.ref 1), some (.int (nI D)), some (.int (nI 0)), none, none] [] r (PCk τ σ R)) → ∀ m a r, a + m = NB τ → AC τ r ∧ TM τ r ∧ FSc σ r → gG (d + 5 + 1) mX9_corksBy 50 [some (.ref 1), some (.int (nI D)), some (.int (nI a)), none, none] [] r (PCk τ σ (((fl (fun a => fl (fun b => [[a, b]]) (NB τ - (a + 1)) (a + 1)) m a).find? (fun l => sgC τ D (clF l))).or R)) := by
    intro R hR m
    induction m with
    | zero =>
      intro a r ha hr
      refine bX9_corksBy_50 ?_
      rw [nb r hr.1]
      exact ⟨fun _ => hR r hr, fun q => absurd (nI_le (by omega) (by omega)) q⟩
    | succ m ih =>
      intro a r ha hr
      refine bX9_corksBy_50 ?_
      rw [nb r hr.1, nI_1 a]
      refine ⟨fun q => absurd q (nI_ge (by omega) (by omega)), fun _ => ?_⟩
      rw [fl_s]
      exact l62 a _ (by omega) (fun r hr => ih (a + 1) r (by omega) hr) _ (a + 1) r (by omega) hr
  -- one cork
  have l20 : ∀ R, (∀ r, AC τ r ∧ TM τ r ∧ FSc σ r → gG (d + 5 + 1) mX9_corksBy 50 [some (.ref 1), some (.int (nI D)), some (.int (nI 0)), none, none] [] r (PCk τ σ R)) → ∀ m a r, a + m = NB τ → AC τ r ∧ TM τ r ∧ FSc σ r → gG (d + 5 + 1) mX9_corksBy 20 [some (.ref 1), some (.int (nI D)), some (.int (nI a)), none, none] [] r (PCk τ σ (((fl (fun a => [[a]]) m a).find? (fun l => sgC τ D (clF l))).or R)) := by
    intro R hR m
    induction m with
    | zero =>
      intro a r ha hr
      refine bX9_corksBy_20 ?_
      rw [nb r hr.1]
      exact ⟨fun _ => hR r hr, fun q => absurd (nI_le (by omega) (by omega)) q⟩
    | succ m ih =>
      intro a r ha hr
      refine bX9_corksBy_20 ?_
      rw [nb r hr.1, nI_1 a]
      refine ⟨fun q => absurd q (nI_ge (by omega) (by omega)), fun _ => (s_sings (d := d + 1) (l := [a]) hw hr.2.1 hr.1 hD ⟨by simp, fun j hj => ?_⟩ (fun j hj => ?_)).mono ?_⟩
      · have : j = 0 := by simp at hj; omega
        subst this; rfl
      · have : j = 0 := by simp at hj; omega
        subst this
        show a < NB τ; omega
      · rintro _ σ8 ⟨rfl, p⟩
        rw [fl_s]
        refine ⟨_, rfl, br_bj (fun z => ?_) (fun z => ?_)⟩
        · rw [find1_t z]
          exact ⟨rfl, p.2.1, hr.2.2.tr p.2.2.1, fun l e => by rw [← Option.some.inj e]; exact p.2.2.2⟩
        · rw [find1_f z]
          exact ih (a + 1) σ8 (by omega) ⟨p.1, p.2.1, hr.2.2.tr p.2.2.1⟩
  refine ⟨rfl, (s_sings (d := d + 1) (l := []) hw t1 k1.ac hD ⟨by simp, fun j hj => by simp at hj⟩ (fun j hj => by simp at hj)).mono ?_⟩
  rintro _ σ2 ⟨rfl, p⟩
  refine ⟨_, rfl, br_bj (fun z => ?_) (fun z => ?_)⟩
  · show PCk τ σ (([[]].find? _).or _) _ _
    rw [find1_t z]
    exact ⟨rfl, p.2.1, f1.tr p.2.2.1, fun l e => by rw [← Option.some.inj e]; exact p.2.2.2⟩
  · show gG _ _ _ _ _ _ (PCk τ σ (([[]].find? _).or _))
    rw [find1_f z]
    refine l20 _ (fun r hr => l50 _ (fun r hr => ?_) (NB τ) 0 r (by omega) hr) (NB τ) 0 σ2 (by omega) ⟨p.1, p.2.1, f1.tr p.2.2.1⟩
    have := l98 (NB τ) 0 r (by omega) hr
    rw [Option.or_none] at this
    exact this
