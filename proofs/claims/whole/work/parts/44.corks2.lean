def CK (τ σ : gw_S) : Prop := σ 0 11 = -1 ∨ ∃ D, D < 40 ∧ σ 0 11 = nI D ∧ σ 0 12 = oI (sks τ D 4 0)
/-- an answer of the class after which all stands -/
def QK (τ σ : gw_S) (A : Int32) : Option Value → gw_S → Prop := fun v σ' => v = some (.int A) ∧ TC τ σ' ∧ CN τ σ' ∧ CK τ σ' ∧ FCl σ σ'
def cAt (x i : Nat) : Nat → Nat → Nat → Int32
  | 0, _, _ => -1
  | m + 1, b, a => if bitC x b = true ∧ a = i then nI b else cAt x i m (b + 1) (a + if bitC x b = true then 1 else 0)
def aCor (o : Option Nat) (i : Int32) : Int32 := match o with
  | none => -1
  | some x => if i = -1 then nI (pcN x 16) else cAt x i.toNatClampNeg 8 0 0
def A_corks (τ : gw_S) (day i : Int32) : Int32 := if okD day ∧ (i = -1 ∨ ok3 i) then aCor (sks τ day.toNatClampNeg 4 0) i else -2
theorem dsc_lt {q : Nat → Bool} : ∀ {m x : Nat}, dsc q m = some x → x < m ∧ q x = true
  | 0, x, h => by simp [dsc] at h
  | m + 1, x, h => by
    unfold dsc at h
    split at h
    · rename_i c
      simp only [Option.some.injEq] at h
      subst h
      exact ⟨by omega, c⟩
    · have := dsc_lt h
      exact ⟨by omega, this.2⟩
theorem sks_lt {τ : gw_S} {D : Nat} : ∀ {m c x : Nat}, sks τ D m c = some x → x < 256
  | 0, c, x, h => by simp [sks] at h
  | m + 1, c, x, h => by
    unfold sks at h
    split at h
    · rename_i y e
      simp only [Option.some.injEq] at h
      subst h
      exact (dsc_lt e).1
    · exact sks_lt h
theorem s_corkedAt {d x i : Nat} {σ : gw_S} (hx : x < 256) (hi : i < 3) (h : σ 0 12 = nI x) : gB (d + 1) mX8_corkedAt [.ref 0, .int (nI i)] σ (fun v σ' => v = some (.int (cAt x i 8 0 0)) ∧ σ' = σ) := by
  have key : ∀ m b a, b + m = 8 → a ≤ b → gG (d + 1) mX8_corkedAt 4 [some (.ref 0), some (.int (nI i)), some (.int (nI a)), some (.int (nI b))] [] σ (fun v σ' => v = some (.int (cAt x i m b a)) ∧ σ' = σ) := by
    intro m
    induction m with
    | zero =>
      intro b a hb ha
      have : b = 8 := by omega
      subst this
      exact bX8_corkedAt_4 ⟨fun _ => ⟨rfl, rfl⟩, fun q => absurd (by decide) q⟩
    | succ m ih =>
      intro b a hb ha
      have hb8 : b < 8 := by omega
      refine bX8_corkedAt_4 ⟨fun q => absurd q (nI_ge (b := 8) hb8 (by decide)), fun _ => ?_⟩
      rw [h, nI_1 b, nI_1 a, Int32.add_zero, nI_eq (by omega) (by omega)]
      refine gB_det (s_amongN hx hb8) ⟨_, rfl, br_bj (fun c => ⟨fun c2 => ?_, fun c2 => ⟨?_, rfl⟩⟩) (fun c => ?_)⟩
      · rw [h]
        refine gB_det (s_amongN hx hb8) ⟨_, rfl, br_bj (fun c3 => ?_) (fun c3 => absurd c c3)⟩
        have := ih (b + 1) (a + 1) (by omega) (by omega)
        unfold cAt
        rw [if_neg (fun q => c2 q.2), if_pos c]
        exact this
      · unfold cAt
        rw [if_pos ⟨c, c2⟩]
      · rw [h]
        refine gB_det (s_amongN hx hb8) ⟨_, rfl, br_bj (fun c3 => absurd c3 c) (fun c3 => ?_)⟩
        have := ih (b + 1) a (by omega) (by omega)
        unfold cAt
        rw [if_neg (fun q => c q.1), if_neg c]
        exact this
  exact eX8_corkedAt (key 8 0 0 (by omega) (by omega))
theorem c_corks {d : Nat} {day i : Int32} {τ σ : gw_S} (hw : WF τ) (h : TC τ σ) (hc : CN τ σ) (hk : CK τ σ) : gB (d + 13) mX8_corks [.ref 0, .int day, .int i] σ (QK τ σ (A_corks τ day i)) := by
  have bad : ¬ (okD day ∧ (i = -1 ∨ ok3 i)) → QK τ σ (A_corks τ day i) (some (.int (-2))) σ := fun c => by
    rw [A_corks, if_neg c]
    exact ⟨rfl, h, hc, hk, FCl.rf⟩
  refine eX8_corks (gB_det s_isWithin ⟨_, rfl, br_bj (fun h1 => ?_) (fun h1 => bad (fun q => h1 q.1))⟩)
  obtain ⟨D, hD, rfl⟩ := okD_n h1
  have go : (i = -1 ∨ ok3 i) → gG (d + 12 + 1) mX8_corks 25 [some (.ref 0), some (.int (nI D)), some (.int i)] [] σ (QK τ σ (A_corks τ (nI D) i)) := by
    intro hi
    have eA : A_corks τ (nI D) i = aCor (sks τ D 4 0) i := by rw [A_corks, if_pos ⟨h1, hi⟩, i_cl (show D < 2 ^ 31 by omega)]
    rw [eA]
    -- the answer, from what was found
    have ans : ∀ r : gw_S, r 0 12 = oI (sks τ D 4 0) → TC τ r → CN τ r → CK τ r → FCl σ r → ((¬ (r 0 12) = (-1)) → (((¬ i = (-1)) → (gB (d + 12) mX8_corkedAt [.ref 0, .int i] r (fun v σ5 => ∃ r6 : Int32, v = some (.int r6) ∧ (QK τ σ (aCor (sks τ D 4 0) i) (some (.int r6)) σ5)))) ∧ ((i = (-1)) → (gB (d + 12) mJ6_bitCount_0f7a4 [.int (r 0 12)] r (fun v σ7 => ∃ r8 : Int32, v = some (.int r8) ∧ (QK τ σ (aCor (sks τ D 4 0) i) (some (.int r8)) σ7)))))) ∧ (((r 0 12) = (-1)) → (QK τ σ (aCor (sks τ D 4 0) i) (some (.int (-1))) r)) := by
      intro r e t1 t2 t3 t4
      cases hs : sks τ D 4 0 with
      | none =>
        have e' : r 0 12 = -1 := by rw [e, hs]; rfl
        exact ⟨fun q => absurd e' q, fun _ => ⟨rfl, t1, t2, t3, t4⟩⟩
      | some x =>
        have hx := sks_lt hs
        have e' : r 0 12 = nI x := by rw [e, hs]; rfl
        refine ⟨fun _ => ⟨fun c => ?_, fun c => ?_⟩, fun q => absurd (e'.symm.trans q) (nI_ne_m1 (by omega))⟩
        · obtain ⟨I, hI, rfl⟩ : ∃ I, I < 3 ∧ i = nI I := i_in (by decide) (hi.resolve_left c).1 (i_lt.mp (hi.resolve_left c).2)
          refine gB_det (s_corkedAt hx hI e') ⟨_, rfl, ?_, t1, t2, t3, t4⟩
          show _ = some (Value.int (if nI I = -1 then nI (pcN x 16) else cAt x (nI I).toNatClampNeg 8 0 0))
          rw [if_neg c, i_cl (show I < 2 ^ 31 by omega)]
        · rw [e']
          refine gB_det (s_bitCount (by omega)) ⟨_, rfl, ?_, t1, t2, t3, t4⟩
          show _ = some (Value.int (if i = -1 then nI (pcN x 16) else cAt x i.toNatClampNeg 8 0 0))
          rw [if_pos c]
    refine bX8_corks_25 ⟨fun c => ?_, fun c => (s_seekC (d := d) hw h hD).mono ?_⟩
    · have e12 : σ 0 12 = oI (sks τ D 4 0) := by
        rcases hk with q | ⟨D2, hD2, q1, q2⟩
        · rw [c] at q
          exact absurd q (nI_ne_m1 (by omega))
        · rw [c, nI_eq (by omega) (by omega)] at q1
          rw [q2, q1]
      exact ans σ e12 h hc hk FCl.rf
    · rintro _ σ9 ⟨rfl, p1⟩
      refine ⟨_, rfl, fun s11 q11 s12 q12 => ?_⟩
      have kk : ∀ k, k ≠ 0 → s12 k = σ9 k := fun k a => by rw [q12, gw_ne a, q11, gw_ne a]
      have k0 : ∀ j, j ≠ 11 → j ≠ 12 → s12 0 j = σ9 0 j := fun j a b => by rw [q12, gw_nj a, q11, gw_nj b]
      have e12 : s12 0 12 = oI (sks τ D 4 0) := by rw [q12, gw_nj (by decide), q11, gw_self]
      have e11 : s12 0 11 = nI D := by rw [q12, gw_self]
      refine ans s12 e12 ((h.fr p1.tc).fr ⟨fun k a _ _ _ _ _ => kk k (by omega), fun j _ => by rw [kk 17 (by decide)], k0 13 (by decide) (by decide)⟩) ?_ (Or.inr ⟨D, hD, e11, e12⟩) ?_
      · intro q
        rw [k0 10 (by decide) (by decide)] at q
        obtain ⟨K, z1, z2, z3⟩ := (hc.kp p1.kp) q
        exact ⟨K, z1, by rw [kk 36 (by decide)]; exact z2, z3.eqv (fun j hj => kk (36 + j) (by omega))⟩
      · exact p1.cl.tr (fun k hk => kk k (by omega))
  exact ⟨fun c => go (Or.inl c), fun c => gB_det s_isWithin ⟨_, rfl, br_bi (fun h3 => go (Or.inr h3)) (fun h3 => bad (fun q => q.2.elim c h3))⟩⟩
/-! the model's order is the same -/
def clF (l : List Nat) (x : Nat) : Bool := anyN (fun j => decide (x = l.getD j 0)) l.length
def fl {α : Type} (F : Nat → List α) : Nat → Nat → List α
  | 0, _ => []
  | m + 1, a => F a ++ fl F m (a + 1)
def bt (l : List Nat) : Nat := l.foldr (fun b s => 2 ^ (7 - b) ||| s) 0
def TL (n : Nat) : Nat → List (List Nat)
  | 0 => [[]]
  | 1 => fl (fun a => [[a]]) n 0
  | 2 => fl (fun a => fl (fun b => [[a, b]]) (n - (a + 1)) (a + 1)) n 0
  | _ => fl (fun a => fl (fun b => fl (fun c => [[a, b, c]]) (n - (b + 1)) (b + 1)) (n - (a + 1)) (a + 1)) n 0
def dnL (f : Nat → Bool) : Nat → List Nat
  | 0 => []
  | m + 1 => if f m = true then m :: dnL f m else dnL f m
theorem dsc_dn {f p : Nat → Bool} : ∀ m, dsc (fun x => f x && p x) m = (dnL f m).find? p
  | 0 => rfl
  | m + 1 => by
    unfold dsc dnL
    by_cases c : f m = true
    · rw [if_pos c]
      by_cases c2 : p m = true
      · rw [if_pos (by rw [c, c2]; rfl), List.find?_cons_of_pos c2]
      · rw [if_neg (by rw [c]; simpa using c2), List.find?_cons_of_neg (by simpa using c2), dsc_dn m]
    · rw [if_neg (by simp at c; simp [c]), if_neg c, dsc_dn m]
theorem ord_eq : ∀ n : Fin 9, ∀ c : Fin 4, (TL n.val c.val).map bt = dnL (fun x => (pcN x 16 == c.val) && areB n.val x) 256 := by decide +kernel
theorem tl_ok : ∀ n : Fin 9, ∀ c : Fin 4, (TL n.val c.val).all (fun l => (l.length == c.val) && (List.range 8).all (fun b => clF l b == bitC (bt l) b) && (pcN (bt l) 16 == c.val) && (List.range 3).all (fun i => decide (cAt (bt l) i 8 0 0 = if i < c.val then nI (l.getD i 0) else -1))) = true := by decide +kernel
