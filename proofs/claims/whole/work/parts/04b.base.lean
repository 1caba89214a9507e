/-- the tables' words that hold wherever a method begins -/
def gw_tb : List Cond := lw_tbl.filter goodWord
theorem gw_in {w : Cond} (h : w ∈ lw_tbl) (hg : goodWord w = true) : w ∈ gw_tb := List.mem_filter.mpr ⟨h, hg⟩
theorem gw_good {c c' : Cond} (h : c' ∈ gw_tb) : GoodIn (c :: gw_tb) (c' :: gw_tb) := by
  intro w hw
  have h1 : w ∈ gw_tb := (List.mem_cons.mp hw).elim (fun e => e ▸ h) id
  exact ⟨List.mem_cons_of_mem _ h1, good_of_word (List.mem_filter.mp h1).2⟩
theorem gw_goodT {c' : Cond} (h : c' ∈ gw_tb) : GoodIn gw_tb (c' :: gw_tb) := by
  intro w hw
  have h1 : w ∈ gw_tb := (List.mem_cons.mp hw).elim (fun e => e ▸ h) id
  exact ⟨h1, good_of_word (List.mem_filter.mp h1).2⟩
/-! The world as numbers: σ k j is the j-th slot of cell k; references are fixed by the shape. -/
abbrev gw_S : Type := Nat → Nat → Int32
def gw_u (σ : gw_S) (k j : Nat) (v : Int32) : gw_S := fun k' => if k' = k then upd (σ k) j v else σ k'
/-- a value with a cell's number in place of its address -/
def gw_v (ad : Nat → Nat) : Value → Value
  | .ref k => .ref (ad k)
  | .int x => .int x
  | .long x => .long x
  | .float x => .float x
  | .double x => .double x
  | .null => .null
  | .retAddr x => .retAddr x
theorem gw_v_cat (ad : Nat → Nat) (v : Value) : (gw_v ad v).category = v.category := by cases v <;> rfl
def gw_sv (ad : Nat → Nat) (f : Nat → Int32) (j : Nat) : Option Nat → Value
  | none => .int (f j)
  | some k => .ref (ad k)
def gw_ob (ad : Nat → Nat) (f : Nat → Int32) (sl : List (Option Nat)) : List Value := (List.range sl.length).map (fun j => gw_sv ad f j (sl[j]?.getD none))
def gw_e (ad : Nat → Nat) (dA : Nat → ClassId) (f : Nat → Int32) (k : Nat) : gw_K → va_E
  | .inl (_, n) => .inl (dA k, n, .inl f)
  | .inr (.inl (_, ks)) => .inl (dA k, ks.length, .inr (.inr (.inr (.inr (fun i => (ks[i]?).map ad)))))
  | .inr (.inr (ci, sl)) => .inr (ci, gw_ob ad f sl)
def gw_wl (ad : Nat → Nat) (dA : Nat → ClassId) (σ : gw_S) : va_W := (List.range gw_sh.length).map (fun k => (ad k, gw_e ad dA (σ k) k ((gw_k k).getD (.inl (.int, 0)))))
theorem gw_lt {k : Nat} {q : gw_K} (h : gw_k k = some q) : k < gw_sh.length := (List.getElem?_eq_some_iff.mp h).1
theorem gw_wl_at {ad : Nat → Nat} {dA : Nat → ClassId} {σ : gw_S} {k : Nat} {q : gw_K} (h : gw_k k = some q) : (gw_wl ad dA σ)[k]? = some (ad k, gw_e ad dA (σ k) k q) := by
  unfold gw_wl
  rw [List.getElem?_map, List.getElem?_range (gw_lt h)]
  simp [h]
theorem gw_wl_set {ad : Nat → Nat} {dA : Nat → ClassId} {σ σ' : gw_S} {k : Nat} {q : gw_K} {e : va_E} (h : gw_k k = some q) (he : gw_e ad dA (σ' k) k q = e) (ho : ∀ k', k' ≠ k → σ' k' = σ k') : (gw_wl ad dA σ).set k (ad k, e) = gw_wl ad dA σ' := by
  apply List.ext_getElem?
  intro j
  by_cases hj : j = k
  · subst hj
    rw [gw_wl_at h, List.getElem?_set_self (by unfold gw_wl; simpa using gw_lt h), he]
  · rw [List.getElem?_set_ne (Ne.symm hj)]
    unfold gw_wl
    by_cases hl : j < gw_sh.length
    · rw [List.getElem?_map, List.getElem?_map, List.getElem?_range hl]
      simp [ho j hj]
    · rw [List.getElem?_eq_none (by simpa using Nat.not_lt.mp hl), List.getElem?_eq_none (by simpa using Nat.not_lt.mp hl)]
theorem gw_ob_at {ad : Nat → Nat} {f : Nat → Int32} {sl : List (Option Nat)} {j : Nat} {o : Option Nat} (h : sl[j]? = some o) : (gw_ob ad f sl)[j]? = some (gw_sv ad f j o) := by
  unfold gw_ob
  rw [List.getElem?_map, List.getElem?_range (List.getElem?_eq_some_iff.mp h).1]
  simp [h]
theorem gw_ob_len {ad : Nat → Nat} {f : Nat → Int32} {sl : List (Option Nat)} : (gw_ob ad f sl).length = sl.length := by simp [gw_ob]
theorem gw_ob_set {ad : Nat → Nat} {f : Nat → Int32} {sl : List (Option Nat)} {j : Nat} {v : Int32} (h : sl[j]? = some none) : gw_ob ad (upd f j v) sl = (gw_ob ad f sl).set j (.int v) := by
  apply List.ext_getElem?
  intro i
  have hjl : j < sl.length := (List.getElem?_eq_some_iff.mp h).1
  by_cases hi : i = j
  · subst hi
    rw [List.getElem?_set_self (by rw [gw_ob_len]; exact hjl), gw_ob_at h]
    simp [gw_sv, upd]
  · rw [List.getElem?_set_ne (Ne.symm hi)]
    by_cases hl : i < sl.length
    · have hs : sl[i]? = some sl[i] := List.getElem?_eq_getElem hl
      rw [gw_ob_at hs, gw_ob_at hs]
      cases sl[i] <;> simp [gw_sv, upd, hi]
    · rw [List.getElem?_eq_none (by rw [gw_ob_len]; omega), List.getElem?_eq_none (by rw [gw_ob_len]; omega)]
def gw_J (ad : Nat → Nat) : Prop := ∀ i j, i < gw_sh.length → j < gw_sh.length → ad i = ad j → i = j
def gw_A (ad : Nat → Nat) : Nat → Prop := fun q => ∃ k, k < gw_sh.length ∧ q = ad k
theorem gw_D {ad : Nat → Nat} {dA : Nat → ClassId} {σ : gw_S} (hj : gw_J ad) : va_D (gw_A ad) (gw_wl ad dA σ) := by
  have key : ∀ (k : Nat) (q : Nat × va_E), (gw_wl ad dA σ)[k]? = some q → k < gw_sh.length ∧ q.1 = ad k := by
    intro k q hk
    have hl : k < gw_sh.length := by
      have := (List.getElem?_eq_some_iff.mp hk).1
      simpa [gw_wl] using this
    refine ⟨hl, ?_⟩
    unfold gw_wl at hk
    rw [List.getElem?_map, List.getElem?_range hl] at hk
    simp at hk
    rw [← hk]
  refine ⟨fun i j p q hi hj' hpq => ?_, fun k q hk => ?_⟩
  · obtain ⟨a1, a2⟩ := key i p hi
    obtain ⟨b1, b2⟩ := key j q hj'
    exact hj i j a1 b1 (by rw [← a2, ← b2, hpq])
  · obtain ⟨a1, a2⟩ := key k q hk
    exact ⟨k, a1, a2⟩
def gw_T (dA : Nat → ClassId) (tys : List (ClassId × FieldType)) (k : Nat) : gw_K → Prop
  | .inl (ty, _) => ∃ t : Nat, tys[t]? = some (dA k, ty)
  | .inr (.inl (ty, _)) => ∃ t : Nat, tys[t]? = some (dA k, ty)
  | .inr (.inr _) => True
/-- the links between nest mates that methods use -/
def gw_n1 : Cond := .methodLinkNest RX1 29 yX8_isWithin "BreathSold"
def gw_n3 : Cond := .methodLinkNest RX3 119 yX8_isWithin "BreathSold"
def gw_F (D : va_G) (ad : Nat → Nat) (dA : Nat → ClassId) (U : State) : Prop :=
  (∃ tys, va_K D vwCl tys U ∧ ∀ (k : Nat) (q : gw_K), gw_k k = some q → gw_T dA tys k q) ∧ gw_J ad ∧ va_Nw gw_n1 U ∧ va_Nw gw_n3 U
theorem gw_F.warm {D : va_G} {ad : Nat → Nat} {dA : Nat → ClassId} {s U : State} (hW : s.WarmedH U.vm) (h : gw_F D ad dA s) : gw_F D ad dA U := by
  obtain ⟨⟨tys, h1, h2⟩, h3, h4, h5⟩ := h
  exact ⟨⟨tys, h1.moved hW.alike, h2⟩, h3, va_Nw.warmM hW h4, va_Nw.warmM hW h5⟩
theorem gw_F.same {D : va_G} {ad : Nat → Nat} {dA : Nat → ClassId} {s U : State} (hv : s.vm = U.vm) (h : gw_F D ad dA s) : gw_F D ad dA U := by
  obtain ⟨⟨tys, h1, h2⟩, h3, h4, h5⟩ := h
  exact ⟨⟨tys, h1.moved (by rw [hv]; exact Vm.Alike.refl U.vm), h2⟩, h3, va_Nw.same rfl hv h4, va_Nw.same rfl hv h5⟩
def gw_W (D : va_G) (ad : Nat → Nat) (dA : Nat → ClassId) (σ : gw_S) (U : State) : Prop := va_P D vwCl (gw_wl ad dA σ) U.heap ∧ gw_F D ad dA U
def gw_R (d : Nat) : Room := { frames := d, cells := 0, slots := 0, locals := 44 * d }
/-- a method: its name, its code, how many locals, what it returns -/
abbrev gw_M : Type := MethodName × ByteArray × Nat × Option FieldType
def gw_Q (D : va_G) (ad : Nat → Nat) (dA : Nat → ClassId) (Q : Option Value → gw_S → Prop) : Array Value → State → Outcome → State → Prop := fun _ st oc t =>
  (∃ (v : Option Value) (σ' : gw_S), oc = .returned (v.map (gw_v ad)) ∧ Q v σ' ∧ gw_W D ad dA σ' t) ∧ va_F (gw_A ad) st t
/-- the contract of a method at arguments and a world -/
def gB (d : Nat) (M : gw_M) (vs : List Value) (σ : gw_S) (Q : Option Value → gw_S → Prop) : Prop :=
  ∀ (l : Launch) (D : va_G) (ad : Nat → Nat) (dA : Nat → ClassId), Met l M.1 (.code M.1 M.2.1 M.2.2.1 M.2.2.2 :: gw_tb) (gw_R d) (va_Pc (vs.map (gw_v ad)) (gw_W D ad dA σ)) (gw_Q D ad dA Q) 0 0 (gw_A ad)
/-- locals: by place, none where nothing is known -/
def gw_l (ad : Nat → Nat) (lv : List (Option Value)) : List (Nat × Value) := (List.range lv.length).filterMap (fun i => (lv[i]?.getD none).map (fun v => (i, gw_v ad v)))
theorem gw_l_mem {ad : Nat → Nat} {lv : List (Option Value)} {q : Nat × Value} : q ∈ gw_l ad lv ↔ ∃ v, lv[q.1]? = some (some v) ∧ q.2 = gw_v ad v := by
  unfold gw_l
  rw [List.mem_filterMap]
  constructor
  · rintro ⟨i, hi, h⟩
    have hl := List.mem_range.mp hi
    have hs : lv[i]? = some lv[i] := List.getElem?_eq_getElem hl
    rw [hs] at h
    cases hv : lv[i] with
    | none => rw [hv] at h; simp at h
    | some v =>
      rw [hv] at h
      simp at h
      subst h
      exact ⟨v, by rw [hs, hv], rfl⟩
  · rintro ⟨v, h1, h2⟩
    refine ⟨q.1, List.mem_range.mpr (List.getElem?_eq_some_iff.mp h1).1, ?_⟩
    rw [h1]
    simp [← h2]
/-- the judgement: from pc with these locals, stack and world the method comes to its end with Q -/
def gG (d : Nat) (M : gw_M) (pc : Nat) (lv : List (Option Value)) (st : List Value) (σ : gw_S) (Q : Option Value → gw_S → Prop) : Prop :=
  ∀ (p : Program) (l : Launch) (e : Env) (s : State) (m : MethodId) (args : Array Value) (below : List Frame) (meth : Method) (c : Code) (H : Heap) (locs : List Loc) (ls : Array Slot) (D : va_G) (ad : Nat → Nat) (dA : Nat → ClassId),
    p.tables.exec = Jvm.exec → c.code = M.2.1 → meth.sig.returnType = M.2.2.2 → c.maxLocals = M.2.2.1 → s.vm.findClass M.1.cls = some m.cls → (∀ w ∈ gw_tb, w.before args s = true) → meth.locks = false → gw_F D ad dA s →
    lv_has ls M.2.2.1 (gw_l ad lv) → va_P D vwCl (gw_wl ad dA σ) H → va_S (gw_A ad) s.heap H locs →
    W p l e (gw_R d) s m args below meth c H locs 0 0 (MQ below (gw_Q D ad dA Q) args s 0 0 (gw_A ad)) (F0 m pc ls (st.map (gw_v ad)))
def gw_a : List Value → List (Option Value)
  | [] => []
  | v :: vs => if v.category = 2 then some v :: none :: gw_a vs else some v :: gw_a vs
theorem gw_a_sub (ad : Nat → Nat) : ∀ (vs : List Value) (pre : List (Option Value)) (q : Nat × Value), pre.length ≤ q.1 → (∃ v, (pre ++ gw_a vs)[q.1]? = some (some v) ∧ q.2 = gw_v ad v) → q ∈ lv_args pre.length (vs.map (gw_v ad))
  | [], pre, q, hq, ⟨v, h, _⟩ => by
    rw [gw_a, List.append_nil] at h
    have := (List.getElem?_eq_some_iff.mp h).1
    omega
  | w :: vs, pre, q, hq, ⟨v, h, hv⟩ => by
    rw [List.map_cons, lv_args, gw_v_cat]
    by_cases hc : w.category = 2
    · rw [if_pos hc]
      rw [gw_a, if_pos hc] at h
      by_cases h0 : q.1 = pre.length
      · rw [h0, List.getElem?_append_right (Nat.le_refl _)] at h
        simp at h
        refine List.mem_cons.mpr (Or.inl ?_)
        rw [h, ← hv, ← h0]
      · by_cases h1 : q.1 = pre.length + 1
        · rw [h1, List.getElem?_append_right (by omega)] at h
          simp at h
        · refine List.mem_cons_of_mem _ ?_
          have := gw_a_sub ad vs (pre ++ [some w, none]) q (by simp; omega) ⟨v, by simpa using h, hv⟩
          simpa using this
    · rw [if_neg hc]
      rw [gw_a, if_neg hc] at h
      by_cases h0 : q.1 = pre.length
      · rw [h0, List.getElem?_append_right (Nat.le_refl _)] at h
        simp at h
        refine List.mem_cons.mpr (Or.inl ?_)
        rw [h, ← hv, ← h0]
      · refine List.mem_cons_of_mem _ ?_
        have := gw_a_sub ad vs (pre ++ [some w]) q (by simp; omega) ⟨v, by simpa using h, hv⟩
        simpa using this
theorem gw_sl_len (ad : Nat → Nat) : ∀ vs : List Value, (lg_sl (vs.map (gw_v ad))).length = (lg_sl vs).length
  | [] => rfl
  | v :: vs => by
    have := gw_sl_len ad vs
    simp only [lg_sl, List.map_cons, List.flatMap_cons, List.length_append, gw_v_cat] at this ⊢
    by_cases hc : v.category = 2
    · simp [hc, this]
    · simp [hc, this]
/-- a contract out of a walk -/
theorem gB_of {d : Nat} {M : gw_M} {vs : List Value} {σ : gw_S} {Q : Option Value → gw_S → Prop} (hy : plainName M.1.cls = true) (hn : (lg_sl vs).length ≤ M.2.2.1) (k : gG d M 0 (gw_a vs) [] σ Q) : gB d M vs σ Q := by
  intro l D ad dA
  refine Met.ofW (cc := M.2.1) (maxL := M.2.2.1) (ret := M.2.2.2) hy rfl ?_
  intro p e s m args below meth c s₁ B hml hv
  obtain ⟨rfl, hP, hF⟩ := hv
  have hts := atoms_spec (ws := .code M.1 M.2.1 M.2.2.1 M.2.2.2 :: gw_tb) B.pre
  have hl := lv_entry (vs.map (gw_v ad)) (n := M.2.2.1) (by rw [gw_sl_len]; exact hn)
  rw [lg_entry_eq]
  generalize (lg_sl (vs.map (gw_v ad)) ++ List.replicate (M.2.2.1 - (lg_sl (vs.map (gw_v ad))).length) Slot.unset).toArray = ls at hl ⊢
  refine k p l e s m _ below meth c s.heap [] ls D ad dA B.exec B.bytes B.returns hml (findClass_of_methodNamed B.named) (fun w hw => hts w (List.mem_cons_of_mem _ hw)) B.notSynchronized hF ⟨hl.1, hl.2.1, fun q hq => hl.2.2 q ?_⟩ hP va_S.rf
  exact gw_a_sub ad vs [] q (Nat.zero_le _) (by simpa using gw_l_mem.mp hq)
theorem gB.mono {d : Nat} {M : gw_M} {vs : List Value} {σ : gw_S} {Q Q' : Option Value → gw_S → Prop} (h : gB d M vs σ Q) (hq : ∀ v σ', Q v σ' → Q' v σ') : gB d M vs σ Q' := by
  intro l D ad dA p e ha hc hk s m args below hf happ hP hK
  obtain ⟨t, o, h1, h2, h3, ⟨⟨v, σ', a1, a2, a3⟩, a4⟩, h5⟩ := h l D ad dA p e ha hc hk s m args below hf happ hP hK
  exact ⟨t, o, h1, h2, h3, ⟨⟨v, σ', a1, hq v σ' a2, a3⟩, a4⟩, h5⟩
theorem gG.mono {d : Nat} {M : gw_M} {pc : Nat} {lv : List (Option Value)} {st : List Value} {σ : gw_S} {Q Q' : Option Value → gw_S → Prop} (h : gG d M pc lv st σ Q) (hq : ∀ v σ', Q v σ' → Q' v σ') : gG d M pc lv st σ Q' := by
  intro p l e s m args below meth c H locs ls D ad dA a1 a2 a3 a4 a5 a6 a7 a8 a9 a10 a11 T hT X
  obtain ⟨t, h1, o, h2, h3, ⟨⟨v, σ', b1, b2, b3⟩, b4⟩, h5⟩ := h p l e s m args below meth c H locs ls D ad dA a1 a2 a3 a4 a5 a6 a7 a8 a9 a10 a11 T hT X
  exact ⟨t, h1, o, h2, h3, ⟨⟨v, σ', b1, hq v σ' b2, b3⟩, b4⟩, h5⟩
