/-! building the world: the cells that are made lie in a row from n on -/
abbrev cId : Type := ClassId × ClassId × ClassId × ClassId
def cTy (I : cId) : List (ClassId × FieldType) := [(I.1, .int), (I.2.1, .boolean), (I.2.2.1, .object "BreathSold$State"), (I.2.2.2, .array .int)]
/-- the links between nest mates that constructors use -/
def cN : List Cond := [.methodLinkNest RX8 23 yX6_init "BreathSold", .methodLinkNest RX6 11 yX4_init "BreathSold", .methodLinkNest RX6 20 yX0_init "BreathSold", .methodLinkNest RX8 30 yX2_init "BreathSold", .methodLinkNest RX8 37 yX7_init "BreathSold", .methodLinkNest RX8 51 yX3_init "BreathSold", gw_n1, gw_n3]
theorem cN_form : ∀ w ∈ cN, ∃ a i x h, w = Cond.methodLinkNest a i x h := by
  intro w hw
  simp only [cN, List.mem_cons, List.not_mem_nil, or_false] at hw
  rcases hw with rfl | rfl | rfl | rfl | rfl | rfl | rfl | rfl <;> exact ⟨_, _, _, _, rfl⟩
def cF (D : va_G) (I : cId) (U : State) : Prop := va_K D vwCl (cTy I) U ∧ (∀ w ∈ cN, va_Nw w U) ∧ va_AO "BreathSold$State" U ∧ (Cond.arrayOver (.array .int)).before #[] U = true
theorem cF.warm {D : va_G} {I : cId} {s U : State} (hW : s.WarmedH U.vm) (h : cF D I s) : cF D I U := by
  refine ⟨h.1.moved hW.alike, fun w hw => ?_, h.2.2.1.moved hW.alike, over_moved hW.alike h.2.2.2⟩
  obtain ⟨a, i, x, g, rfl⟩ := cN_form w hw
  exact va_Nw.warmM hW (h.2.1 _ hw)
theorem cF.same {D : va_G} {I : cId} {s U : State} (hv : s.vm = U.vm) (h : cF D I s) : cF D I U := by
  have ha : s.vm.Alike U.vm := by rw [hv]; exact Vm.Alike.refl U.vm
  refine ⟨h.1.moved ha, fun w hw => ?_, h.2.2.1.moved ha, over_moved ha h.2.2.2⟩
  obtain ⟨a, i, x, g, rfl⟩ := cN_form w hw
  exact va_Nw.same rfl hv (h.2.1 _ hw)
def cL (n : Nat) (w : va_W) : Prop := ∀ (i : Nat) (q : Nat × va_E), w[i]? = some q → q.1 = n + i
theorem cL.D {n : Nat} {w : va_W} (h : cL n w) : va_D (fun q => n ≤ q) w := by
  refine ⟨fun i j p q hi hj e => ?_, fun k q hk => ?_⟩
  · have := h i p hi
    have := h j q hj
    omega
  · have := h k q hk
    show n ≤ q.1
    omega
theorem cL.app {n : Nat} {w w2 : va_W} (h : cL n w) (h2 : cL (n + w.length) w2) : cL n (w ++ w2) := by
  intro i q hi
  by_cases c : i < w.length
  · rw [List.getElem?_append_left c] at hi
    exact h i q hi
  · rw [List.getElem?_append_right (by omega)] at hi
    have := h2 _ q hi
    omega
theorem cL.one {n : Nat} {e : va_E} : cL n [(n, e)] := by
  intro i q hi
  have : i < 1 := (List.getElem?_eq_some_iff.mp hi).1
  rw [show i = 0 by omega] at hi ⊢
  cases hi
  rfl
theorem cL.set {n k : Nat} {w : va_W} {e e2 : va_E} {a : Nat} (h : cL n w) (hk : w[k]? = some (a, e)) : cL n (w.set k (a, e2)) := by
  intro i q hi
  by_cases c : i = k
  · subst c
    rw [List.getElem?_set_self (List.getElem?_eq_some_iff.mp hk).1] at hi
    cases hi
    have := h i _ hk
    exact this
  · rw [List.getElem?_set_ne (Ne.symm c)] at hi
    exact h i q hi
def cw (D : va_G) (n L : Nat) (w : va_W) (H : Heap) : Prop := va_P D vwCl w H ∧ cL n w ∧ w.length = L ∧ H.size = n + L
/-- what holds of a method that builds -/
def cX (M : gw_M) (D : va_G) (I : cId) (n : Nat) (p : Program) (s : State) (m : MethodId) (args : Array Value) (meth : Method) (c : Code) : Prop :=
  p.tables.exec = Jvm.exec ∧ c.code = M.2.1 ∧ meth.sig.returnType = M.2.2.2 ∧ c.maxLocals = M.2.2.1 ∧ s.vm.findClass M.1.cls = some m.cls ∧ (∀ w ∈ gw_tb, w.before args s = true) ∧ meth.locks = false ∧ cF D I s ∧ n ≤ s.heap.size
/-- from pc on, with these cells built -/
def cZ (D : va_G) (n : Nat) (p : Program) (l : Launch) (e : Env) (R : Room) (s : State) (m : MethodId) (args : Array Value) (below : List Frame) (meth : Method) (c : Code) (Q : State → Prop) (pc : Nat) (ls : Array Slot) (st : List Value) (L : Nat) (w : va_W) (cells slots : Nat) : Prop :=
  ∀ (H : Heap) (locs : List Loc), cw D n L w H → va_S (fun q => n ≤ q) s.heap H locs → W p l e R s m args below meth c H locs cells slots Q (F0 m pc ls st)
section CB
variable {M : gw_M} {D : va_G} {I : cId} {n : Nat} {p : Program} {l : Launch} {e : Env} {R : Room} {s : State} {m : MethodId} {args : Array Value} {below : List Frame} {meth : Method} {c : Code} {Q : State → Prop} {pc : Nat} {ls : Array Slot} {st : List Value} {L : Nat} {w : va_W} {cells slots : Nat}
theorem z_aload (X : cX M D I n p s m args meth c) {k : Fin 4} {x : Nat} (hl : ls[(k : Nat)]? = some (.val (.ref x))) (hd : decode M.2.1 pc = .ok (.aload_n k, 1)) (kk : cZ D n p l e R s m args below meth c Q (pc + 1) ls (.ref x :: st) L w cells slots) : cZ D n p l e R s m args below meth c Q pc ls st L w cells slots :=
  fun H locs hw hS => lv_aload_n X.1 X.2.1 hd rfl hl (kk H locs hw hS)
theorem z_iload (X : cX M D I n p s m args meth c) {k : Fin 4} {x : Int32} (hl : ls[(k : Nat)]? = some (.val (.int x))) (hd : decode M.2.1 pc = .ok (.iload_n k, 1)) (kk : cZ D n p l e R s m args below meth c Q (pc + 1) ls (.int x :: st) L w cells slots) : cZ D n p l e R s m args below meth c Q pc ls st L w cells slots :=
  fun H locs hw hS => lv_iload_n X.1 X.2.1 hd rfl hl (kk H locs hw hS)
theorem z_iconst (X : cX M D I n p s m args meth c) {k : Int} (v : Int32) (hd : decode M.2.1 pc = .ok (.iconst k, 1)) (hv : Int32.ofInt k = v) (kk : cZ D n p l e R s m args below meth c Q (pc + 1) ls (.int v :: st) L w cells slots) : cZ D n p l e R s m args below meth c Q pc ls st L w cells slots :=
  fun H locs hw hS => lv_iconst X.1 X.2.1 hd hv (kk H locs hw hS)
theorem z_bipush (X : cX M D I n p s m args meth c) {k : Int} (v : Int32) (hd : decode M.2.1 pc = .ok (.bipush k, 2)) (hv : (Int8.ofInt k).toInt32 = v) (kk : cZ D n p l e R s m args below meth c Q (pc + 2) ls (.int v :: st) L w cells slots) : cZ D n p l e R s m args below meth c Q pc ls st L w cells slots :=
  fun H locs hw hS => lv_bipush X.1 X.2.1 hd hv (kk H locs hw hS)
theorem z_sipush (X : cX M D I n p s m args meth c) {k : Int} (v : Int32) (hd : decode M.2.1 pc = .ok (.sipush k, 3)) (hv : (Int16.ofInt k).toInt32 = v) (kk : cZ D n p l e R s m args below meth c Q (pc + 3) ls (.int v :: st) L w cells slots) : cZ D n p l e R s m args below meth c Q pc ls st L w cells slots :=
  fun H locs hw hS => lv_sipush X.1 X.2.1 hd hv (kk H locs hw hS)
theorem z_dup (X : cX M D I n p s m args meth c) {x : Nat} (hd : decode M.2.1 pc = .ok (.dup, 1)) (kk : cZ D n p l e R s m args below meth c Q (pc + 1) ls (.ref x :: .ref x :: st) L w cells slots) : cZ D n p l e R s m args below meth c Q pc ls (.ref x :: st) L w cells slots :=
  fun H locs hw hS => lv_dup X.1 X.2.1 hd rfl (kk H locs hw hS)
theorem z_obj (X : cX M D I n p s m args meth c) {idx a : Nat} (hd : decode M.2.1 pc = .ok (.invokespecial idx, 3)) (hl : Cond.methodLink M.1.cls idx objectInit ∈ gw_tb) (hi : Cond.instanceMethod objectInit ∈ gw_tb) (hc : Cond.code objectInit ⟨#[0xb1]⟩ 1 none ∈ gw_tb) (hsz : ls.size = M.2.2.1) (hst : (st.map fun v => v.category).sum ≤ 8) (hR : 1 ≤ R.frames ∧ 44 ≤ R.locals) (kk : cZ D n p l e R s m args below meth c Q (pc + 3) ls st L w cells slots) : cZ D n p l e R s m args below meth c Q pc ls (.ref a :: st) L w cells slots :=
  fun H locs hw hS => W.objInit X.1 X.2.1 X.2.2.2.2.1 (X.2.2.2.2.2.1 _ hl) (X.2.2.2.2.2.1 _ hi) (X.2.2.2.2.2.1 _ hc) rfl (hsz.trans X.2.2.2.1.symm) rfl hd hR.1 (by have := lv_room (m := m) (pc := pc) (ls := ls) (rest := .ref a :: st) hst; have := hR.2; omega) (kk H locs hw hS)
theorem z_newa (X : cX M D I n p s m args meth c) {atype : ArrayType} {ty : FieldType} {cA : ClassId} {t0 : Nat} {v : Int32} (N : Nat) (hty : newarray.typeOf atype = ty) (ht : (cTy I)[t0]? = some (cA, ty)) (hra : va_RA s cA ty → s.vm.findClass ("[" ++ ty.toString) = some cA) (hdv : defaultValue ty = .int 0) (harr : Cond.arrayClass ty ∈ gw_tb) (hv : ¬ v < 0) (hN : v.toNatClampNeg = N) (hby : N * componentBytes ty ≤ 536870912) (hd : decode M.2.1 pc = .ok (.newarray atype, 2)) (hc : cells + 1 ≤ R.cells) (hs : slots + N ≤ R.slots)
    {w' : va_W} (hw' : w ++ [(n + L, .inl (cA, N, .inl (fun _ => 0)))] = w') (kk : cZ D n p l e R s m args below meth c Q (pc + 2) ls (.ref (n + L) :: st) (L + 1) w' (cells + 1) (slots + N)) : cZ D n p l e R s m args below meth c Q pc ls (.int v :: st) L w cells slots := by
  subst hty
  subst hw'
  intro H locs ⟨hP, hL, hl, hz⟩ hS
  refine va_newaK X.1 X.2.1 (X.2.2.2.2.2.1 _ harr) rfl hd rfl hv hN hby hc hs hz fun H1 cA' e1 z1 o1 hAr hNm => ?_
  have hcA : cA' = cA := Option.some.inj (hNm.symm.trans (hra (X.2.2.2.2.2.2.2.1.1.2 t0 _ ht).2))
  subst hcA
  have hk : ∀ (k : Nat) (x : Nat × va_E), w[k]? = some x → H1[x.1]? = H[x.1]? := fun k x hx => o1 x.1 (by rw [← hz]; exact (hP k x hx).lt)
  refine kk H1 locs ⟨(hP.kept hk).app (fun k x hx => ?_), hL.app (by rw [hl]; exact cL.one), by simp [hl], by omega⟩ ⟨by have := hS.1; omega, fun x h1 h2 => (o1 x (by have := hS.1; omega)).trans (hS.2.1 x h1 h2), hS.2.2⟩
  have hz0 : k < 1 := (List.getElem?_eq_some_iff.mp hx).1
  rw [show k = 0 by omega] at hx
  cases hx
  show H1[n + L]? = some (vp_cell _ _)
  rw [vp_cell_i, e1, hdv]
theorem z_new (X : cX M D I n p s m args meth c) {C : String} {T : u_T} {N ci index : Nat} (fs : List Value) (ty : Nat → FieldType) (hty : ∀ k, k < N → parseFieldDescriptor (T k).2.2.1 = some (ty k)) (hin : ∀ w ∈ u_ws C T N, w ∈ gw_tb) (hcl : Cond.classLink M.1.cls index C ∈ gw_tb) (hinst : Cond.instantiable C N ∈ gw_tb) (hini : Cond.initialized C ∈ gw_tb) (hc : vwCl[ci]? = some (C, T, N)) (hfs : ∀ j, j < N → defaultValue (ty j) = vp_V fs j) (hd : decode M.2.1 pc = .ok (.new index, 3)) (hcc : cells + 1 ≤ R.cells) (hs : slots + N ≤ R.slots)
    (kk : cZ D n p l e R s m args below meth c Q (pc + 3) ls (.ref (n + L) :: st) (L + 1) (w ++ [(n + L, .inr (ci, fs))]) (cells + 1) (slots + N)) : cZ D n p l e R s m args below meth c Q pc ls st L w cells slots := by
  intro H locs ⟨hP, hL, hl, hz⟩ hS
  have hKn := X.2.2.2.2.2.2.2.1.1.1 ci _ hc
  refine W.newcK X.1 X.2.1 X.2.2.2.2.1 (X.2.2.2.2.2.1 _ hcl) (X.2.2.2.2.2.1 _ hinst) (X.2.2.2.2.2.1 _ hini) rfl hd hcc hs hKn.2.1 hz fun H1 kC hkC e1 z1 o1 => ?_
  have hk : ∀ (k : Nat) (x : Nat × va_E), w[k]? = some x → H1[x.1]? = H[x.1]? := fun k x hx => o1 x.1 (by rw [← hz]; exact (hP k x hx).lt)
  refine kk H1 locs ⟨(hP.kept hk).app (fun k x hx => ?_), hL.app (by rw [hl]; exact cL.one), by simp [hl], by omega⟩ ⟨by have := hS.1; omega, fun x h1 h2 => (o1 x (by have := hS.1; omega)).trans (hS.2.1 x h1 h2), hS.2.2⟩
  have hz0 : k < 1 := (List.getElem?_eq_some_iff.mp hx).1
  rw [show k = 0 by omega] at hx
  cases hx
  exact ⟨_, hc, (u_born ty X.2.2.2.2.2.1 hin hKn hkC e1 hty).to hfs⟩
theorem z_put (X : cX M D I n p s m args meth c) {C : String} {T : u_T} {N ci index q0 a : Nat} {fs : List Value} {v : Value} {ty : FieldType} (ty0 : Nat → FieldType) (hty : ∀ k, k < N → parseFieldDescriptor (T k).2.2.1 = some (ty0 k)) (hnm : ∀ a, a < N → ∀ b, b < N → a ≠ b → (T a).2.1 ≠ (T b).2.1) (hin : ∀ w ∈ u_ws C T N, w ∈ gw_tb) (he : w[q0]? = some (a, .inr (ci, fs))) (hc : vwCl[ci]? = some (C, T, N)) (k : Nat) (hk : k < N) (hl : Cond.fieldLink M.1.cls index (T k).1 (T k).2.1 (T k).2.2.1 ∈ gw_tb) (hfin : (T k).2.2.2 = false ∨ ((T k).2.2.2 = true ∧ meth.name = "<init>" ∧ (T k).1 = M.1.cls)) (hdd : parseFieldDescriptor (T k).2.2.1 = some ty) (hn : narrow ty v = v) (hfit : fits ty v = true) (hlen : k < fs.length) (hd : decode M.2.1 pc = .ok (.putfield index, 3))
    {w' : va_W} (hw' : w.set q0 (a, .inr (ci, fs.set k v)) = w') (kk : cZ D n p l e R s m args below meth c Q (pc + 3) ls st L w' cells slots) : cZ D n p l e R s m args below meth c Q pc ls (v :: .ref a :: st) L w cells slots := by
  subst hw'
  intro H locs ⟨hP, hL, hl2, hz⟩ hS
  have hts := X.2.2.2.2.2.1
  have hK := X.2.2.2.2.2.2.2.1.1
  have hap := va_apart (own := M.1.cls) hts hin ty0 hty hnm hK hc
  obtain ⟨r, h1, cell, q1, q2, q3, q4⟩ := hP q0 _ he
  have hr : r = (C, T, N) := Option.some.inj (h1.symm.trans hc)
  subst hr
  obtain ⟨hSl, hfc, kC, hkC, hkind⟩ := hK.1 ci _ hc
  obtain ⟨cf, kf, fi, f, hi, hsl⟩ := hSl k hk
  have hlay := hts _ (hin _ (u_in_lay hk))
  unfold u_lay at hlay
  have hst := (u_facts hfc hkC (u_lays hts hin hk) hi).1
  have fin : ∀ (H' : Heap), H'[a]? = some (cell.setSlot (D.2 ci k) v) → H'.size = H.size → (∀ q : Nat, q ≠ a → H'[q]? = H[q]?) → W p l e R s m args below meth c H' (locs ++ [⟨a, D.2 ci k⟩]) cells slots Q (F0 m (pc + 3) ls st) := fun H' e1 e2 e3 =>
    kk H' _ ⟨hP.set hL.D he ⟨_, hc, t_OB.to (V := updV (vp_V fs) k v) ⟨_, e1, q2, q3, t_set q4 hap hk v⟩ (fun j _ => vp_updV_set hlen v j)⟩ e3, hL.set he, by rw [List.length_set]; exact hl2, by omega⟩ (hS.put e2 e3 (hL.D.2 q0 _ he))
  rcases hfin with hf | ⟨hf, hi2, hdc⟩
  · rw [if_neg (by rw [hf]; decide)] at hlay
    have h6 := u_store hfc hkC hkind hlay hi hdd hn hfit
    refine W.putK X.1 X.2.1 (f := f) ⟨X.2.2.2.2.1, hts _ hl, ⟨_, _, _, hi⟩, hst⟩ (by rw [q2]; exact h6) q1 q3 (by rw [hsl]; exact k2_hasslot (q4 k hk)) rfl rfl hd fun H' e1 e2 e3 => ?_
    rw [hsl] at e1 ⊢
    exact fin H' e1 e2 e3
  · rw [if_pos hf] at hlay
    have hcf : m.cls = cf := by
      obtain ⟨_, _, c', _, _, _, -, -, hf', -, -, -, hown2, -⟩ := Cond.laysFinal_spec hlay
      have e1 : c' = cf := by have := hi.symm.trans hf'; simp at this; exact this.1.symm
      rw [hdc] at hown2
      rw [← e1]; exact Option.some.inj (X.2.2.2.2.1.symm.trans hown2)
    have h6 := u_fits hfc hkC hkind (Or.inr hlay) hi hdd hn hfit
    refine W.putFinK X.1 X.2.1 X.2.2.2.2.1 (hts _ hl) hi hst hcf hi2 (by rw [q2]; exact h6) q1 q3 (by rw [hsl]; exact k2_hasslot (q4 k hk)) rfl rfl hd fun H' e1 e2 e3 => ?_
    rw [hsl] at e1 ⊢
    exact fin H' e1 e2 e3
theorem z_get (X : cX M D I n p s m args meth c) {C : String} {T : u_T} {N ci index q0 a : Nat} {fs : List Value} {v : Value} (hin : ∀ w ∈ u_ws C T N, w ∈ gw_tb) (he : w[q0]? = some (a, .inr (ci, fs))) (hc : vwCl[ci]? = some (C, T, N)) (k : Nat) (hk : k < N) (hl : Cond.fieldLink M.1.cls index (T k).1 (T k).2.1 (T k).2.2.1 ∈ gw_tb) (hv : fs[k]? = some v) (hd : decode M.2.1 pc = .ok (.getfield index, 3)) (kk : cZ D n p l e R s m args below meth c Q (pc + 3) ls (v :: st) L w cells slots) : cZ D n p l e R s m args below meth c Q pc ls (.ref a :: st) L w cells slots :=
  fun H locs hw hS => va_get X.1 X.2.1 X.2.2.2.2.2.1 hin X.2.2.2.2.1 X.2.2.2.2.2.2.2.1.1 hw.1 q0 he hc k hk (X.2.2.2.2.2.1 _ hl) (fun _ h => h) hv hd (kk H locs hw hS)
theorem z_alen (X : cX M D I n p s m args meth c) {q0 t0 a : Nat} {cA : ClassId} {x : vp_A} {ty : FieldType} {v : Int32} (ha : w[q0]? = some (a, .inl (cA, x))) (ht : (cTy I)[t0]? = some (cA, ty)) (hv : Int32.ofNat x.1 = v) (hd : decode M.2.1 pc = .ok (.arraylength, 1)) (kk : cZ D n p l e R s m args below meth c Q (pc + 1) ls (.int v :: st) L w cells slots) : cZ D n p l e R s m args below meth c Q pc ls (.ref a :: st) L w cells slots :=
  fun H locs hw hS => va_alen X.1 X.2.1 X.2.2.2.2.2.2.2.1.1 hw.1 q0 t0 ha ht hv hd (kk H locs hw hS)
theorem z_goto (X : cX M D I n p s m args meth c) {off : Int} {tgt : Nat} (hd : decode M.2.1 pc = .ok (.goto off, 3)) (ht : (pc : Int) + off = (tgt : Int)) (kk : cZ D n p l e R s m args below meth c Q tgt ls st L w cells slots) : cZ D n p l e R s m args below meth c Q pc ls st L w cells slots :=
  fun H locs hw hS => lv_goto X.1 X.2.1 hd ht (kk H locs hw hS)
theorem z_ge (X : cX M D I n p s m args meth c) {x y : Int32} {off : Int} {tgt : Nat} (hd : decode M.2.1 pc = .ok (.if_icmp .ge off, 3)) (ht : (pc : Int) + off = (tgt : Int)) (kt : y ≤ x → cZ D n p l e R s m args below meth c Q tgt ls st L w cells slots) (kf : ¬ y ≤ x → cZ D n p l e R s m args below meth c Q (pc + 3) ls st L w cells slots) : cZ D n p l e R s m args below meth c Q pc ls (.int y :: .int x :: st) L w cells slots :=
  fun H locs hw hS => lv_icmp_ge X.1 X.2.1 hd ht (fun h => kt h H locs hw hS) (fun h => kf h H locs hw hS)
end CB
