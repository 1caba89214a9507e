/-! contracts of constructors -/
def cR (d mc ms : Nat) : Room := { frames := d, cells := mc, slots := ms, locals := 44 * d }
def cQ (D : va_G) (n : Nat) (w : va_W) : Array Value → State → Outcome → State → Prop := fun _ st oc t => oc = .returned none ∧ cw D n w.length w t.heap ∧ va_F (fun q => n ≤ q) st t
def cBu (d mc ms : Nat) (M : gw_M) (as : List Value) (ci : Nat) (fs : List Value) (F : Nat → cId → va_W) : Prop :=
  ∀ (l : Launch) (D : va_G) (I : cId) (n : Nat), Met l M.1 (.code M.1 M.2.1 M.2.2.1 M.2.2.2 :: gw_tb) (cR d mc ms) (va_Pc (.ref n :: as) (fun U => cF D I U ∧ cw D n 1 [(n, .inr (ci, fs))] U.heap)) (cQ D n (F n I)) mc ms (fun q => n ≤ q)
theorem cBu_of {d mc ms : Nat} {M : gw_M} {as : List Value} {ci : Nat} {fs : List Value} {F : Nat → cId → va_W} (hy : plainName M.1.cls = true) (hn : ∀ n : Nat, (lg_sl (.ref n :: as)).length ≤ M.2.2.1) (hi : M.1.name = "<init>")
    (k : ∀ (p : Program) (l : Launch) (e : Env) (s : State) (m : MethodId) (args : Array Value) (below : List Frame) (meth : Method) (c : Code) (ls : Array Slot) (D : va_G) (I : cId) (n : Nat), cX M D I n p s m args meth c → meth.name = "<init>" → lv_has ls M.2.2.1 (lv_args 0 (.ref n :: as)) → cZ D n p l e (cR d mc ms) s m args below meth c (MQ below (cQ D n (F n I)) args s mc ms (fun q => n ≤ q)) 0 ls [] 1 [(n, .inr (ci, fs))] 0 0) : cBu d mc ms M as ci fs F := by
  intro l D I n
  refine Met.ofW (cc := M.2.1) (maxL := M.2.2.1) (ret := M.2.2.2) hy rfl ?_
  intro p e s m args below meth c s₁ B hml hv
  obtain ⟨rfl, hF, hw⟩ := hv
  have hts := atoms_spec (ws := .code M.1 M.2.1 M.2.2.1 M.2.2.2 :: gw_tb) B.pre
  have hl := lv_entry (.ref n :: as) (n := M.2.2.1) (hn n)
  rw [lg_entry_eq]
  generalize (lg_sl (.ref n :: as) ++ List.replicate (M.2.2.1 - (lg_sl (.ref n :: as)).length) Slot.unset).toArray = ls at hl ⊢
  exact k p l e s m _ below meth c ls D I n ⟨B.exec, B.bytes, B.returns, hml, findClass_of_methodNamed B.named, fun w hw => hts w (List.mem_cons_of_mem _ hw), B.notSynchronized, hF, by rw [hw.2.2.2]; omega⟩ ((name_of_methodNamed B.named B.method).1.trans hi) hl s.heap [] hw va_S.rf
section CC
variable {M : gw_M} {D : va_G} {I : cId} {n : Nat} {p : Program} {l : Launch} {e : Env} {R : Room} {s : State} {m : MethodId} {args : Array Value} {below : List Frame} {meth : Method} {c : Code} {Q : State → Prop} {pc : Nat} {ls : Array Slot} {st : List Value} {L : Nat} {w : va_W} {cells slots : Nat}
theorem z_ret (X : cX M D I n p s m args meth c) (hr : M.2.2.2 = none) (hL : w.length = L) (hd : decode M.2.1 pc = .ok (.return_, 1)) : cZ D n p l e R s m args below meth c (MQ below (cQ D n w) args s cells slots (fun q => n ≤ q)) pc ls [] L w cells slots :=
  fun H locs hw hS => W.vret X.1 X.2.1 (X.2.2.1.trans hr) (fun t ht hW => ⟨rfl, by rw [ht, hL]; exact hw, hS.F ht⟩) hS.2.2 hd X.2.2.2.2.2.2.1
theorem cw_last {D : va_G} {n L : Nat} {w : va_W} {x : va_E} {H : Heap} (h : cw D n (L + 1) (w ++ [(n + L, x)]) H) : cw D (n + L) 1 [(n + L, x)] H ∧ va_P D vwCl w H ∧ cL n w ∧ w.length = L := by
  obtain ⟨hP, hL, hl, hz⟩ := h
  have hl2 : w.length = L := by simpa using hl
  refine ⟨⟨fun k q hk => ?_, cL.one, rfl, by omega⟩, fun k q hk => ?_, fun k q hk => ?_, hl2⟩
  · have h0 : k < 1 := (List.getElem?_eq_some_iff.mp hk).1
    rw [show k = 0 by omega] at hk
    exact hP (w.length) q (by rw [List.getElem?_append_right (Nat.le_refl _), Nat.sub_self]; exact hk)
  · exact hP k q (by rw [List.getElem?_append_left (List.getElem?_eq_some_iff.mp hk).1]; exact hk)
  · exact hL k q (by rw [List.getElem?_append_left (List.getElem?_eq_some_iff.mp hk).1]; exact hk)
/-- a constructor's call, at the cell that was made last -/
theorem z_callI (X : cX M D I n p s m args meth c) {y : MethodName} {bytes : ByteArray} {maxL d2 mc ms k idx ci : Nat} {as fs : List Value} {F : Nat → cId → va_W} (hM : cBu d2 mc ms (y, bytes, maxL, none) as ci fs F) (ho : gw_mo (y, bytes, maxL, none) k) (hi : Cond.instanceMethod y ∈ gw_tb) (hy : y.name = "<init>") (hl : Cond.methodLink M.1.cls idx y ∈ gw_tb ∨ Cond.methodLinkNest M.1.cls idx y "BreathSold" ∈ cN) (hk : as.length = k) (hd : decode M.2.1 pc = .ok (.invokespecial idx, 3)) (hsz : ls.size = M.2.2.1) (hst : (st.map fun v => v.category).sum ≤ 8) (hR : d2 + 1 ≤ R.frames ∧ 44 * d2 + 44 ≤ R.locals) (hc : cells + mc ≤ R.cells ∧ slots + ms ≤ R.slots) (K : Nat) (hlen : (F (n + L) I).length = K) {st0 : List Value} (hst0 : st0 = as.reverse ++ .ref (n + L) :: st)
    {w' : va_W} (hw' : w ++ F (n + L) I = w') (kk : cZ D n p l e R s m args below meth c Q (pc + 3) ls st (L + K) w' (cells + mc) (slots + ms)) : cZ D n p l e R s m args below meth c Q pc ls st0 (L + 1) (w ++ [(n + L, .inr (ci, fs))]) cells slots := by
  subst hw'
  subst hst0
  intro H locs hw hS T hT Xs
  obtain ⟨h1, h2, h3, h4⟩ := cw_last hw
  obtain ⟨o1, o2, o3, o4⟩ := ho
  have hts := X.2.2.2.2.2.1
  have o4' : maxL ≤ 25 := o4
  have hF := X.2.2.2.2.2.2.2.1
  have hp : PreS s H (va_Pc (.ref (n + L) :: as) (fun U => cF D I U ∧ cw D (n + L) 1 [(n + L, .inr (ci, fs))] U.heap)) (.ref (n + L) :: as) := ⟨fun a U g mk q => ⟨q.1, cF.same (s := U) (U := U.calling g mk a) rfl q.2.1, q.2.2⟩, fun U hU hW => ⟨rfl, hF.warm hW, by rw [hU]; exact h1⟩⟩
  have hRR : (cR d2 mc ms).frames + 1 ≤ R.frames ∧ 8 + (maxL + 11) + (cR d2 mc ms).locals ≤ R.locals := ⟨hR.1, by show 8 + (maxL + 11) + 44 * d2 ≤ R.locals; have := hR.2; omega⟩
  have run : va_Run p l e R s m args below meth c H locs cells slots mc ms (F0 m pc ls (as.reverse ++ .ref (n + L) :: st)) st (cQ D (n + L) (F (n + L) I) (Value.ref (n + L) :: as).toArray) (fun q => n + L ≤ q) := by
    rcases hl with hl | hl
    · exact va_runI (b := n + L) (As := as) (n := k) ⟨X.1, X.2.1, X.2.2.2.1, X.2.2.2.2.1, hts⟩ (hM l D I (n + L)) ⟨callB_of k hts (gw_goodT o1) rfl rfl rfl (hts _ o2) (hts _ hl) o3 hRR, hy, hts _ hi⟩ hp rfl hk hsz rfl (lv_room hst) hd hc
    · exact va_runIN (b := n + L) (As := as) (n := k) ⟨X.1, X.2.1, X.2.2.2.1, X.2.2.2.2.1, hts⟩ (hM l D I (n + L)) ⟨va_cnB k hts (gw_goodT o1) rfl rfl rfl (hF.2.1 _ hl) (hts _ o2) o3 hRR, hy, hts _ hi⟩ hp rfl hk hsz rfl (lv_room hst) hd hc
  obtain ⟨v, st₀, t, T', Ls, h0, X', hLs, e1, e2, ⟨hv, hcw, hz, hk1⟩, stp⟩ := run T hT Xs
  cases hv
  rw [h0] at hz hk1
  have e1' : T'.heap = t.heap := e1
  have hsz0 := hw.2.2.2
  obtain ⟨c1, c2, c3, c4⟩ := hcw
  obtain ⟨t2, b1, b2⟩ := kk T'.heap (locs ++ Ls) (by
    rw [e1']
    refine ⟨va_P.app (fun k q hq => (h2 k q hq).kept (hk1 q.1 (h2 k q hq).lt ?_)) c1, h3.app (by rw [h4]; exact c2), by rw [List.length_append, h4, hlen], by rw [c4, hlen]; omega⟩
    have := h3 k q hq
    have := (List.getElem?_eq_some_iff.mp hq).1
    omega) (by
    rw [e1']
    refine ⟨Nat.le_trans hS.1 hz, fun q g1 g2 => ?_, fun q hq => ?_⟩
    · rw [hk1 q (Nat.lt_of_lt_of_le g1 hS.1) (by omega)]
      exact hS.2.1 q g1 g2
    · rcases List.mem_append.mp hq with h | h
      · exact hS.2.2 q h
      · have := hLs q h
        show n ≤ q.base
        omega) T' rfl X'
  exact ⟨t2, stp t2 b1, b2⟩
theorem z_iast (X : cX M D I n p s m args meth c) {q0 N a : Nat} {f : Nat → Int32} {i x : Int32} (ha : w[q0]? = some (a, .inl (I.1, N, .inl f))) (hin : vp_in i N) (hd : decode M.2.1 pc = .ok (.iastore, 1)) {w' : va_W} (hw' : w.set q0 (a, .inl (I.1, N, .inl (upd f i.toNatClampNeg x))) = w') (kk : cZ D n p l e R s m args below meth c Q (pc + 1) ls st L w' cells slots) : cZ D n p l e R s m args below meth c Q pc ls (.int x :: .int i :: .ref a :: st) L w cells slots := by
  subst hw'
  intro H locs ⟨hP, hL, hl2, hz⟩ hS
  have hK := X.2.2.2.2.2.2.2.1.1
  refine W.iast X.1 X.2.1 (hP q0 _ ha) ((hK.2 0 (I.1, .int) rfl).1 N (fun j => .int (f j))) (fun q => by cases q) (by show ¬ (i < 0 ∨ (arrV _ _ _).slots.size ≤ _); rw [arrV_size]; exact hin) rfl rfl hd fun H1 e1 z oq => ?_
  refine kk H1 _ ⟨hP.set hL.D ha ?_ oq, hL.set ha, by rw [List.length_set]; exact hl2, by omega⟩ (hS.put z oq (hL.D.2 q0 _ ha))
  show H1[a]? = some (vp_cell _ _)
  rw [e1, vp_cell_i, vp_cell_i, arrV_store]
  congr 2
  funext q
  by_cases hq : q = i.toNatClampNeg
  · subst hq
    simp [updV, upd]
  · simp [updV, upd, hq]
theorem z_istore (X : cX M D I n p s m args meth c) {k : Fin 4} {x : Int32} {lv lv' : List (Nat × Value)} (h : lv_has ls M.2.2.1 lv) (hn : (k : Nat) < M.2.2.1) (hl : ((k : Nat), Value.int x) :: lv.filter (fun q => !(q.1 == (k : Nat)) && !(q.1 + 1 == (k : Nat) && q.2.category == 2)) = lv') (hd : decode M.2.1 pc = .ok (.istore_n k, 1)) (kk : ∀ ls' : Array Slot, lv_has ls' M.2.2.1 lv' → cZ D n p l e R s m args below meth c Q (pc + 1) ls' st L w cells slots) : cZ D n p l e R s m args below meth c Q pc ls (.int x :: st) L w cells slots :=
  fun H locs hw hS => lv_istore_n X.1 X.2.1 hd rfl h hn hl (fun ls' h' => kk ls' h' H locs hw hS)
theorem z_iinc (X : cX M D I n p s m args meth c) {i k : Nat} {a : Int} {x v : Int32} {lv lv' : List (Nat × Value)} (h : lv_has ls M.2.2.1 lv) (hk : lv[k]? = some (i, .int x)) (hv : x + Int32.ofInt a = v) (hn : i < M.2.2.1) (hl : (i, Value.int v) :: lv.filter (fun q => !(q.1 == i) && !(q.1 + 1 == i && q.2.category == 2)) = lv') (hd : decode M.2.1 pc = .ok (.iinc i a, 3)) (kk : ∀ ls' : Array Slot, lv_has ls' M.2.2.1 lv' → cZ D n p l e R s m args below meth c Q (pc + 3) ls' st L w cells slots) : cZ D n p l e R s m args below meth c Q pc ls st L w cells slots :=
  fun H locs hw hS => lv_iinc X.1 X.2.1 hd h hk hv hn hl (fun ls' h' => kk ls' h' H locs hw hS)
theorem z_anew (X : cX M D I n p s m args meth c) {index : Nat} {v : Int32} (N : Nat) (hl : Cond.classLink M.1.cls index "BreathSold$State" ∈ gw_tb) (hv : ¬ v < 0) (hN : v.toNatClampNeg = N) (hby : N * 4 ≤ 536870912) (hd : decode M.2.1 pc = .ok (.anewarray index, 3)) (hc : cells + 1 ≤ R.cells) (hs : slots + N ≤ R.slots) {w' : va_W} (hw' : w ++ [(n + L, .inl (I.2.2.1, N, .inr (.inr (.inr (.inr (fun _ => none))))))] = w') (kk : cZ D n p l e R s m args below meth c Q (pc + 3) ls (.ref (n + L) :: st) (L + 1) w' (cells + 1) (slots + N)) : cZ D n p l e R s m args below meth c Q pc ls (.int v :: st) L w cells slots := by
  subst hw'
  subst hN
  intro H locs ⟨hP, hL, hl2, hz⟩ hS
  have hF := X.2.2.2.2.2.2.2.1
  refine W.anew X.1 X.2.1 X.2.2.2.2.1 (X.2.2.2.2.2.1 _ hl) (va_AO.use hF.2.2.1) rfl hd rfl hv hby hc hs fun cA kA comp f1 f2 f3 f4 => ?_
  obtain ⟨kA', comp', g1, g2, g3, g4⟩ := (hF.1.2 2 (I.2.2.1, .object "BreathSold$State") rfl).2
  have hcA : cA = I.2.2.1 := Option.some.inj (f1.symm.trans g4)
  subst hcA
  show W p l e R s m args below meth c (H.push { cls := I.2.2.1, slots := Array.replicate v.toNatClampNeg .null, vm := .none }) locs (cells + 1) (slots + v.toNatClampNeg) Q (F0 m (pc + 3) ls (.ref H.size :: st))
  generalize hH1 : H.push ({ cls := I.2.2.1, slots := Array.replicate v.toNatClampNeg .null, vm := .none } : Cell) = H1
  have z1 : H1.size = H.size + 1 := by rw [← hH1, Array.size_push]
  have e1 : H1[H.size]? = some (arrV I.2.2.1 v.toNatClampNeg (fun _ => .null)) := by rw [← hH1, Array.getElem?_push_size, ← arrV_new]
  have o1 : ∀ q : Nat, q < H.size → H1[q]? = H[q]? := fun q hq => by rw [← hH1, Array.getElem?_push, if_neg (Nat.ne_of_lt hq)]
  have hk : ∀ (k : Nat) (x : Nat × va_E), w[k]? = some x → H1[x.1]? = H[x.1]? := fun k x hx => o1 x.1 ((hP k x hx).lt)
  rw [hz]
  refine kk H1 locs ⟨(hP.kept hk).app (fun k x hx => ?_), hL.app (by rw [hl2]; exact cL.one), by simp [hl2], by omega⟩ ⟨by have := hS.1; omega, fun x h1 h2 => (o1 x (by have := hS.1; omega)).trans (hS.2.1 x h1 h2), hS.2.2⟩
  have hz0 : k < 1 := (List.getElem?_eq_some_iff.mp hx).1
  rw [show k = 0 by omega] at hx
  cases hx
  show H1[n + L]? = some (vp_cell _ _)
  rw [vp_cell_q, ← hz]
  exact e1
theorem z_aast (X : cX M D I n p s m args meth c) {q0 qk N a v : Nat} {vs : List Value} {f : Nat → Option Nat} {i : Int32} (ha : w[q0]? = some (a, .inl (I.2.2.1, N, .inr (.inr (.inr (.inr f)))))) (hv : w[qk]? = some (v, .inr (3, vs))) (hin : vp_in i N) (hd : decode M.2.1 pc = .ok (.aastore, 1)) {w' : va_W} (hw' : w.set q0 (a, .inl (I.2.2.1, N, .inr (.inr (.inr (.inr (va_up f i.toNatClampNeg (some v))))))) = w') (kk : cZ D n p l e R s m args below meth c Q (pc + 1) ls st L w' cells slots) : cZ D n p l e R s m args below meth c Q pc ls (.ref v :: .int i :: .ref a :: st) L w cells slots := by
  subst hw'
  intro H locs ⟨hP, hL, hl2, hz⟩ hS
  have hK := X.2.2.2.2.2.2.2.1.1
  have hlt : i.toNatClampNeg < N := Nat.not_le.mp fun q => hin (Or.inr q)
  have h0 : ¬ i < 0 := fun q => hin (Or.inl q)
  obtain ⟨r', hr', cellV, g1, g2, g3, -⟩ := hP qk _ hv
  have hcls := (hK.1 3 (RX3, TX3, 13) rfl).2
  obtain ⟨kA, comp, k1, k2, k3, -⟩ := (hK.2 2 (I.2.2.1, .object "BreathSold$State") rfl).2
  have hcomp : comp = D.1 3 := Option.some.inj (k3.symm.trans hcls.1)
  subst hcomp
  obtain ⟨kC, hkC, -⟩ := id hcls.2
  refine W.aast X.1 X.2.1 (hP q0 _ ha) (fun q h => by cases h) (fun h => by cases h) k1 k2 rfl hkC ⟨h0, by show _ < (arrV _ _ _).slots.size; rw [arrV_size]; exact hlt⟩ g1 (fun q h => by rw [g3] at h; cases h) (by rw [g2]; exact hkC) (by rw [g2]; exact va_assign hcls) rfl rfl hd fun H1 e1 z oq => ?_
  refine kk H1 _ ⟨hP.set hL.D ha ?_ oq, hL.set ha, by rw [List.length_set]; exact hl2, by omega⟩ (hS.put z oq (hL.D.2 q0 _ ha))
  show H1[a]? = some (vp_cell _ _)
  rw [e1, vp_cell_q, vp_cell_q, arrV_store]
  congr 2
  funext q
  by_cases hq : q = i.toNatClampNeg
  · subst hq
    simp [updV, va_up, va_rf]
  · simp [updV, va_up, hq]
end CC
