/-! the law's own steps -/
def lX (D : va_G) (ad : Nat → Nat) (dA : Nat → ClassId) (p : Program) (s : State) (m : MethodId) (args : Array Value) (c : Code) (b Lx : Nat) (xs : Nat → Int32) : Prop :=
  p.tables.exec = Jvm.exec ∧ c.code = cL_law ∧ c.maxLocals = 4 ∧ s.vm.findClass R_law = some m.cls ∧ (∀ w ∈ gw_tb, w.before args s = true) ∧ gw_F D ad dA s ∧ va_X b Lx xs s s.heap ∧ b < s.heap.size ∧ ∀ k, s.heap.size ≤ ad k
def lZ (D : va_G) (ad : Nat → Nat) (dA : Nat → ClassId) (p : Program) (l : Launch) (e : Env) (s : State) (m : MethodId) (args : Array Value) (below : List Frame) (meth : Method) (c : Code) (Q : State → Prop) (pc : Nat) (ls : Array Slot) (st : List Value) (σ : gw_S) : Prop :=
  ∀ (H : Heap) (locs : List Loc), va_P D vwCl (gw_wl ad dA σ) H → va_S (fun q => s.heap.size ≤ q) s.heap H locs → W p l e room_1 s m args below meth c H locs 173 5156 Q (F0 m pc ls st)
theorem l_in {i j Lx : Nat} (hb : i + 6 ≤ Lx) (hL : Lx ≤ 384) (hj : j ≤ 5) : vp_in (nI i + nI j) Lx := by
  rw [nI_add]
  exact vp_in_nI (by omega) (by omega)
section LW
variable {D : va_G} {ad : Nat → Nat} {dA : Nat → ClassId} {p : Program} {l : Launch} {e : Env} {s : State} {m : MethodId} {args : Array Value} {below : List Frame} {meth : Method} {c : Code} {Q : State → Prop} {pc : Nat} {ls : Array Slot} {st : List Value} {σ : gw_S} {b Lx : Nat} {xs : Nat → Int32}
theorem y_norm {pc' : Nat} {st' : List Value} (h1 : pc = pc') (h2 : st = st') (kk : lZ D ad dA p l e s m args below meth c Q pc' ls st' σ) : lZ D ad dA p l e s m args below meth c Q pc ls st σ := by
  subst h1
  subst h2
  exact kk
theorem y_aload (X : lX D ad dA p s m args c b Lx xs) {k : Fin 4} {x : Nat} (hl : ls[(k : Nat)]? = some (.val (.ref x))) (hd : decode cL_law pc = .ok (.aload_n k, 1)) (kk : lZ D ad dA p l e s m args below meth c Q (pc + 1) ls (.ref x :: st) σ) : lZ D ad dA p l e s m args below meth c Q pc ls st σ :=
  fun H locs hw hS => lv_aload_n X.1 X.2.1 hd rfl hl (kk H locs hw hS)
theorem y_iload (X : lX D ad dA p s m args c b Lx xs) {k : Fin 4} {x : Int32} (hl : ls[(k : Nat)]? = some (.val (.int x))) (hd : decode cL_law pc = .ok (.iload_n k, 1)) (kk : lZ D ad dA p l e s m args below meth c Q (pc + 1) ls (.int x :: st) σ) : lZ D ad dA p l e s m args below meth c Q pc ls st σ :=
  fun H locs hw hS => lv_iload_n X.1 X.2.1 hd rfl hl (kk H locs hw hS)
theorem y_iconst (X : lX D ad dA p s m args c b Lx xs) {k : Int} (v : Int32) (hd : decode cL_law pc = .ok (.iconst k, 1)) (hv : Int32.ofInt k = v) (kk : lZ D ad dA p l e s m args below meth c Q (pc + 1) ls (.int v :: st) σ) : lZ D ad dA p l e s m args below meth c Q pc ls st σ :=
  fun H locs hw hS => lv_iconst X.1 X.2.1 hd hv (kk H locs hw hS)
theorem y_bipush (X : lX D ad dA p s m args c b Lx xs) {k : Int} (v : Int32) (hd : decode cL_law pc = .ok (.bipush k, 2)) (hv : (Int8.ofInt k).toInt32 = v) (kk : lZ D ad dA p l e s m args below meth c Q (pc + 2) ls (.int v :: st) σ) : lZ D ad dA p l e s m args below meth c Q pc ls st σ :=
  fun H locs hw hS => lv_bipush X.1 X.2.1 hd hv (kk H locs hw hS)
theorem y_iadd (X : lX D ad dA p s m args c b Lx xs) {x y : Int32} (hd : decode cL_law pc = .ok (.iadd, 1)) (kk : lZ D ad dA p l e s m args below meth c Q (pc + 1) ls (.int (x + y) :: st) σ) : lZ D ad dA p l e s m args below meth c Q pc ls (.int y :: .int x :: st) σ :=
  fun H locs hw hS => lv_iadd X.1 X.2.1 hd (kk H locs hw hS)
theorem y_isub (X : lX D ad dA p s m args c b Lx xs) {x y : Int32} (hd : decode cL_law pc = .ok (.isub, 1)) (kk : lZ D ad dA p l e s m args below meth c Q (pc + 1) ls (.int (x - y) :: st) σ) : lZ D ad dA p l e s m args below meth c Q pc ls (.int y :: .int x :: st) σ :=
  fun H locs hw hS => lv_isub X.1 X.2.1 hd (kk H locs hw hS)
theorem y_iand (X : lX D ad dA p s m args c b Lx xs) {x y : Int32} (hd : decode cL_law pc = .ok (.iand, 1)) (kk : lZ D ad dA p l e s m args below meth c Q (pc + 1) ls (.int (x &&& y) :: st) σ) : lZ D ad dA p l e s m args below meth c Q pc ls (.int y :: .int x :: st) σ :=
  fun H locs hw hS => lv_iand X.1 X.2.1 hd (kk H locs hw hS)
theorem y_sld (X : lX D ad dA p s m args c b Lx xs) {i : Int32} (hin : vp_in i Lx) (hd : decode cL_law pc = .ok (.iaload, 1)) (kk : lZ D ad dA p l e s m args below meth c Q (pc + 1) ls (.int (xs i.toNatClampNeg) :: st) σ) : lZ D ad dA p l e s m args below meth c Q pc ls (.int i :: .ref b :: st) σ :=
  fun H locs hw hS => va_sld X.1 X.2.1 X.2.2.2.2.2.2.1 X.2.2.2.2.2.2.2.1 (by have := X.2.2.2.2.2.2.2.1; omega) hS hin hd (kk H locs hw hS)
theorem y_slen (X : lX D ad dA p s m args c b Lx xs) (hd : decode cL_law pc = .ok (.arraylength, 1)) (kk : lZ D ad dA p l e s m args below meth c Q (pc + 1) ls (.int (nI Lx) :: st) σ) : lZ D ad dA p l e s m args below meth c Q pc ls (.ref b :: st) σ :=
  fun H locs hw hS => va_slen X.1 X.2.1 X.2.2.2.2.2.2.1 X.2.2.2.2.2.2.2.1 (by have := X.2.2.2.2.2.2.2.1; omega) hS hd (kk H locs hw hS)
/-- two ints that are the same -/
theorem y_eq (X : lX D ad dA p s m args c b Lx xs) {x : Int32} {off : Int} {tgt : Nat} (hd : decode cL_law pc = .ok (.if_icmp .eq off, 3)) (ht : (pc : Int) + off = (tgt : Int)) (kk : lZ D ad dA p l e s m args below meth c Q tgt ls st σ) : lZ D ad dA p l e s m args below meth c Q pc ls (.int x :: .int x :: st) σ :=
  fun H locs hw hS => lv_icmp_eq X.1 X.2.1 hd ht (fun _ => kk H locs hw hS) (fun h => absurd rfl h)
theorem y_leq (X : lX D ad dA p s m args c b Lx xs) {x : Int64} {off : Int} {tgt : Nat} (hd : decode cL_law pc = .ok (.lcmp, 1)) (hd2 : decode cL_law (pc + 1) = .ok (.ifCond .eq off, 3)) (ht : ((pc + 1 : Nat) : Int) + off = (tgt : Int)) (kk : lZ D ad dA p l e s m args below meth c Q tgt ls st σ) : lZ D ad dA p l e s m args below meth c Q pc ls (.long x :: .long x :: st) σ :=
  fun H locs hw hS => W.lcmp X.1 X.2.1 hd (lv_if_eq X.1 X.2.1 hd2 ht (fun _ => kk H locs hw hS) (fun h => absurd (by rw [lg_cmp_eq]) h))
theorem y_gt (X : lX D ad dA p s m args c b Lx xs) {x y : Int32} {off : Int} {tgt : Nat} (hd : decode cL_law pc = .ok (.if_icmp .gt off, 3)) (ht : (pc : Int) + off = (tgt : Int)) (kt : y < x → lZ D ad dA p l e s m args below meth c Q tgt ls st σ) (kf : ¬ y < x → lZ D ad dA p l e s m args below meth c Q (pc + 3) ls st σ) : lZ D ad dA p l e s m args below meth c Q pc ls (.int y :: .int x :: st) σ :=
  fun H locs hw hS => lv_icmp_gt X.1 X.2.1 hd ht (fun h => kt h H locs hw hS) (fun h => kf h H locs hw hS)
theorem y_goto (X : lX D ad dA p s m args c b Lx xs) {off : Int} {tgt : Nat} (hd : decode cL_law pc = .ok (.goto off, 3)) (ht : (pc : Int) + off = (tgt : Int)) (kk : lZ D ad dA p l e s m args below meth c Q tgt ls st σ) : lZ D ad dA p l e s m args below meth c Q pc ls st σ :=
  fun H locs hw hS => lv_goto X.1 X.2.1 hd ht (kk H locs hw hS)
theorem y_iinc (X : lX D ad dA p s m args c b Lx xs) {i k : Nat} {a : Int} {x v : Int32} {lv lv' : List (Nat × Value)} (h : lv_has ls 4 lv) (hk : lv[k]? = some (i, .int x)) (hv : x + Int32.ofInt a = v) (hn : i < 4) (hl : (i, Value.int v) :: lv.filter (fun q => !(q.1 == i) && !(q.1 + 1 == i && q.2.category == 2)) = lv') (hd : decode cL_law pc = .ok (.iinc i a, 3)) (kk : ∀ ls' : Array Slot, lv_has ls' 4 lv' → lZ D ad dA p l e s m args below meth c Q (pc + 3) ls' st σ) : lZ D ad dA p l e s m args below meth c Q pc ls st σ :=
  fun H locs hw hS => lv_iinc X.1 X.2.1 hd h hk hv hn hl (fun ls' h' => kk ls' h' H locs hw hS)
theorem y_call (X : lX D ad dA p s m args c b Lx xs) {d2 n idx k ci : Nat} {M2 : gw_M} {sl : List (Option Nat)} (as : List Value) {st0 : List Value} (hd : decode cL_law pc = .ok (.invokevirtual idx, 3)) (hl : Cond.methodLink R_law idx M2.1 ∈ gw_tb) (ho : gw_mv M2 n) (hk : gw_k k = some (.inr (.inr (ci, sl)))) (hc : (vwCl[ci]?).map (fun q => q.1) = some M2.1.cls) (hn : as.length = n) (hst : st0 = (as.map (gw_v ad)).reverse ++ .ref (ad k) :: st) (hr : (st.map fun v => v.category).sum ≤ 8) (hdd : d2 ≤ 100) (hsz : ls.size = 4)
    (kk : gB d2 M2 (.ref k :: as) σ (fun v σ2 => lZ D ad dA p l e s m args below meth c Q (pc + 3) ls ((v.map (gw_v ad)).toList ++ st) σ2)) : lZ D ad dA p l e s m args below meth c Q pc ls st0 σ := by
  subst hst
  intro H locs hP hS T hT Xs
  have hts := X.2.2.2.2.1
  have hF := X.2.2.2.2.2.1
  obtain ⟨⟨tys, hK, hTy⟩, hJ, hN⟩ := id hF
  obtain ⟨⟨o1, o2, o3, o4⟩, o5, o6⟩ := ho
  obtain ⟨r, hr1, hr2⟩ : ∃ r, vwCl[ci]? = some r ∧ r.1 = M2.1.cls := by
    cases hx : vwCl[ci]? with
    | none => rw [hx] at hc; cases hc
    | some r => rw [hx] at hc; exact ⟨r, rfl, Option.some.inj hc⟩
  have hrecv := va_recv (q := r) hK hP hr1 (gw_wl_at hk)
  rw [hr2] at hrecv
  have hRR : (gw_R d2).frames + 1 ≤ room_1.frames ∧ 8 + (M2.2.2.1 + 11) + (gw_R d2).locals ≤ room_1.locals := ⟨by show d2 + 1 ≤ 2048; omega, by show 8 + (M2.2.2.1 + 11) + 44 * d2 ≤ 84000; omega⟩
  have run : va_Run p l e room_1 s m args below meth c H locs 173 5156 0 0 (F0 m pc ls ((as.map (gw_v ad)).reverse ++ .ref (ad k) :: st)) st (gw_Q D ad dA (fun v σ2 => lZ D ad dA p l e s m args below meth c Q (pc + 3) ls ((v.map (gw_v ad)).toList ++ st) σ2) (Value.ref (ad k) :: as.map (gw_v ad)).toArray) (gw_A ad) :=
    va_runV (C := M2.1.cls) (b := ad k) (As := as.map (gw_v ad)) (n := n) ⟨X.1, X.2.1, X.2.2.1, X.2.2.2.1, hts⟩ (kk l D ad dA) ⟨callB_of n hts (gw_goodT o1) rfl rfl rfl (hts _ o2) (hts _ hl) o3 hRR, hts _ o5, hts _ o6⟩ ⟨gw_blind, hrecv, fun U hU hW => ⟨rfl, by rw [hU]; exact hP, hF.warm hW⟩⟩ rfl (by simpa using hn) hsz rfl (lv_room hr) hd ⟨by decide, by decide⟩
  obtain ⟨v, st₀, t, T', L, h0, X', hL, e1, e2, ⟨⟨v', σ', hv, hq, hPt, hFt⟩, hz, hk1⟩, stp⟩ := run T hT Xs
  rw [h0] at hz hk1
  have hv' : v = v'.map (gw_v ad) := by
    have := hv
    injection this
  subst hv'
  have hA : ∀ q, gw_A ad q → s.heap.size ≤ q := fun q hq => by
    obtain ⟨k', -, rfl⟩ := hq
    exact X.2.2.2.2.2.2.2.2 k'
  obtain ⟨t2, b1, b2⟩ := hq T'.heap (locs ++ L) (by rw [e1]; exact hPt) ⟨Nat.le_trans hS.1 (by rw [e1]; exact hz), fun q h1 h2 => by rw [e1, hk1 q (Nat.lt_of_lt_of_le h1 hS.1) (fun z => h2 (hA q z))]; exact hS.2.1 q h1 h2, fun q hq => by
      rcases List.mem_append.mp hq with h | h
      · exact hS.2.2 q h
      · exact hA _ (hL q h)⟩ T' rfl X'
  exact ⟨t2, stp t2 b1, b2⟩
end LW
