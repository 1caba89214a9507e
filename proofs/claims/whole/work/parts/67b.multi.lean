/-! multianewarray of two lengths, walked over the machine's own text: the outer row, then each inner row and its store -/
section MU
def mu_c (cA : ClassId) (N h i : Nat) : Cell := arrV cA N (fun j => va_rf (if j < i then some (h + 1 + j) else none))
def mu_S (T : State) (cA comp : ClassId) (N K : Nat) : Nat → State
  | 0 => T.pushCell (mu_c cA N T.heap.size 0)
  | i + 1 => ((mu_S T cA comp N K i).pushCell (arrV comp K (fun _ => .int 0))).setCell T.heap.size (mu_c cA N T.heap.size (i + 1))
theorem mu_c0 (cA : ClassId) (N h : Nat) : ({ cls := cA, slots := Array.replicate N .null, vm := .none } : Cell) = mu_c cA N h 0 := by
  rw [arrV_new]
  unfold mu_c
  refine congrArg (arrV cA N) (funext fun j => ?_)
  rw [if_neg (by omega)]
  rfl
theorem mu_cs (cA : ClassId) (N h i : Nat) : (mu_c cA N h i).setSlot i (.ref (h + 1 + i)) = mu_c cA N h (i + 1) := by
  unfold mu_c
  rw [arrV_store]
  refine congrArg (arrV cA N) (funext fun j => ?_)
  unfold updV
  by_cases e : j = i
  · subst e
    rw [if_pos rfl, if_pos (by omega)]
    rfl
  · rw [if_neg e]
    show va_rf (if j < i then some (h + 1 + j) else none) = _
    by_cases h2 : j < i
    · rw [if_pos h2, if_pos (by omega)]
    · rw [if_neg h2, if_neg (by omega)]
theorem mu_csz (cA : ClassId) (N h i : Nat) : (mu_c cA N h i).slots.size = N := by simp [mu_c, arrV]
variable {T : State} {cA comp : ClassId} {N K : Nat}
theorem mu_sz : ∀ i : Nat, (mu_S T cA comp N K i).heap.size = T.heap.size + 1 + i
  | 0 => by
    show (T.heap.push _).size = _
    rw [Array.size_push]
  | i + 1 => by
    show (((mu_S T cA comp N K i).heap.push _).setIfInBounds _ _).size = _
    rw [Array.size_setIfInBounds, Array.size_push, mu_sz i]
    omega
theorem mu_vm : ∀ i : Nat, (mu_S T cA comp N K i).vm = T.vm
  | 0 => rfl
  | i + 1 => mu_vm i
theorem mu_push {S : State} {x : Cell} {q : Nat} (h : q < S.heap.size) : (S.pushCell x).heap[q]? = S.heap[q]? := by
  show (S.heap.push x)[q]? = _
  rw [Array.getElem?_push, if_neg (by omega)]
theorem mu_outer : ∀ i : Nat, (mu_S T cA comp N K i).heap[T.heap.size]? = some (mu_c cA N T.heap.size i)
  | 0 => by
    show (T.heap.push _)[T.heap.size]? = _
    rw [Array.getElem?_push, if_pos rfl]
  | i + 1 => heapAt_setCell_self _ (by
    show T.heap.size < ((mu_S T cA comp N K i).heap.push _).size
    rw [Array.size_push, mu_sz i]
    omega)
theorem mu_old {x : Nat} (hx : x < T.heap.size) : ∀ i : Nat, (mu_S T cA comp N K i).heap[x]? = T.heap[x]?
  | 0 => mu_push hx
  | i + 1 => (heapAt_setCell_ne _ (Nat.ne_of_gt hx)).trans ((mu_push (by rw [mu_sz i]; omega)).trans (mu_old hx i))
theorem mu_row : ∀ i j : Nat, j < i → (mu_S T cA comp N K i).heap[T.heap.size + 1 + j]? = some (arrV comp K (fun _ => .int 0))
  | 0, j, h => absurd h (Nat.not_lt_zero j)
  | i + 1, j, h => (heapAt_setCell_ne _ (show T.heap.size ≠ T.heap.size + 1 + j by omega)).trans (by
    by_cases e : j = i
    · subst e
      show ((mu_S T cA comp N K j).heap.push _)[T.heap.size + 1 + j]? = _
      rw [Array.getElem?_push, if_pos (mu_sz j).symm]
    · exact (mu_push (by rw [mu_sz i]; omega)).trans (mu_row i j (by omega)))
theorem mu_top (f : JFrame) : ∀ i : Nat, mu_S (T.setTop f) cA comp N K i = (mu_S T cA comp N K i).setTop f
  | 0 => rfl
  | i + 1 => by
    show ((mu_S (T.setTop f) cA comp N K i).pushCell _).setCell T.heap.size _ = _
    rw [mu_top f i]
    rfl
theorem mu_top2 : ∀ i : Nat, (mu_S T cA comp N K i).topJava? = T.topJava?
  | 0 => rfl
  | i + 1 => mu_top2 i
/-- one inner row -/
theorem mu_in {E : CtlPost} {e : Env} {d : Bool} {acts : List Action} {s : State} {Q : Addr → Pre} {x : ClassId} {k : Class} {b : Int32} (hk : s.vm.classes[comp]? = some k) (hkind : k.kind = .array x .int) (hb : ¬ b < 0) (hK : b.toNatClampNeg = K) (hlim : ¬ K > e.platform.arrayLengthLimit) (hheap : ¬ K * componentBytes .int > e.platform.maxHeapBytes) (hc : s.heap.size < e.platform.maxCells) (hs : s.slotsUsed + K ≤ e.platform.maxSlots) (hq : ∀ acts', Q s.heap.size d acts' (s.pushCell (arrV comp K (fun _ => .int 0)))) : wp (multianewarray.make comp [b]) Q E e d acts s := by
  rw [multianewarray.make]
  simp only [wp_bind', W.ite, hb, if_false, wp_pure', W.theClass, hk, Option.some.injEq, exists_eq_left', hkind, hK]
  refine W.newArray_of hk hkind hlim hheap hc hs rfl fun acts' => ?_
  have := hq acts'
  rw [← arrV_new] at this
  exact this
/-- the rows, one by one -/
theorem mu_loop {E : CtlPost} {e : Env} {x : ClassId} {k k2 : Class} {b : Int32} (hk : T.vm.classes[cA]? = some k) (hkind : k.kind = .array comp (.array .int)) (hk2 : T.vm.classes[comp]? = some k2) (hkind2 : k2.kind = .array x .int) (hb : ¬ b < 0) (hK : b.toNatClampNeg = K) (hlim : ¬ K > e.platform.arrayLengthLimit) (hheap : ¬ K * componentBytes .int > e.platform.maxHeapBytes) (room : ∀ i, i < N → (mu_S T cA comp N K i).heap.size < e.platform.maxCells ∧ (mu_S T cA comp N K i).slotsUsed + K ≤ e.platform.maxSlots)
    (f : Nat → PUnit → Sem (ForInStep PUnit)) (hf : ∀ i u, f i u = (do let a ← multianewarray.make comp [b]; writeLoc T.heap.size i (.ref a); Pure.pure (ForInStep.yield PUnit.unit))) : ∀ (y i : Nat) (d : Bool) (acts : List Action) (Q : PUnit → Pre), i + y = N → (∀ d' acts', Q PUnit.unit d' acts' (mu_S T cA comp N K N)) → wp (forIn (List.range' i y) PUnit.unit f) Q E e d acts (mu_S T cA comp N K i)
  | 0, i, d, acts, Q, hi, hq => by
    have : i = N := by omega
    subst this
    simp only [List.range'_zero, List.forIn_nil, wp_pure']
    exact hq d acts
  | y + 1, i, d, acts, Q, hi, hq => by
    rw [List.range'_succ]
    simp only [List.forIn_cons, hf, wp_bind']
    refine mu_in (by rw [mu_vm]; exact hk2) hkind2 hb hK hlim hheap (room i (by omega)).1 (room i (by omega)).2 fun acts' => ?_
    rw [wp_bind']
    refine (W.writeLoc _ _ _ _).mpr ?_
    refine ⟨mu_c cA N T.heap.size i, (mu_push (by rw [mu_sz]; omega)).trans (mu_outer i), by simp [mu_c, arrV], by rw [mu_csz]; omega, ?_, ?_⟩
    · show State.fitsSlot _ cA .none i _ = true
      simp [State.fitsSlot, State.slotType?, mu_vm, hk, hkind, fits]
    · rw [mu_sz, mu_cs]
      exact mu_loop hk hkind hk2 hkind2 hb hK hlim hheap room f hf y (i + 1) _ _ Q (by omega) hq
/-- the whole instruction, its entry ready -/
theorem mu_sem {Q : Unit → Pre} {E : CtlPost} {e : Env} {d : Bool} {acts : List Action} {f : JFrame} {index : Nat} {x : ClassId} {k k2 : Class} {a b : Int32} {rest : List Value} (hs : T.topJava?.isSome) (hr : T.vm.classReady f.method.cls index cA) (hk : T.vm.classes[cA]? = some k) (hkind : k.kind = .array comp (.array .int)) (hk2 : T.vm.classes[comp]? = some k2) (hkind2 : k2.kind = .array x .int) (hst : f.stack = .int b :: .int a :: rest) (ha : ¬ a < 0) (ha0 : (a == 0) = false) (hb : ¬ b < 0) (hN : a.toNatClampNeg = N) (hK : b.toNatClampNeg = K) (hlN : ¬ N > e.platform.arrayLengthLimit) (hhN : ¬ N * componentBytes (.array .int) > e.platform.maxHeapBytes) (hlim : ¬ K > e.platform.arrayLengthLimit) (hheap : ¬ K * componentBytes .int > e.platform.maxHeapBytes) (r0 : T.heap.size < e.platform.maxCells ∧ T.slotsUsed + N ≤ e.platform.maxSlots) (room : ∀ i, i < N → (mu_S T cA comp N K i).heap.size < e.platform.maxCells ∧ (mu_S T cA comp N K i).slotsUsed + K ≤ e.platform.maxSlots)
    (hq : ∀ acts', Q () true acts' ((mu_S T cA comp N K N).setTop { f with stack := .ref T.heap.size :: rest })) : wp (multianewarray.sem index 2) Q E e d acts (T.setTop f) := by
  have hU := mu_top (T := T) (cA := cA) (comp := comp) (N := N) (K := K) { f with stack := rest }
  unfold multianewarray.sem
  simp only [wp_bind', W.resolveClassAt_ready (State.method?_setTop f hs) hr, W.popN]
  rw [if_neg (by decide)]
  refine ⟨f, State.topJava?_setTop' _ hs, [.int a, .int b], rest, rfl, hst, ?_⟩
  simp only [State.setTop_setTop, List.mapM_cons, List.mapM_nil, wp_bind', wp_pure']
  rw [multianewarray.make]
  simp only [wp_bind', W.ite, ha, if_false, wp_pure', W.theClass, State.vm_setTop, hk, Option.some.injEq, exists_eq_left', hkind, hN, ha0]
  refine W.newArray_of (k := k) hk hkind hlN hhN r0.1 r0.2 rfl fun acts' => ?_
  have h2 : ∀ acts2 d2, wp (pushRef T.heap.size) Q E e d2 acts2 ((mu_S T cA comp N K N).setTop { f with stack := rest }) := fun acts2 d2 => by
    simp only [W.pushRef]
    refine ⟨{ f with stack := rest }, State.topJava?_setTop' _ (by rw [mu_top2]; exact hs), ?_⟩
    rw [State.setTop_setTop]
    exact hq acts2
  rw [mu_c0 cA N T.heap.size]
  have hsz : ([:N] : Std.Legacy.Range).size = N := by simp [Std.Legacy.Range.size]
  simp only [Std.Legacy.Range.forIn_eq_forIn_range', hsz]
  rw [if_neg (by decide), wp_bind']
  refine mu_loop (T := T.setTop { f with stack := rest }) (N := N) (k := k) (k2 := k2) hk hkind hk2 hkind2 hb hK hlim hheap (fun i hi => by rw [hU]; exact room i hi) _ (fun i u => rfl) N 0 _ _ _ (by omega) (fun d' acts2 => ?_)
  rw [hU]
  rw [wp_pure', wp_bind', W.mark]
  exact h2 _ d'
theorem mu_cold {Q : Unit → Pre} {E : CtlPost} {e : Env} {d : Bool} {acts : List Action} {f : JFrame} {index : Nat} {vm' : Vm} (hs : T.topJava?.isSome) (hg : (Jvm.resolveClass f.method.cls index).Gives e.toSetting T.vm (.ok cA) vm') (hr : vm'.classReady f.method.cls index cA) (hsz : vm'.classes.size ≤ T.vm.classes.size) (h : wp (multianewarray.sem index 2) Q E e d acts ((T.setVm vm').setTop f)) : wp (multianewarray.sem index 2) Q E e d acts (T.setTop f) := by
  unfold multianewarray.sem at h ⊢
  rw [wp_bind'] at h ⊢
  exact (W.resolveClassAt_transfer (s := T.setTop f) (State.method?_setTop f hs) hg hr hsz).mpr h
def mu_L (h : Nat) : Nat → List Loc
  | 0 => []
  | i + 1 => mu_L h i ++ [⟨h, i⟩]
theorem mu_Lb {h : Nat} : ∀ (i : Nat) (q : Loc), q ∈ mu_L h i → q.base = h
  | 0, _, hq => by cases hq
  | i + 1, q, hq => by
    rcases List.mem_append.mp hq with h1 | h1
    · exact mu_Lb i q h1
    · rw [List.mem_singleton.mp h1]
end MU
section MV
variable {p : Program} {l : Launch} {e : Env} {R : Room} {s : State} {m : MethodId} {args : Array Value} {below : List Frame} {meth : Method} {c : Code} {T : State} {locs : List Loc} {cells slots : Nat} {cA comp : ClassId} {N K : Nat}
theorem mu_X (X : Stand p l e R s m args below meth c T locs cells slots) : ∀ i : Nat, Stand p l e R s m args below meth c (mu_S T cA comp N K i) (locs ++ mu_L T.heap.size i) (cells + (1 + i)) (slots + (N + i * K))
  | 0 => by
    have h := X.pushed (mu_c cA N T.heap.size 0)
    rw [mu_csz] at h
    rw [show locs ++ mu_L T.heap.size 0 = locs from List.append_nil locs, Nat.zero_mul]
    exact h
  | i + 1 => by
    have h := ((mu_X X i).pushed (arrV comp K (fun _ => .int 0))).stored (a := T.heap.size) (cell := mu_c cA N T.heap.size i) ((mu_push (by rw [mu_sz]; omega)).trans (mu_outer i)) i (.ref (T.heap.size + 1 + i))
    rw [mu_cs, show (arrV comp K (fun _ => Value.int 0)).slots.size = K by simp [arrV], List.append_assoc] at h
    rw [show cells + (1 + (i + 1)) = cells + (1 + i) + 1 by omega, show slots + (N + (i + 1) * K) = slots + (N + i * K) + K by rw [Nat.succ_mul]; omega]
    exact h
/-- multianewarray of two lengths over ints -/
theorem mu_step (X : Stand p l e R s m args below meth c T locs cells slots) (hexec : p.tables.exec = Jvm.exec) {own : String} {index : Nat} (hown : s.vm.findClass own = some m.cls) (hclink : (Cond.classLink own index "[[I").before args s = true) {A : Array Value} (hover : (Cond.arrayOver (.array .int)).before A s = true) (hac : (Cond.arrayClass .int).before args s = true)
    {g : JFrame} (hg : g.method = m) (hdg : decode c.code g.pc = .ok (.multianewarray index 2, 4)) {a b : Int32} {rest : List Value} (hst : g.stack = .int b :: .int a :: rest) (ha : ¬ a < 0) (ha0 : (a == 0) = false) (hb : ¬ b < 0) (hN : a.toNatClampNeg = N) (hK : b.toNatClampNeg = K) (hN1 : N ≤ 1000) (hK1 : K ≤ 1000) (hc : cells + (1 + N) ≤ R.cells) (hs : slots + (N + N * K) ≤ R.slots) :
    ∃ (vm₁ : Vm) (cA comp : ClassId), s.vm.findClass "[[I" = some cA ∧ s.vm.findClass "[I" = some comp ∧ Stand p l e R s m args below meth c (mu_S (T.setVm vm₁) cA comp N K N) (locs ++ mu_L T.heap.size N) (cells + (1 + N)) (slots + (N + N * K)) ∧
      ∀ target, Steps p.tables e below ((mu_S (T.setVm vm₁) cA comp N K N).setTop { g with pc := g.pc + 4, stack := .ref T.heap.size :: rest }) target → Steps p.tables e below (T.setTop g) target := by
  subst hg
  have hpl : e.platform.magicAccessors = ({} : Platform).magicAccessors := by rw [X.admits.platform]
  obtain ⟨comp, cA, kA, hcomp, -, hkA, hkindA, hnameA⟩ := arrayOverA_spec hover
  obtain ⟨cc, hfcc, hcl⟩ := Cond.classLink_spec hown hclink e.platform hpl
  have e1 : cc = cA := Option.some.inj (hfcc.symm.trans hnameA)
  subst e1
  obtain ⟨c2, kC, x, hf2, hkC, hkindC⟩ := Cond.arrayClass_spec hac
  have e2 : c2 = comp := Option.some.inj (hf2.symm.trans hcomp)
  subst e2
  obtain ⟨hg₁, hwarm₁, hready₁⟩ := State.classEntry (e := e) X.warmed hcl
  generalize T.vm.noted g.method.cls index (.cls cc) = vm₁ at hg₁ hwarm₁ hready₁
  have hal : s.vm.Alike vm₁ := hwarm₁.alike
  obtain ⟨kA₁, hkA₁, heA⟩ := hal.2.2 _ _ hkA
  have hkindA₁ : kA₁.kind = .array c2 (.array .int) := by rw [heA]; exact hkindA
  obtain ⟨kC₁, hkC₁, heC⟩ := hal.2.2 _ _ hkC
  have hkindC₁ : kC₁.kind = .array x .int := by rw [heC]; exact hkindC
  have X₁ := X.noted hwarm₁
  have hsz : vm₁.classes.size ≤ T.vm.classes.size := Vm.Alike.size_le (X.warmed.alike.symm.trans hal)
  have room : ∀ i, i < N → (mu_S (T.setVm vm₁) cc c2 N K i).heap.size < e.platform.maxCells ∧ (mu_S (T.setVm vm₁) cc c2 N K i).slotsUsed + K ≤ e.platform.maxSlots := fun i hi => by
    have hm : (i + 1) * K ≤ N * K := Nat.mul_le_mul_right K hi
    rw [Nat.succ_mul] at hm
    obtain ⟨q1, q2⟩ := (mu_X (cA := cc) (comp := c2) (N := N) (K := K) X₁ i).roomAbove (a := 1) (b := K) (by omega) (by omega)
    exact ⟨by omega, q2⟩
  obtain ⟨r1, r2⟩ := X₁.roomAbove (a := 1) (b := N) (by omega) (by omega)
  have lim : ∀ n : Nat, n ≤ 1000 → ¬ n > e.platform.arrayLengthLimit := fun n hn => by
    rw [Launch.admits_arrayLengthLimit X.admits]
    omega
  have hhp : ∀ n : Nat, n ≤ 1000 → ¬ n * 4 > e.platform.maxHeapBytes := fun n hn => by
    rw [Launch.admits_maxHeapBytes X.admits]
    omega
  refine ⟨vm₁, cc, c2, hfcc, hcomp, mu_X X₁ N, fun target hrest => ?_⟩
  refine Steps.instr (c := _) (by simpa using X.here) ?_
  simp only [jvm, wpRun, hexec, exec, X.here.top, hdg]
  refine mu_cold X.here.top hg₁ hready₁ hsz ?_
  refine mu_sem (T := T.setVm vm₁) X.here.top hready₁ hkA₁ hkindA₁ hkC₁ hkindC₁ hst ha ha0 hb hN hK (lim N hN1) (hhp N hN1) (lim K hK1) (hhp K hK1) ⟨by omega, r2⟩ room fun acts' => ?_
  simpa [jvm, X.here.top] using hrest
end MV
