/-! the law: its loop, its start -/
set_option maxRecDepth 20000 in
theorem kx_X8_23 : Cond.methodLinkNest RX8 23 yX6_init "BreathSold" ∈ lw_tbl := List.mem_append_right _ (List.mem_append_left _ (List.mem_of_getElem? (i := 54) rfl))
set_option maxRecDepth 20000 in
theorem kx_X6_11 : Cond.methodLinkNest RX6 11 yX4_init "BreathSold" ∈ lw_tbl := List.mem_append_right _ (List.mem_append_left _ (List.mem_of_getElem? (i := 60) rfl))
set_option maxRecDepth 20000 in
theorem kx_X6_20 : Cond.methodLinkNest RX6 20 yX0_init "BreathSold" ∈ lw_tbl := List.mem_append_right _ (List.mem_append_left _ (List.mem_of_getElem? (i := 92) rfl))
set_option maxRecDepth 20000 in
theorem kx_X8_30 : Cond.methodLinkNest RX8 30 yX2_init "BreathSold" ∈ lw_tbl := List.mem_append_right _ (List.mem_append_left _ (List.mem_of_getElem? (i := 147) rfl))
set_option maxRecDepth 20000 in
theorem kx_X8_37 : Cond.methodLinkNest RX8 37 yX7_init "BreathSold" ∈ lw_tbl := List.mem_append_right _ (List.mem_append_left _ (List.mem_of_getElem? (i := 176) rfl))
set_option maxRecDepth 20000 in
theorem kx_X8_51 : Cond.methodLinkNest RX8 51 yX3_init "BreathSold" ∈ lw_tbl := List.mem_append_right _ (List.mem_append_left _ (List.mem_of_getElem? (i := 223) rfl))
set_option maxRecDepth 20000 in
theorem kx_n1 : gw_n1 ∈ lw_tbl := List.mem_append_right _ (List.mem_append_right _ (List.mem_append_right _ (List.mem_append_left _ (List.mem_of_getElem? (i := 211) rfl))))
set_option maxRecDepth 20000 in
theorem kx_n3 : gw_n3 ∈ lw_tbl := List.mem_append_right _ (List.mem_append_right _ (List.mem_append_left _ (List.mem_of_getElem? (i := 207) rfl)))
set_option maxRecDepth 20000 in
theorem kx_ao : Cond.arrayOver (.array .int) ∈ lw_tbl ∧ Cond.arrayOver (.object "BreathSold$State") ∈ lw_tbl := ⟨List.mem_append_right _ (List.mem_append_left _ (List.mem_of_getElem? (i := 204) rfl)), List.mem_append_right _ (List.mem_append_right _ (List.mem_append_left _ (List.mem_of_getElem? (i := 37) rfl)))⟩
theorem lt6 {Lx i : Nat} (hL : Lx ≤ 384) (hi : i ≤ 384) : nI Lx - 6 < nI i ↔ Lx < i + 6 := by
  have e : (nI Lx - 6).toInt = (Lx : Int) - 6 := by
    by_cases h : 6 ≤ Lx
    · rw [show (6 : Int32) = nI 6 from rfl, nI_sub h, nI_toInt (by omega)]
      omega
    · have : Lx = 0 ∨ Lx = 1 ∨ Lx = 2 ∨ Lx = 3 ∨ Lx = 4 ∨ Lx = 5 := by omega
      rcases this with rfl | rfl | rfl | rfl | rfl | rfl <;> decide
  rw [i_lt, e, nI_toInt (by omega)]
  omega
theorem q_loop {D : va_G} {ad : Nat → Nat} {dA : Nat → ClassId} {p : Program} {l : Launch} {e : Env} {s : State} {m : MethodId} {args : Array Value} {below : List Frame} {meth : Method} {c : Code} {Q : State → Prop} {b Lx : Nat} {xs : Nat → Int32} (X : lX D ad dA p s m args c b Lx xs) (hL : Lx ≤ 384) (fin : ∀ (ls : Array Slot) (σ : gw_S), lZ D ad dA p l e s m args below meth c Q 1392 ls [] σ) : ∀ (y i : Nat) (ls : Array Slot) (τ σ : gw_S), Lx < i + 6 * y + 6 → i ≤ Lx → WF τ → IC τ σ → TM τ σ → lv_has ls 4 [(3, .int (nI i)), (2, .ref (ad 1)), (1, .ref (ad 0)), (0, .ref b)] → lZ D ad dA p l e s m args below meth c Q 18 ls [] σ := by
  intro y
  induction y with
  | zero =>
    intro i ls τ σ hy hi hw hI hT hl
    refine y_iload X (k := 3) (lv_at hl 0 rfl) dL_law_18 ?_
    refine y_aload X (k := 0) (lv_at hl 3 rfl) dL_law_19 ?_
    refine y_slen X dL_law_20 ?_
    refine y_bipush X 6 dL_law_21 (by decide) ?_
    refine y_isub X dL_law_23 ?_
    exact y_gt X (tgt := 1392) dL_law_24 rfl (fun _ => fin ls σ) (fun q => absurd ((lt6 hL (by omega)).mpr (by omega)) q)
  | succ y ih =>
    intro i ls τ σ hy hi hw hI hT hl
    refine y_iload X (k := 3) (lv_at hl 0 rfl) dL_law_18 ?_
    refine y_aload X (k := 0) (lv_at hl 3 rfl) dL_law_19 ?_
    refine y_slen X dL_law_20 ?_
    refine y_bipush X 6 dL_law_21 (by decide) ?_
    refine y_isub X dL_law_23 ?_
    refine y_gt X (tgt := 1392) dL_law_24 rfl (fun _ => fin ls σ) (fun q => ?_)
    have hb : i + 6 ≤ Lx := by
      rw [lt6 hL (by omega)] at q
      omega
    refine y_aload X (k := 0) (lv_at hl 3 rfl) dL_law_27 ?_
    refine y_iload X (k := 3) (lv_at hl 0 rfl) dL_law_28 ?_
    refine y_sld X (vp_in_nI (by omega) (by omega)) dL_law_29 ?_
    refine y_bipush X 63 dL_law_30 (by decide) ?_
    refine y_iand X dL_law_32 ?_
    refine q_switch X hw hI hT hl hb hL (fun τ2 σ2 w2 i2 t2 => ?_)
    refine y_iinc X (a := 6) hl (k := 0) rfl (v := nI (i + 6)) (by rw [show Int32.ofInt 6 = nI 6 from by decide, nI_add]) (by decide) rfl dL_law_1386 (fun ls' hl' => ?_)
    refine y_goto X (tgt := 18) dL_law_1389 rfl ?_
    exact ih (i + 6) ls' τ2 σ2 (by omega) (by omega) w2 i2 t2 hl'
theorem z_astore {M : gw_M} {D : va_G} {I : cId} {n : Nat} {p : Program} {l : Launch} {e : Env} {R : Room} {s : State} {m : MethodId} {args : Array Value} {below : List Frame} {meth : Method} {c : Code} {Q : State → Prop} {pc : Nat} {ls : Array Slot} {st : List Value} {L : Nat} {w : va_W} {cells slots : Nat} (X : cX M D I n p s m args meth c) {k : Fin 4} {x : Nat} {lv lv' : List (Nat × Value)} (h : lv_has ls M.2.2.1 lv) (hn : (k : Nat) < M.2.2.1) (hl : ((k : Nat), Value.ref x) :: lv.filter (fun q => !(q.1 == (k : Nat)) && !(q.1 + 1 == (k : Nat) && q.2.category == 2)) = lv') (hd : decode M.2.1 pc = .ok (.astore_n k, 1)) (kk : ∀ ls' : Array Slot, lv_has ls' M.2.2.1 lv' → cZ D n p l e R s m args below meth c Q (pc + 1) ls' st L w cells slots) : cZ D n p l e R s m args below meth c Q pc ls (.ref x :: st) L w cells slots :=
  fun H locs hw hS => lv_astore_n X.1 X.2.1 hd rfl h hn hl (fun ls' h' => kk ls' h' H locs hw hS)
def dM (c : List ClassId) (i : List (Nat → Nat)) : va_G := (fun k => c[k]?.getD 0, fun k => i[k]?.getD (fun _ => 0))
/-- the classes and rows, as the tables have them -/
theorem cF_start {s : State} {args : Array Value} (hts : ∀ w ∈ lw_tbl, w.before args s = true) : ∃ (D : va_G) (I : cId), cF D I s := by
  have htg : ∀ w ∈ gw_tb, w.before args s = true := fun w hw => hts w (List.mem_filter.mp hw).1
  obtain ⟨c0, i0, k0⟩ := u_known (T := TX0) htg lgX0 (htg _ kn_X0.1)
  obtain ⟨c1, i1, k1⟩ := u_known (T := TX1) htg lgX1 (htg _ kn_X1.1)
  obtain ⟨c2, i2, k2⟩ := u_known (T := TX2) htg lgX2 (htg _ kn_X2.1)
  obtain ⟨c3, i3, k3⟩ := u_known (T := TX3) htg lgX3 (htg _ kn_X3.1)
  obtain ⟨c4, i4, k4⟩ := u_known (T := TX4) htg lgX4 (htg _ kn_X4.1)
  obtain ⟨c5, i5, k5⟩ := u_known (T := TX5) htg lgX5 (htg _ kn_X5.1)
  obtain ⟨c6, i6, k6⟩ := u_known (T := TX6) htg lgX6 (htg _ kn_X6.1)
  obtain ⟨c7, i7, k7⟩ := u_known (T := TX7) htg lgX7 (htg _ kn_X7.1)
  obtain ⟨c8, i8, k8⟩ := u_known (T := TX8) htg lgX8 (htg _ kn_X8.1)
  obtain ⟨c9, i9, k9⟩ := u_known (T := TX9) htg lgX9 (htg _ kn_X9.1)
  obtain ⟨cI, kI, pI, fI, gI, tI⟩ := Cond.arrayClass_spec (htg _ kb_ai)
  obtain ⟨cZb, kZb, pZb, fZb, gZb, tZb⟩ := Cond.arrayClass_spec (htg _ kb_ab)
  obtain ⟨pS, cS, kS, s1, s2, s3, s4, s5⟩ := Cond.arrayOver_spec (hts _ kx_ao.2)
  obtain ⟨pA, cA, kA, a1, a2, a3, a4, a5⟩ := arrayOverA_spec (hts _ kx_ao.1)
  refine ⟨dM [c0, c1, c2, c3, c4, c5, c6, c7, c8, c9] [i0, i1, i2, i3, i4, i5, i6, i7, i8, i9], (cI, cZb, cS, cA), ⟨fun c q hq => ?_, fun k q hq => ?_⟩, fun w hw => ?_, va_AO.of (hts _ kx_ao.2), over_moved (Vm.Alike.refl s.vm) (hts _ kx_ao.1)⟩
  · have hc : c < 10 := (List.getElem?_eq_some_iff.mp hq).1
    have : c = 0 ∨ c = 1 ∨ c = 2 ∨ c = 3 ∨ c = 4 ∨ c = 5 ∨ c = 6 ∨ c = 7 ∨ c = 8 ∨ c = 9 := by omega
    rcases this with rfl | rfl | rfl | rfl | rfl | rfl | rfl | rfl | rfl | rfl
    · cases hq; exact k0
    · cases hq; exact k1
    · cases hq; exact k2
    · cases hq; exact k3
    · cases hq; exact k4
    · cases hq; exact k5
    · cases hq; exact k6
    · cases hq; exact k7
    · cases hq; exact k8
    · cases hq; exact k9
  · have hk : k < 4 := (List.getElem?_eq_some_iff.mp hq).1
    have : k = 0 ∨ k = 1 ∨ k = 2 ∨ k = 3 := by omega
    rcases this with rfl | rfl | rfl | rfl
    · cases hq
      exact ⟨fun n z => ⟨fun k h => (by cases h), kI, gI, pI, tI⟩, fI⟩
    · cases hq
      exact ⟨fun n z => ⟨fun k h => (by cases h), kZb, gZb, pZb, tZb⟩, fZb⟩
    · cases hq
      exact ⟨fun n z => ⟨fun k h => (by cases h), kS, s3, pS, s4⟩, kS, pS, s3, s4, s1, s5⟩
    · cases hq
      exact ⟨fun n z => ⟨fun k h => (by cases h), kA, a3, pA, a4⟩, a5⟩
  · simp only [cN, List.mem_cons, List.not_mem_nil, or_false] at hw
    rcases hw with rfl | rfl | rfl | rfl | rfl | rfl | rfl | rfl
    · exact va_Nw.of rfl (hts _ kx_X8_23)
    · exact va_Nw.of rfl (hts _ kx_X6_11)
    · exact va_Nw.of rfl (hts _ kx_X6_20)
    · exact va_Nw.of rfl (hts _ kx_X8_30)
    · exact va_Nw.of rfl (hts _ kx_X8_37)
    · exact va_Nw.of rfl (hts _ kx_X8_51)
    · exact va_Nw.of rfl (hts _ kx_n1)
    · exact va_Nw.of rfl (hts _ kx_n3)
