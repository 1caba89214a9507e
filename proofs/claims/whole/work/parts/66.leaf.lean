/-! the constructors that make rows alone -/
section CE
variable {M : gw_M} {D : va_G} {I : cId} {n : Nat} {p : Program} {l : Launch} {e : Env} {R : Room} {s : State} {m : MethodId} {args : Array Value} {below : List Frame} {meth : Method} {c : Code} {Q : State → Prop} {pc : Nat} {ls : Array Slot} {st : List Value} {L : Nat} {w : va_W} {cells slots : Nat}
theorem z_norm {pc' L' cells' slots' : Nat} (h1 : pc = pc') (h2 : L = L') (h3 : cells = cells') (h4 : slots = slots') (kk : cZ D n p l e R s m args below meth c Q pc' ls st L' w cells' slots') : cZ D n p l e R s m args below meth c Q pc ls st L w cells slots := by
  subst h1; subst h2; subst h3; subst h4
  exact kk
theorem z_min (X : cX M D I n p s m args meth c) {idx : Nat} {x y : Int32} (hw : Cond.methodLink M.1.cls idx Lib.Math.min.name ∈ gw_tb ∧ Cond.static Lib.Math.min.name ∈ gw_tb ∧ Cond.initialized "java/lang/Math" ∈ gw_tb ∧ Cond.code Lib.Math.min.name Lib.Math.min.code 2 (some .int) ∈ gw_tb) (hd : decode M.2.1 pc = .ok (.invokestatic idx, 3)) (hsz : ls.size = M.2.2.1) (hst : (st.map fun v => v.category).sum ≤ 8) (hR : 1 ≤ R.frames ∧ 44 ≤ R.locals) (hc : cells ≤ R.cells ∧ slots ≤ R.slots) (kk : cZ D n p l e R s m args below meth c Q (pc + 3) ls (.int (if y < x then y else x) :: st) L w cells slots) : cZ D n p l e R s m args below meth c Q pc ls (.int y :: .int x :: st) L w cells slots :=
  fun H locs hw2 hS => va_mmin X.1 X.2.1 (X.2.2.2.1.trans hsz.symm) X.2.2.2.2.1 (X.2.2.2.2.2.1 _ hw.1) (X.2.2.2.2.2.1 _ hw.2.1) (X.2.2.2.2.2.1 _ hw.2.2.1) (X.2.2.2.2.2.1 _ hw.2.2.2) hR.1 (by have := hR.2; omega) hc.1 hc.2 hd (kk H locs hw2 hS)
end CE
def wX0 (n : Nat) (I : cId) : va_W := [(n, .inr (0, [.ref (n + 1), .ref (n + 2), .ref (n + 3), .ref (n + 4), .int 0])), (n + 1, .inl (I.1, 16, .inl (fun _ => 0))), (n + 2, .inl (I.1, 16, .inl (fun _ => 0))), (n + 3, .inl (I.1, 16, .inl (fun _ => 0))), (n + 4, .inl (I.1, 16, .inl (fun _ => 0)))]
set_option maxHeartbeats 4000000 in
set_option maxRecDepth 20000 in
theorem i_X0 : cBu 1 4 64 mX0_init [] 0 [.null, .null, .null, .null, .int 0] wX0 := by
  refine cBu_of (by decide +kernel) (fun _ => Nat.le_of_ble_eq_true rfl) rfl ?_
  intro p l e s m args below meth c ls D I n X hin hl
  have l0 : ls[0]? = some (.val (.ref n)) := lv_at hl 0 rfl
  refine z_aload X (k := 0) l0 dX0_init_0 ?_
  refine z_obj X dX0_init_1 kb_X0_3 kb_oi kb_oc hl.1 (Nat.le_of_ble_eq_true rfl) ⟨Nat.le_of_ble_eq_true rfl, Nat.le_of_ble_eq_true rfl⟩ ?_
  refine z_aload X (k := 0) l0 dX0_init_4 ?_
  refine z_bipush X (16) dX0_init_5 (by decide) ?_
  refine z_newa X (atype := .int) (ty := .int) (cA := I.1) (t0 := 0) 16 rfl rfl (fun h => h) rfl kb_ai (by decide) (by decide) (by decide) dX0_init_7 (Nat.le_of_ble_eq_true rfl) (Nat.le_of_ble_eq_true rfl) (w' := [(n, .inr (0, [.null, .null, .null, .null, .int 0])), (n + 1, .inl (I.1, 16, .inl (fun _ => 0)))]) rfl ?_
  refine z_norm (pc' := 9) (L' := 2) (cells' := 1) (slots' := 16) rfl rfl rfl rfl ?_
  refine z_put X (C := RX0) (T := TX0) (N := 5) (ci := 0) (q0 := 0) (ty := .array .int) tyX0 tyX0_ok nmX0 lgX0 rfl rfl 0 (by decide) kf_X0_9 (Or.inr ⟨rfl, hin, rfl⟩) (by decide +kernel) rfl rfl (Nat.le_of_ble_eq_true rfl) dX0_init_9 (w' := [(n, .inr (0, [.ref (n + 1), .null, .null, .null, .int 0])), (n + 1, .inl (I.1, 16, .inl (fun _ => 0)))]) rfl ?_
  refine z_norm (pc' := 12) (L' := 2) (cells' := 1) (slots' := 16) rfl rfl rfl rfl ?_
  refine z_aload X (k := 0) l0 dX0_init_12 ?_
  refine z_bipush X (16) dX0_init_13 (by decide) ?_
  refine z_newa X (atype := .int) (ty := .int) (cA := I.1) (t0 := 0) 16 rfl rfl (fun h => h) rfl kb_ai (by decide) (by decide) (by decide) dX0_init_15 (Nat.le_of_ble_eq_true rfl) (Nat.le_of_ble_eq_true rfl) (w' := [(n, .inr (0, [.ref (n + 1), .null, .null, .null, .int 0])), (n + 1, .inl (I.1, 16, .inl (fun _ => 0))), (n + 2, .inl (I.1, 16, .inl (fun _ => 0)))]) rfl ?_
  refine z_norm (pc' := 17) (L' := 3) (cells' := 2) (slots' := 32) rfl rfl rfl rfl ?_
  refine z_put X (C := RX0) (T := TX0) (N := 5) (ci := 0) (q0 := 0) (ty := .array .int) tyX0 tyX0_ok nmX0 lgX0 rfl rfl 1 (by decide) kf_X0_15 (Or.inr ⟨rfl, hin, rfl⟩) (by decide +kernel) rfl rfl (Nat.le_of_ble_eq_true rfl) dX0_init_17 (w' := [(n, .inr (0, [.ref (n + 1), .ref (n + 2), .null, .null, .int 0])), (n + 1, .inl (I.1, 16, .inl (fun _ => 0))), (n + 2, .inl (I.1, 16, .inl (fun _ => 0)))]) rfl ?_
  refine z_norm (pc' := 20) (L' := 3) (cells' := 2) (slots' := 32) rfl rfl rfl rfl ?_
  refine z_aload X (k := 0) l0 dX0_init_20 ?_
  refine z_bipush X (16) dX0_init_21 (by decide) ?_
  refine z_newa X (atype := .int) (ty := .int) (cA := I.1) (t0 := 0) 16 rfl rfl (fun h => h) rfl kb_ai (by decide) (by decide) (by decide) dX0_init_23 (Nat.le_of_ble_eq_true rfl) (Nat.le_of_ble_eq_true rfl) (w' := [(n, .inr (0, [.ref (n + 1), .ref (n + 2), .null, .null, .int 0])), (n + 1, .inl (I.1, 16, .inl (fun _ => 0))), (n + 2, .inl (I.1, 16, .inl (fun _ => 0))), (n + 3, .inl (I.1, 16, .inl (fun _ => 0)))]) rfl ?_
  refine z_norm (pc' := 25) (L' := 4) (cells' := 3) (slots' := 48) rfl rfl rfl rfl ?_
  refine z_put X (C := RX0) (T := TX0) (N := 5) (ci := 0) (q0 := 0) (ty := .array .int) tyX0 tyX0_ok nmX0 lgX0 rfl rfl 2 (by decide) kf_X0_18 (Or.inr ⟨rfl, hin, rfl⟩) (by decide +kernel) rfl rfl (Nat.le_of_ble_eq_true rfl) dX0_init_25 (w' := [(n, .inr (0, [.ref (n + 1), .ref (n + 2), .ref (n + 3), .null, .int 0])), (n + 1, .inl (I.1, 16, .inl (fun _ => 0))), (n + 2, .inl (I.1, 16, .inl (fun _ => 0))), (n + 3, .inl (I.1, 16, .inl (fun _ => 0)))]) rfl ?_
  refine z_norm (pc' := 28) (L' := 4) (cells' := 3) (slots' := 48) rfl rfl rfl rfl ?_
  refine z_aload X (k := 0) l0 dX0_init_28 ?_
  refine z_bipush X (16) dX0_init_29 (by decide) ?_
  refine z_newa X (atype := .int) (ty := .int) (cA := I.1) (t0 := 0) 16 rfl rfl (fun h => h) rfl kb_ai (by decide) (by decide) (by decide) dX0_init_31 (Nat.le_of_ble_eq_true rfl) (Nat.le_of_ble_eq_true rfl) (w' := [(n, .inr (0, [.ref (n + 1), .ref (n + 2), .ref (n + 3), .null, .int 0])), (n + 1, .inl (I.1, 16, .inl (fun _ => 0))), (n + 2, .inl (I.1, 16, .inl (fun _ => 0))), (n + 3, .inl (I.1, 16, .inl (fun _ => 0))), (n + 4, .inl (I.1, 16, .inl (fun _ => 0)))]) rfl ?_
  refine z_norm (pc' := 33) (L' := 5) (cells' := 4) (slots' := 64) rfl rfl rfl rfl ?_
  refine z_put X (C := RX0) (T := TX0) (N := 5) (ci := 0) (q0 := 0) (ty := .array .int) tyX0 tyX0_ok nmX0 lgX0 rfl rfl 3 (by decide) kf_X0_21 (Or.inr ⟨rfl, hin, rfl⟩) (by decide +kernel) rfl rfl (Nat.le_of_ble_eq_true rfl) dX0_init_33 (w' := [(n, .inr (0, [.ref (n + 1), .ref (n + 2), .ref (n + 3), .ref (n + 4), .int 0])), (n + 1, .inl (I.1, 16, .inl (fun _ => 0))), (n + 2, .inl (I.1, 16, .inl (fun _ => 0))), (n + 3, .inl (I.1, 16, .inl (fun _ => 0))), (n + 4, .inl (I.1, 16, .inl (fun _ => 0)))]) rfl ?_
  refine z_norm (pc' := 36) (L' := 5) (cells' := 4) (slots' := 64) rfl rfl rfl rfl ?_
  refine z_aload X (k := 0) l0 dX0_init_36 ?_
  refine z_iconst X (0) dX0_init_37 (by decide) ?_
  refine z_put X (C := RX0) (T := TX0) (N := 5) (ci := 0) (q0 := 0) (ty := .int) tyX0 tyX0_ok nmX0 lgX0 rfl rfl 4 (by decide) kf_X0_24 (Or.inl rfl) (by decide +kernel) rfl rfl (Nat.le_of_ble_eq_true rfl) dX0_init_38 (w' := [(n, .inr (0, [.ref (n + 1), .ref (n + 2), .ref (n + 3), .ref (n + 4), .int 0])), (n + 1, .inl (I.1, 16, .inl (fun _ => 0))), (n + 2, .inl (I.1, 16, .inl (fun _ => 0))), (n + 3, .inl (I.1, 16, .inl (fun _ => 0))), (n + 4, .inl (I.1, 16, .inl (fun _ => 0)))]) rfl ?_
  refine z_norm (pc' := 41) (L' := 5) (cells' := 4) (slots' := 64) rfl rfl rfl rfl ?_
  exact z_ret (w := wX0 n I) X rfl rfl dX0_init_41
def wX2 (n : Nat) (I : cId) : va_W := [(n, .inr (2, [.ref (n + 1), .ref (n + 2), .ref (n + 3), .ref (n + 4), .int 0, .int (-1)])), (n + 1, .inl (I.1, 8, .inl (fun _ => 0))), (n + 2, .inl (I.1, 8, .inl (fun _ => 0))), (n + 3, .inl (I.1, 64, .inl (fun _ => 0))), (n + 4, .inl (I.1, 256, .inl (fun _ => 0)))]
set_option maxHeartbeats 4000000 in
set_option maxRecDepth 20000 in
theorem i_X2 : cBu 1 4 336 mX2_init [] 2 [.null, .null, .null, .null, .int 0, .int 0] wX2 := by
  refine cBu_of (by decide +kernel) (fun _ => Nat.le_of_ble_eq_true rfl) rfl ?_
  intro p l e s m args below meth c ls D I n X hin hl
  have l0 : ls[0]? = some (.val (.ref n)) := lv_at hl 0 rfl
  refine z_aload X (k := 0) l0 dX2_init_0 ?_
  refine z_obj X dX2_init_1 kb_X2_3 kb_oi kb_oc hl.1 (Nat.le_of_ble_eq_true rfl) ⟨Nat.le_of_ble_eq_true rfl, Nat.le_of_ble_eq_true rfl⟩ ?_
  refine z_aload X (k := 0) l0 dX2_init_4 ?_
  refine z_bipush X (8) dX2_init_5 (by decide) ?_
  refine z_newa X (atype := .int) (ty := .int) (cA := I.1) (t0 := 0) 8 rfl rfl (fun h => h) rfl kb_ai (by decide) (by decide) (by decide) dX2_init_7 (Nat.le_of_ble_eq_true rfl) (Nat.le_of_ble_eq_true rfl) (w' := [(n, .inr (2, [.null, .null, .null, .null, .int 0, .int 0])), (n + 1, .inl (I.1, 8, .inl (fun _ => 0)))]) rfl ?_
  refine z_norm (pc' := 9) (L' := 2) (cells' := 1) (slots' := 8) rfl rfl rfl rfl ?_
  refine z_put X (C := RX2) (T := TX2) (N := 6) (ci := 2) (q0 := 0) (ty := .array .int) tyX2 tyX2_ok nmX2 lgX2 rfl rfl 0 (by decide) kf_X2_9 (Or.inr ⟨rfl, hin, rfl⟩) (by decide +kernel) rfl rfl (Nat.le_of_ble_eq_true rfl) dX2_init_9 (w' := [(n, .inr (2, [.ref (n + 1), .null, .null, .null, .int 0, .int 0])), (n + 1, .inl (I.1, 8, .inl (fun _ => 0)))]) rfl ?_
  refine z_norm (pc' := 12) (L' := 2) (cells' := 1) (slots' := 8) rfl rfl rfl rfl ?_
  refine z_aload X (k := 0) l0 dX2_init_12 ?_
  refine z_bipush X (8) dX2_init_13 (by decide) ?_
  refine z_newa X (atype := .int) (ty := .int) (cA := I.1) (t0 := 0) 8 rfl rfl (fun h => h) rfl kb_ai (by decide) (by decide) (by decide) dX2_init_15 (Nat.le_of_ble_eq_true rfl) (Nat.le_of_ble_eq_true rfl) (w' := [(n, .inr (2, [.ref (n + 1), .null, .null, .null, .int 0, .int 0])), (n + 1, .inl (I.1, 8, .inl (fun _ => 0))), (n + 2, .inl (I.1, 8, .inl (fun _ => 0)))]) rfl ?_
  refine z_norm (pc' := 17) (L' := 3) (cells' := 2) (slots' := 16) rfl rfl rfl rfl ?_
  refine z_put X (C := RX2) (T := TX2) (N := 6) (ci := 2) (q0 := 0) (ty := .array .int) tyX2 tyX2_ok nmX2 lgX2 rfl rfl 1 (by decide) kf_X2_15 (Or.inr ⟨rfl, hin, rfl⟩) (by decide +kernel) rfl rfl (Nat.le_of_ble_eq_true rfl) dX2_init_17 (w' := [(n, .inr (2, [.ref (n + 1), .ref (n + 2), .null, .null, .int 0, .int 0])), (n + 1, .inl (I.1, 8, .inl (fun _ => 0))), (n + 2, .inl (I.1, 8, .inl (fun _ => 0)))]) rfl ?_
  refine z_norm (pc' := 20) (L' := 3) (cells' := 2) (slots' := 16) rfl rfl rfl rfl ?_
  refine z_aload X (k := 0) l0 dX2_init_20 ?_
  refine z_bipush X (64) dX2_init_21 (by decide) ?_
  refine z_newa X (atype := .int) (ty := .int) (cA := I.1) (t0 := 0) 64 rfl rfl (fun h => h) rfl kb_ai (by decide) (by decide) (by decide) dX2_init_23 (Nat.le_of_ble_eq_true rfl) (Nat.le_of_ble_eq_true rfl) (w' := [(n, .inr (2, [.ref (n + 1), .ref (n + 2), .null, .null, .int 0, .int 0])), (n + 1, .inl (I.1, 8, .inl (fun _ => 0))), (n + 2, .inl (I.1, 8, .inl (fun _ => 0))), (n + 3, .inl (I.1, 64, .inl (fun _ => 0)))]) rfl ?_
  refine z_norm (pc' := 25) (L' := 4) (cells' := 3) (slots' := 80) rfl rfl rfl rfl ?_
  refine z_put X (C := RX2) (T := TX2) (N := 6) (ci := 2) (q0 := 0) (ty := .array .int) tyX2 tyX2_ok nmX2 lgX2 rfl rfl 2 (by decide) kf_X2_18 (Or.inr ⟨rfl, hin, rfl⟩) (by decide +kernel) rfl rfl (Nat.le_of_ble_eq_true rfl) dX2_init_25 (w' := [(n, .inr (2, [.ref (n + 1), .ref (n + 2), .ref (n + 3), .null, .int 0, .int 0])), (n + 1, .inl (I.1, 8, .inl (fun _ => 0))), (n + 2, .inl (I.1, 8, .inl (fun _ => 0))), (n + 3, .inl (I.1, 64, .inl (fun _ => 0)))]) rfl ?_
  refine z_norm (pc' := 28) (L' := 4) (cells' := 3) (slots' := 80) rfl rfl rfl rfl ?_
  refine z_aload X (k := 0) l0 dX2_init_28 ?_
  refine z_sipush X (256) dX2_init_29 (by decide) ?_
  refine z_newa X (atype := .int) (ty := .int) (cA := I.1) (t0 := 0) 256 rfl rfl (fun h => h) rfl kb_ai (by decide) (by decide) (by decide) dX2_init_32 (Nat.le_of_ble_eq_true rfl) (Nat.le_of_ble_eq_true rfl) (w' := [(n, .inr (2, [.ref (n + 1), .ref (n + 2), .ref (n + 3), .null, .int 0, .int 0])), (n + 1, .inl (I.1, 8, .inl (fun _ => 0))), (n + 2, .inl (I.1, 8, .inl (fun _ => 0))), (n + 3, .inl (I.1, 64, .inl (fun _ => 0))), (n + 4, .inl (I.1, 256, .inl (fun _ => 0)))]) rfl ?_
  refine z_norm (pc' := 34) (L' := 5) (cells' := 4) (slots' := 336) rfl rfl rfl rfl ?_
  refine z_put X (C := RX2) (T := TX2) (N := 6) (ci := 2) (q0 := 0) (ty := .array .int) tyX2 tyX2_ok nmX2 lgX2 rfl rfl 3 (by decide) kf_X2_21 (Or.inr ⟨rfl, hin, rfl⟩) (by decide +kernel) rfl rfl (Nat.le_of_ble_eq_true rfl) dX2_init_34 (w' := [(n, .inr (2, [.ref (n + 1), .ref (n + 2), .ref (n + 3), .ref (n + 4), .int 0, .int 0])), (n + 1, .inl (I.1, 8, .inl (fun _ => 0))), (n + 2, .inl (I.1, 8, .inl (fun _ => 0))), (n + 3, .inl (I.1, 64, .inl (fun _ => 0))), (n + 4, .inl (I.1, 256, .inl (fun _ => 0)))]) rfl ?_
  refine z_norm (pc' := 37) (L' := 5) (cells' := 4) (slots' := 336) rfl rfl rfl rfl ?_
  refine z_aload X (k := 0) l0 dX2_init_37 ?_
  refine z_iconst X (0) dX2_init_38 (by decide) ?_
  refine z_put X (C := RX2) (T := TX2) (N := 6) (ci := 2) (q0 := 0) (ty := .int) tyX2 tyX2_ok nmX2 lgX2 rfl rfl 4 (by decide) kf_X2_24 (Or.inl rfl) (by decide +kernel) rfl rfl (Nat.le_of_ble_eq_true rfl) dX2_init_39 (w' := [(n, .inr (2, [.ref (n + 1), .ref (n + 2), .ref (n + 3), .ref (n + 4), .int 0, .int 0])), (n + 1, .inl (I.1, 8, .inl (fun _ => 0))), (n + 2, .inl (I.1, 8, .inl (fun _ => 0))), (n + 3, .inl (I.1, 64, .inl (fun _ => 0))), (n + 4, .inl (I.1, 256, .inl (fun _ => 0)))]) rfl ?_
  refine z_norm (pc' := 42) (L' := 5) (cells' := 4) (slots' := 336) rfl rfl rfl rfl ?_
  refine z_aload X (k := 0) l0 dX2_init_42 ?_
  refine z_iconst X (-1) dX2_init_43 (by decide) ?_
  refine z_put X (C := RX2) (T := TX2) (N := 6) (ci := 2) (q0 := 0) (ty := .int) tyX2 tyX2_ok nmX2 lgX2 rfl rfl 5 (by decide) kf_X2_28 (Or.inl rfl) (by decide +kernel) rfl rfl (Nat.le_of_ble_eq_true rfl) dX2_init_44 (w' := [(n, .inr (2, [.ref (n + 1), .ref (n + 2), .ref (n + 3), .ref (n + 4), .int 0, .int (-1)])), (n + 1, .inl (I.1, 8, .inl (fun _ => 0))), (n + 2, .inl (I.1, 8, .inl (fun _ => 0))), (n + 3, .inl (I.1, 64, .inl (fun _ => 0))), (n + 4, .inl (I.1, 256, .inl (fun _ => 0)))]) rfl ?_
  refine z_norm (pc' := 47) (L' := 5) (cells' := 4) (slots' := 336) rfl rfl rfl rfl ?_
  exact z_ret (w := wX2 n I) X rfl rfl dX2_init_47
def wX3 (n : Nat) (I : cId) : va_W := [(n, .inr (3, [.ref (n + 1), .ref (n + 2), .ref (n + 3), .ref (n + 4), .ref (n + 5), .ref (n + 6), .ref (n + 7), .int 0, .int 0, .int 0, .int 0, .int 0, .int (-1)])), (n + 1, .inl (I.1, 8, .inl (fun _ => 0))), (n + 2, .inl (I.1, 8, .inl (fun _ => 0))), (n + 3, .inl (I.1, 8, .inl (fun _ => 0))), (n + 4, .inl (I.1, 8, .inl (fun _ => 0))), (n + 5, .inl (I.1, 8, .inl (fun _ => 0))), (n + 6, .inl (I.1, 8, .inl (fun _ => 0))), (n + 7, .inl (I.1, 8, .inl (fun _ => 0)))]
set_option maxHeartbeats 4000000 in
set_option maxRecDepth 20000 in
theorem i_X3 : cBu 1 7 56 mX3_init [] 3 [.null, .null, .null, .null, .null, .null, .null, .int 0, .int 0, .int 0, .int 0, .int 0, .int 0] wX3 := by
  refine cBu_of (by decide +kernel) (fun _ => Nat.le_of_ble_eq_true rfl) rfl ?_
  intro p l e s m args below meth c ls D I n X hin hl
  have l0 : ls[0]? = some (.val (.ref n)) := lv_at hl 0 rfl
  refine z_aload X (k := 0) l0 dX3_init_0 ?_
  refine z_obj X dX3_init_1 kb_X3_3 kb_oi kb_oc hl.1 (Nat.le_of_ble_eq_true rfl) ⟨Nat.le_of_ble_eq_true rfl, Nat.le_of_ble_eq_true rfl⟩ ?_
  refine z_aload X (k := 0) l0 dX3_init_4 ?_
  refine z_bipush X (8) dX3_init_5 (by decide) ?_
  refine z_newa X (atype := .int) (ty := .int) (cA := I.1) (t0 := 0) 8 rfl rfl (fun h => h) rfl kb_ai (by decide) (by decide) (by decide) dX3_init_7 (Nat.le_of_ble_eq_true rfl) (Nat.le_of_ble_eq_true rfl) (w' := [(n, .inr (3, [.null, .null, .null, .null, .null, .null, .null, .int 0, .int 0, .int 0, .int 0, .int 0, .int 0])), (n + 1, .inl (I.1, 8, .inl (fun _ => 0)))]) rfl ?_
  refine z_norm (pc' := 9) (L' := 2) (cells' := 1) (slots' := 8) rfl rfl rfl rfl ?_
  refine z_put X (C := RX3) (T := TX3) (N := 13) (ci := 3) (q0 := 0) (ty := .array .int) tyX3 tyX3_ok nmX3 lgX3 rfl rfl 0 (by decide) kf_X3_9 (Or.inr ⟨rfl, hin, rfl⟩) (by decide +kernel) rfl rfl (Nat.le_of_ble_eq_true rfl) dX3_init_9 (w' := [(n, .inr (3, [.ref (n + 1), .null, .null, .null, .null, .null, .null, .int 0, .int 0, .int 0, .int 0, .int 0, .int 0])), (n + 1, .inl (I.1, 8, .inl (fun _ => 0)))]) rfl ?_
  refine z_norm (pc' := 12) (L' := 2) (cells' := 1) (slots' := 8) rfl rfl rfl rfl ?_
  refine z_aload X (k := 0) l0 dX3_init_12 ?_
  refine z_bipush X (8) dX3_init_13 (by decide) ?_
  refine z_newa X (atype := .int) (ty := .int) (cA := I.1) (t0 := 0) 8 rfl rfl (fun h => h) rfl kb_ai (by decide) (by decide) (by decide) dX3_init_15 (Nat.le_of_ble_eq_true rfl) (Nat.le_of_ble_eq_true rfl) (w' := [(n, .inr (3, [.ref (n + 1), .null, .null, .null, .null, .null, .null, .int 0, .int 0, .int 0, .int 0, .int 0, .int 0])), (n + 1, .inl (I.1, 8, .inl (fun _ => 0))), (n + 2, .inl (I.1, 8, .inl (fun _ => 0)))]) rfl ?_
  refine z_norm (pc' := 17) (L' := 3) (cells' := 2) (slots' := 16) rfl rfl rfl rfl ?_
  refine z_put X (C := RX3) (T := TX3) (N := 13) (ci := 3) (q0 := 0) (ty := .array .int) tyX3 tyX3_ok nmX3 lgX3 rfl rfl 1 (by decide) kf_X3_15 (Or.inr ⟨rfl, hin, rfl⟩) (by decide +kernel) rfl rfl (Nat.le_of_ble_eq_true rfl) dX3_init_17 (w' := [(n, .inr (3, [.ref (n + 1), .ref (n + 2), .null, .null, .null, .null, .null, .int 0, .int 0, .int 0, .int 0, .int 0, .int 0])), (n + 1, .inl (I.1, 8, .inl (fun _ => 0))), (n + 2, .inl (I.1, 8, .inl (fun _ => 0)))]) rfl ?_
  refine z_norm (pc' := 20) (L' := 3) (cells' := 2) (slots' := 16) rfl rfl rfl rfl ?_
  refine z_aload X (k := 0) l0 dX3_init_20 ?_
  refine z_bipush X (8) dX3_init_21 (by decide) ?_
  refine z_newa X (atype := .int) (ty := .int) (cA := I.1) (t0 := 0) 8 rfl rfl (fun h => h) rfl kb_ai (by decide) (by decide) (by decide) dX3_init_23 (Nat.le_of_ble_eq_true rfl) (Nat.le_of_ble_eq_true rfl) (w' := [(n, .inr (3, [.ref (n + 1), .ref (n + 2), .null, .null, .null, .null, .null, .int 0, .int 0, .int 0, .int 0, .int 0, .int 0])), (n + 1, .inl (I.1, 8, .inl (fun _ => 0))), (n + 2, .inl (I.1, 8, .inl (fun _ => 0))), (n + 3, .inl (I.1, 8, .inl (fun _ => 0)))]) rfl ?_
  refine z_norm (pc' := 25) (L' := 4) (cells' := 3) (slots' := 24) rfl rfl rfl rfl ?_
  refine z_put X (C := RX3) (T := TX3) (N := 13) (ci := 3) (q0 := 0) (ty := .array .int) tyX3 tyX3_ok nmX3 lgX3 rfl rfl 2 (by decide) kf_X3_18 (Or.inr ⟨rfl, hin, rfl⟩) (by decide +kernel) rfl rfl (Nat.le_of_ble_eq_true rfl) dX3_init_25 (w' := [(n, .inr (3, [.ref (n + 1), .ref (n + 2), .ref (n + 3), .null, .null, .null, .null, .int 0, .int 0, .int 0, .int 0, .int 0, .int 0])), (n + 1, .inl (I.1, 8, .inl (fun _ => 0))), (n + 2, .inl (I.1, 8, .inl (fun _ => 0))), (n + 3, .inl (I.1, 8, .inl (fun _ => 0)))]) rfl ?_
  refine z_norm (pc' := 28) (L' := 4) (cells' := 3) (slots' := 24) rfl rfl rfl rfl ?_
  refine z_aload X (k := 0) l0 dX3_init_28 ?_
  refine z_bipush X (8) dX3_init_29 (by decide) ?_
  refine z_newa X (atype := .int) (ty := .int) (cA := I.1) (t0 := 0) 8 rfl rfl (fun h => h) rfl kb_ai (by decide) (by decide) (by decide) dX3_init_31 (Nat.le_of_ble_eq_true rfl) (Nat.le_of_ble_eq_true rfl) (w' := [(n, .inr (3, [.ref (n + 1), .ref (n + 2), .ref (n + 3), .null, .null, .null, .null, .int 0, .int 0, .int 0, .int 0, .int 0, .int 0])), (n + 1, .inl (I.1, 8, .inl (fun _ => 0))), (n + 2, .inl (I.1, 8, .inl (fun _ => 0))), (n + 3, .inl (I.1, 8, .inl (fun _ => 0))), (n + 4, .inl (I.1, 8, .inl (fun _ => 0)))]) rfl ?_
  refine z_norm (pc' := 33) (L' := 5) (cells' := 4) (slots' := 32) rfl rfl rfl rfl ?_
  refine z_put X (C := RX3) (T := TX3) (N := 13) (ci := 3) (q0 := 0) (ty := .array .int) tyX3 tyX3_ok nmX3 lgX3 rfl rfl 3 (by decide) kf_X3_21 (Or.inr ⟨rfl, hin, rfl⟩) (by decide +kernel) rfl rfl (Nat.le_of_ble_eq_true rfl) dX3_init_33 (w' := [(n, .inr (3, [.ref (n + 1), .ref (n + 2), .ref (n + 3), .ref (n + 4), .null, .null, .null, .int 0, .int 0, .int 0, .int 0, .int 0, .int 0])), (n + 1, .inl (I.1, 8, .inl (fun _ => 0))), (n + 2, .inl (I.1, 8, .inl (fun _ => 0))), (n + 3, .inl (I.1, 8, .inl (fun _ => 0))), (n + 4, .inl (I.1, 8, .inl (fun _ => 0)))]) rfl ?_
  refine z_norm (pc' := 36) (L' := 5) (cells' := 4) (slots' := 32) rfl rfl rfl rfl ?_
  refine z_aload X (k := 0) l0 dX3_init_36 ?_
  refine z_bipush X (8) dX3_init_37 (by decide) ?_
  refine z_newa X (atype := .int) (ty := .int) (cA := I.1) (t0 := 0) 8 rfl rfl (fun h => h) rfl kb_ai (by decide) (by decide) (by decide) dX3_init_39 (Nat.le_of_ble_eq_true rfl) (Nat.le_of_ble_eq_true rfl) (w' := [(n, .inr (3, [.ref (n + 1), .ref (n + 2), .ref (n + 3), .ref (n + 4), .null, .null, .null, .int 0, .int 0, .int 0, .int 0, .int 0, .int 0])), (n + 1, .inl (I.1, 8, .inl (fun _ => 0))), (n + 2, .inl (I.1, 8, .inl (fun _ => 0))), (n + 3, .inl (I.1, 8, .inl (fun _ => 0))), (n + 4, .inl (I.1, 8, .inl (fun _ => 0))), (n + 5, .inl (I.1, 8, .inl (fun _ => 0)))]) rfl ?_
  refine z_norm (pc' := 41) (L' := 6) (cells' := 5) (slots' := 40) rfl rfl rfl rfl ?_
  refine z_put X (C := RX3) (T := TX3) (N := 13) (ci := 3) (q0 := 0) (ty := .array .int) tyX3 tyX3_ok nmX3 lgX3 rfl rfl 4 (by decide) kf_X3_24 (Or.inr ⟨rfl, hin, rfl⟩) (by decide +kernel) rfl rfl (Nat.le_of_ble_eq_true rfl) dX3_init_41 (w' := [(n, .inr (3, [.ref (n + 1), .ref (n + 2), .ref (n + 3), .ref (n + 4), .ref (n + 5), .null, .null, .int 0, .int 0, .int 0, .int 0, .int 0, .int 0])), (n + 1, .inl (I.1, 8, .inl (fun _ => 0))), (n + 2, .inl (I.1, 8, .inl (fun _ => 0))), (n + 3, .inl (I.1, 8, .inl (fun _ => 0))), (n + 4, .inl (I.1, 8, .inl (fun _ => 0))), (n + 5, .inl (I.1, 8, .inl (fun _ => 0)))]) rfl ?_
  refine z_norm (pc' := 44) (L' := 6) (cells' := 5) (slots' := 40) rfl rfl rfl rfl ?_
  refine z_aload X (k := 0) l0 dX3_init_44 ?_
  refine z_bipush X (8) dX3_init_45 (by decide) ?_
  refine z_newa X (atype := .int) (ty := .int) (cA := I.1) (t0 := 0) 8 rfl rfl (fun h => h) rfl kb_ai (by decide) (by decide) (by decide) dX3_init_47 (Nat.le_of_ble_eq_true rfl) (Nat.le_of_ble_eq_true rfl) (w' := [(n, .inr (3, [.ref (n + 1), .ref (n + 2), .ref (n + 3), .ref (n + 4), .ref (n + 5), .null, .null, .int 0, .int 0, .int 0, .int 0, .int 0, .int 0])), (n + 1, .inl (I.1, 8, .inl (fun _ => 0))), (n + 2, .inl (I.1, 8, .inl (fun _ => 0))), (n + 3, .inl (I.1, 8, .inl (fun _ => 0))), (n + 4, .inl (I.1, 8, .inl (fun _ => 0))), (n + 5, .inl (I.1, 8, .inl (fun _ => 0))), (n + 6, .inl (I.1, 8, .inl (fun _ => 0)))]) rfl ?_
  refine z_norm (pc' := 49) (L' := 7) (cells' := 6) (slots' := 48) rfl rfl rfl rfl ?_
  refine z_put X (C := RX3) (T := TX3) (N := 13) (ci := 3) (q0 := 0) (ty := .array .int) tyX3 tyX3_ok nmX3 lgX3 rfl rfl 5 (by decide) kf_X3_27 (Or.inr ⟨rfl, hin, rfl⟩) (by decide +kernel) rfl rfl (Nat.le_of_ble_eq_true rfl) dX3_init_49 (w' := [(n, .inr (3, [.ref (n + 1), .ref (n + 2), .ref (n + 3), .ref (n + 4), .ref (n + 5), .ref (n + 6), .null, .int 0, .int 0, .int 0, .int 0, .int 0, .int 0])), (n + 1, .inl (I.1, 8, .inl (fun _ => 0))), (n + 2, .inl (I.1, 8, .inl (fun _ => 0))), (n + 3, .inl (I.1, 8, .inl (fun _ => 0))), (n + 4, .inl (I.1, 8, .inl (fun _ => 0))), (n + 5, .inl (I.1, 8, .inl (fun _ => 0))), (n + 6, .inl (I.1, 8, .inl (fun _ => 0)))]) rfl ?_
  refine z_norm (pc' := 52) (L' := 7) (cells' := 6) (slots' := 48) rfl rfl rfl rfl ?_
  refine z_aload X (k := 0) l0 dX3_init_52 ?_
  refine z_bipush X (8) dX3_init_53 (by decide) ?_
  refine z_newa X (atype := .int) (ty := .int) (cA := I.1) (t0 := 0) 8 rfl rfl (fun h => h) rfl kb_ai (by decide) (by decide) (by decide) dX3_init_55 (Nat.le_of_ble_eq_true rfl) (Nat.le_of_ble_eq_true rfl) (w' := [(n, .inr (3, [.ref (n + 1), .ref (n + 2), .ref (n + 3), .ref (n + 4), .ref (n + 5), .ref (n + 6), .null, .int 0, .int 0, .int 0, .int 0, .int 0, .int 0])), (n + 1, .inl (I.1, 8, .inl (fun _ => 0))), (n + 2, .inl (I.1, 8, .inl (fun _ => 0))), (n + 3, .inl (I.1, 8, .inl (fun _ => 0))), (n + 4, .inl (I.1, 8, .inl (fun _ => 0))), (n + 5, .inl (I.1, 8, .inl (fun _ => 0))), (n + 6, .inl (I.1, 8, .inl (fun _ => 0))), (n + 7, .inl (I.1, 8, .inl (fun _ => 0)))]) rfl ?_
  refine z_norm (pc' := 57) (L' := 8) (cells' := 7) (slots' := 56) rfl rfl rfl rfl ?_
  refine z_put X (C := RX3) (T := TX3) (N := 13) (ci := 3) (q0 := 0) (ty := .array .int) tyX3 tyX3_ok nmX3 lgX3 rfl rfl 6 (by decide) kf_X3_30 (Or.inr ⟨rfl, hin, rfl⟩) (by decide +kernel) rfl rfl (Nat.le_of_ble_eq_true rfl) dX3_init_57 (w' := [(n, .inr (3, [.ref (n + 1), .ref (n + 2), .ref (n + 3), .ref (n + 4), .ref (n + 5), .ref (n + 6), .ref (n + 7), .int 0, .int 0, .int 0, .int 0, .int 0, .int 0])), (n + 1, .inl (I.1, 8, .inl (fun _ => 0))), (n + 2, .inl (I.1, 8, .inl (fun _ => 0))), (n + 3, .inl (I.1, 8, .inl (fun _ => 0))), (n + 4, .inl (I.1, 8, .inl (fun _ => 0))), (n + 5, .inl (I.1, 8, .inl (fun _ => 0))), (n + 6, .inl (I.1, 8, .inl (fun _ => 0))), (n + 7, .inl (I.1, 8, .inl (fun _ => 0)))]) rfl ?_
  refine z_norm (pc' := 60) (L' := 8) (cells' := 7) (slots' := 56) rfl rfl rfl rfl ?_
  refine z_aload X (k := 0) l0 dX3_init_60 ?_
  refine z_iconst X (0) dX3_init_61 (by decide) ?_
  refine z_put X (C := RX3) (T := TX3) (N := 13) (ci := 3) (q0 := 0) (ty := .int) tyX3 tyX3_ok nmX3 lgX3 rfl rfl 7 (by decide) kf_X3_33 (Or.inl rfl) (by decide +kernel) rfl rfl (Nat.le_of_ble_eq_true rfl) dX3_init_62 (w' := [(n, .inr (3, [.ref (n + 1), .ref (n + 2), .ref (n + 3), .ref (n + 4), .ref (n + 5), .ref (n + 6), .ref (n + 7), .int 0, .int 0, .int 0, .int 0, .int 0, .int 0])), (n + 1, .inl (I.1, 8, .inl (fun _ => 0))), (n + 2, .inl (I.1, 8, .inl (fun _ => 0))), (n + 3, .inl (I.1, 8, .inl (fun _ => 0))), (n + 4, .inl (I.1, 8, .inl (fun _ => 0))), (n + 5, .inl (I.1, 8, .inl (fun _ => 0))), (n + 6, .inl (I.1, 8, .inl (fun _ => 0))), (n + 7, .inl (I.1, 8, .inl (fun _ => 0)))]) rfl ?_
  refine z_norm (pc' := 65) (L' := 8) (cells' := 7) (slots' := 56) rfl rfl rfl rfl ?_
  refine z_aload X (k := 0) l0 dX3_init_65 ?_
  refine z_iconst X (0) dX3_init_66 (by decide) ?_
  refine z_put X (C := RX3) (T := TX3) (N := 13) (ci := 3) (q0 := 0) (ty := .int) tyX3 tyX3_ok nmX3 lgX3 rfl rfl 8 (by decide) kf_X3_37 (Or.inl rfl) (by decide +kernel) rfl rfl (Nat.le_of_ble_eq_true rfl) dX3_init_67 (w' := [(n, .inr (3, [.ref (n + 1), .ref (n + 2), .ref (n + 3), .ref (n + 4), .ref (n + 5), .ref (n + 6), .ref (n + 7), .int 0, .int 0, .int 0, .int 0, .int 0, .int 0])), (n + 1, .inl (I.1, 8, .inl (fun _ => 0))), (n + 2, .inl (I.1, 8, .inl (fun _ => 0))), (n + 3, .inl (I.1, 8, .inl (fun _ => 0))), (n + 4, .inl (I.1, 8, .inl (fun _ => 0))), (n + 5, .inl (I.1, 8, .inl (fun _ => 0))), (n + 6, .inl (I.1, 8, .inl (fun _ => 0))), (n + 7, .inl (I.1, 8, .inl (fun _ => 0)))]) rfl ?_
  refine z_norm (pc' := 70) (L' := 8) (cells' := 7) (slots' := 56) rfl rfl rfl rfl ?_
  refine z_aload X (k := 0) l0 dX3_init_70 ?_
  refine z_iconst X (0) dX3_init_71 (by decide) ?_
  refine z_put X (C := RX3) (T := TX3) (N := 13) (ci := 3) (q0 := 0) (ty := .int) tyX3 tyX3_ok nmX3 lgX3 rfl rfl 9 (by decide) kf_X3_40 (Or.inl rfl) (by decide +kernel) rfl rfl (Nat.le_of_ble_eq_true rfl) dX3_init_72 (w' := [(n, .inr (3, [.ref (n + 1), .ref (n + 2), .ref (n + 3), .ref (n + 4), .ref (n + 5), .ref (n + 6), .ref (n + 7), .int 0, .int 0, .int 0, .int 0, .int 0, .int 0])), (n + 1, .inl (I.1, 8, .inl (fun _ => 0))), (n + 2, .inl (I.1, 8, .inl (fun _ => 0))), (n + 3, .inl (I.1, 8, .inl (fun _ => 0))), (n + 4, .inl (I.1, 8, .inl (fun _ => 0))), (n + 5, .inl (I.1, 8, .inl (fun _ => 0))), (n + 6, .inl (I.1, 8, .inl (fun _ => 0))), (n + 7, .inl (I.1, 8, .inl (fun _ => 0)))]) rfl ?_
  refine z_norm (pc' := 75) (L' := 8) (cells' := 7) (slots' := 56) rfl rfl rfl rfl ?_
  refine z_aload X (k := 0) l0 dX3_init_75 ?_
  refine z_iconst X (0) dX3_init_76 (by decide) ?_
  refine z_put X (C := RX3) (T := TX3) (N := 13) (ci := 3) (q0 := 0) (ty := .int) tyX3 tyX3_ok nmX3 lgX3 rfl rfl 10 (by decide) kf_X3_43 (Or.inl rfl) (by decide +kernel) rfl rfl (Nat.le_of_ble_eq_true rfl) dX3_init_77 (w' := [(n, .inr (3, [.ref (n + 1), .ref (n + 2), .ref (n + 3), .ref (n + 4), .ref (n + 5), .ref (n + 6), .ref (n + 7), .int 0, .int 0, .int 0, .int 0, .int 0, .int 0])), (n + 1, .inl (I.1, 8, .inl (fun _ => 0))), (n + 2, .inl (I.1, 8, .inl (fun _ => 0))), (n + 3, .inl (I.1, 8, .inl (fun _ => 0))), (n + 4, .inl (I.1, 8, .inl (fun _ => 0))), (n + 5, .inl (I.1, 8, .inl (fun _ => 0))), (n + 6, .inl (I.1, 8, .inl (fun _ => 0))), (n + 7, .inl (I.1, 8, .inl (fun _ => 0)))]) rfl ?_
  refine z_norm (pc' := 80) (L' := 8) (cells' := 7) (slots' := 56) rfl rfl rfl rfl ?_
  refine z_aload X (k := 0) l0 dX3_init_80 ?_
  refine z_iconst X (0) dX3_init_81 (by decide) ?_
  refine z_put X (C := RX3) (T := TX3) (N := 13) (ci := 3) (q0 := 0) (ty := .int) tyX3 tyX3_ok nmX3 lgX3 rfl rfl 11 (by decide) kf_X3_46 (Or.inl rfl) (by decide +kernel) rfl rfl (Nat.le_of_ble_eq_true rfl) dX3_init_82 (w' := [(n, .inr (3, [.ref (n + 1), .ref (n + 2), .ref (n + 3), .ref (n + 4), .ref (n + 5), .ref (n + 6), .ref (n + 7), .int 0, .int 0, .int 0, .int 0, .int 0, .int 0])), (n + 1, .inl (I.1, 8, .inl (fun _ => 0))), (n + 2, .inl (I.1, 8, .inl (fun _ => 0))), (n + 3, .inl (I.1, 8, .inl (fun _ => 0))), (n + 4, .inl (I.1, 8, .inl (fun _ => 0))), (n + 5, .inl (I.1, 8, .inl (fun _ => 0))), (n + 6, .inl (I.1, 8, .inl (fun _ => 0))), (n + 7, .inl (I.1, 8, .inl (fun _ => 0)))]) rfl ?_
  refine z_norm (pc' := 85) (L' := 8) (cells' := 7) (slots' := 56) rfl rfl rfl rfl ?_
  refine z_aload X (k := 0) l0 dX3_init_85 ?_
  refine z_iconst X (-1) dX3_init_86 (by decide) ?_
  refine z_put X (C := RX3) (T := TX3) (N := 13) (ci := 3) (q0 := 0) (ty := .int) tyX3 tyX3_ok nmX3 lgX3 rfl rfl 12 (by decide) kf_X3_49 (Or.inl rfl) (by decide +kernel) rfl rfl (Nat.le_of_ble_eq_true rfl) dX3_init_87 (w' := [(n, .inr (3, [.ref (n + 1), .ref (n + 2), .ref (n + 3), .ref (n + 4), .ref (n + 5), .ref (n + 6), .ref (n + 7), .int 0, .int 0, .int 0, .int 0, .int 0, .int (-1)])), (n + 1, .inl (I.1, 8, .inl (fun _ => 0))), (n + 2, .inl (I.1, 8, .inl (fun _ => 0))), (n + 3, .inl (I.1, 8, .inl (fun _ => 0))), (n + 4, .inl (I.1, 8, .inl (fun _ => 0))), (n + 5, .inl (I.1, 8, .inl (fun _ => 0))), (n + 6, .inl (I.1, 8, .inl (fun _ => 0))), (n + 7, .inl (I.1, 8, .inl (fun _ => 0)))]) rfl ?_
  refine z_norm (pc' := 90) (L' := 8) (cells' := 7) (slots' := 56) rfl rfl rfl rfl ?_
  exact z_ret (w := wX3 n I) X rfl rfl dX3_init_90
def wX4 (n : Nat) (I : cId) : va_W := [(n, .inr (4, [.ref (n + 1), .ref (n + 2), .ref (n + 3), .int 0, .int 0])), (n + 1, .inl (I.1, 8, .inl (fun _ => 0))), (n + 2, .inl (I.1, 8, .inl (fun _ => 0))), (n + 3, .inl (I.1, 8, .inl (fun _ => 0)))]
set_option maxHeartbeats 4000000 in
set_option maxRecDepth 20000 in
theorem i_X4 : cBu 1 3 24 mX4_init [] 4 [.null, .null, .null, .int 0, .int 0] wX4 := by
  refine cBu_of (by decide +kernel) (fun _ => Nat.le_of_ble_eq_true rfl) rfl ?_
  intro p l e s m args below meth c ls D I n X hin hl
  have l0 : ls[0]? = some (.val (.ref n)) := lv_at hl 0 rfl
  refine z_aload X (k := 0) l0 dX4_init_0 ?_
  refine z_obj X dX4_init_1 kb_X4_3 kb_oi kb_oc hl.1 (Nat.le_of_ble_eq_true rfl) ⟨Nat.le_of_ble_eq_true rfl, Nat.le_of_ble_eq_true rfl⟩ ?_
  refine z_aload X (k := 0) l0 dX4_init_4 ?_
  refine z_bipush X (8) dX4_init_5 (by decide) ?_
  refine z_newa X (atype := .int) (ty := .int) (cA := I.1) (t0 := 0) 8 rfl rfl (fun h => h) rfl kb_ai (by decide) (by decide) (by decide) dX4_init_7 (Nat.le_of_ble_eq_true rfl) (Nat.le_of_ble_eq_true rfl) (w' := [(n, .inr (4, [.null, .null, .null, .int 0, .int 0])), (n + 1, .inl (I.1, 8, .inl (fun _ => 0)))]) rfl ?_
  refine z_norm (pc' := 9) (L' := 2) (cells' := 1) (slots' := 8) rfl rfl rfl rfl ?_
  refine z_put X (C := RX4) (T := TX4) (N := 5) (ci := 4) (q0 := 0) (ty := .array .int) tyX4 tyX4_ok nmX4 lgX4 rfl rfl 0 (by decide) kf_X4_9 (Or.inr ⟨rfl, hin, rfl⟩) (by decide +kernel) rfl rfl (Nat.le_of_ble_eq_true rfl) dX4_init_9 (w' := [(n, .inr (4, [.ref (n + 1), .null, .null, .int 0, .int 0])), (n + 1, .inl (I.1, 8, .inl (fun _ => 0)))]) rfl ?_
  refine z_norm (pc' := 12) (L' := 2) (cells' := 1) (slots' := 8) rfl rfl rfl rfl ?_
  refine z_aload X (k := 0) l0 dX4_init_12 ?_
  refine z_bipush X (8) dX4_init_13 (by decide) ?_
  refine z_newa X (atype := .int) (ty := .int) (cA := I.1) (t0 := 0) 8 rfl rfl (fun h => h) rfl kb_ai (by decide) (by decide) (by decide) dX4_init_15 (Nat.le_of_ble_eq_true rfl) (Nat.le_of_ble_eq_true rfl) (w' := [(n, .inr (4, [.ref (n + 1), .null, .null, .int 0, .int 0])), (n + 1, .inl (I.1, 8, .inl (fun _ => 0))), (n + 2, .inl (I.1, 8, .inl (fun _ => 0)))]) rfl ?_
  refine z_norm (pc' := 17) (L' := 3) (cells' := 2) (slots' := 16) rfl rfl rfl rfl ?_
  refine z_put X (C := RX4) (T := TX4) (N := 5) (ci := 4) (q0 := 0) (ty := .array .int) tyX4 tyX4_ok nmX4 lgX4 rfl rfl 1 (by decide) kf_X4_15 (Or.inr ⟨rfl, hin, rfl⟩) (by decide +kernel) rfl rfl (Nat.le_of_ble_eq_true rfl) dX4_init_17 (w' := [(n, .inr (4, [.ref (n + 1), .ref (n + 2), .null, .int 0, .int 0])), (n + 1, .inl (I.1, 8, .inl (fun _ => 0))), (n + 2, .inl (I.1, 8, .inl (fun _ => 0)))]) rfl ?_
  refine z_norm (pc' := 20) (L' := 3) (cells' := 2) (slots' := 16) rfl rfl rfl rfl ?_
  refine z_aload X (k := 0) l0 dX4_init_20 ?_
  refine z_bipush X (8) dX4_init_21 (by decide) ?_
  refine z_newa X (atype := .int) (ty := .int) (cA := I.1) (t0 := 0) 8 rfl rfl (fun h => h) rfl kb_ai (by decide) (by decide) (by decide) dX4_init_23 (Nat.le_of_ble_eq_true rfl) (Nat.le_of_ble_eq_true rfl) (w' := [(n, .inr (4, [.ref (n + 1), .ref (n + 2), .null, .int 0, .int 0])), (n + 1, .inl (I.1, 8, .inl (fun _ => 0))), (n + 2, .inl (I.1, 8, .inl (fun _ => 0))), (n + 3, .inl (I.1, 8, .inl (fun _ => 0)))]) rfl ?_
  refine z_norm (pc' := 25) (L' := 4) (cells' := 3) (slots' := 24) rfl rfl rfl rfl ?_
  refine z_put X (C := RX4) (T := TX4) (N := 5) (ci := 4) (q0 := 0) (ty := .array .int) tyX4 tyX4_ok nmX4 lgX4 rfl rfl 2 (by decide) kf_X4_18 (Or.inr ⟨rfl, hin, rfl⟩) (by decide +kernel) rfl rfl (Nat.le_of_ble_eq_true rfl) dX4_init_25 (w' := [(n, .inr (4, [.ref (n + 1), .ref (n + 2), .ref (n + 3), .int 0, .int 0])), (n + 1, .inl (I.1, 8, .inl (fun _ => 0))), (n + 2, .inl (I.1, 8, .inl (fun _ => 0))), (n + 3, .inl (I.1, 8, .inl (fun _ => 0)))]) rfl ?_
  refine z_norm (pc' := 28) (L' := 4) (cells' := 3) (slots' := 24) rfl rfl rfl rfl ?_
  refine z_aload X (k := 0) l0 dX4_init_28 ?_
  refine z_iconst X (0) dX4_init_29 (by decide) ?_
  refine z_put X (C := RX4) (T := TX4) (N := 5) (ci := 4) (q0 := 0) (ty := .int) tyX4 tyX4_ok nmX4 lgX4 rfl rfl 3 (by decide) kf_X4_21 (Or.inl rfl) (by decide +kernel) rfl rfl (Nat.le_of_ble_eq_true rfl) dX4_init_30 (w' := [(n, .inr (4, [.ref (n + 1), .ref (n + 2), .ref (n + 3), .int 0, .int 0])), (n + 1, .inl (I.1, 8, .inl (fun _ => 0))), (n + 2, .inl (I.1, 8, .inl (fun _ => 0))), (n + 3, .inl (I.1, 8, .inl (fun _ => 0)))]) rfl ?_
  refine z_norm (pc' := 33) (L' := 4) (cells' := 3) (slots' := 24) rfl rfl rfl rfl ?_
  refine z_aload X (k := 0) l0 dX4_init_33 ?_
  refine z_iconst X (0) dX4_init_34 (by decide) ?_
  refine z_put X (C := RX4) (T := TX4) (N := 5) (ci := 4) (q0 := 0) (ty := .int) tyX4 tyX4_ok nmX4 lgX4 rfl rfl 4 (by decide) kf_X4_25 (Or.inl rfl) (by decide +kernel) rfl rfl (Nat.le_of_ble_eq_true rfl) dX4_init_35 (w' := [(n, .inr (4, [.ref (n + 1), .ref (n + 2), .ref (n + 3), .int 0, .int 0])), (n + 1, .inl (I.1, 8, .inl (fun _ => 0))), (n + 2, .inl (I.1, 8, .inl (fun _ => 0))), (n + 3, .inl (I.1, 8, .inl (fun _ => 0)))]) rfl ?_
  refine z_norm (pc' := 38) (L' := 4) (cells' := 3) (slots' := 24) rfl rfl rfl rfl ?_
  exact z_ret (w := wX4 n I) X rfl rfl dX4_init_38
def wX5 (n : Nat) (I : cId) (x : Int32) : va_W := [(n, .inr (5, [.ref (n + 1), .int (if (47 : Int32) < x then 47 else x), .int 0])), (n + 1, .inl (I.1, 47, .inl (fun _ => 0)))]
set_option maxHeartbeats 4000000 in
set_option maxRecDepth 20000 in
theorem i_X5 {x : Int32} : cBu 1 1 47 mX5_init [.int x] 5 [.null, .int 0, .int 0] (fun n I => wX5 n I x) := by
  refine cBu_of (by decide +kernel) (fun _ => Nat.le_of_ble_eq_true rfl) rfl ?_
  intro p l e s m args below meth c ls D I n X hin hl
  have l0 : ls[0]? = some (.val (.ref n)) := lv_at hl 0 rfl
  have l1 : ls[1]? = some (.val (.int x)) := lv_at hl 1 rfl
  refine z_aload X (k := 0) l0 dX5_init_0 ?_
  refine z_obj X dX5_init_1 kb_X5_3 kb_oi kb_oc hl.1 (Nat.le_of_ble_eq_true rfl) ⟨Nat.le_of_ble_eq_true rfl, Nat.le_of_ble_eq_true rfl⟩ ?_
  refine z_aload X (k := 0) l0 dX5_init_4 ?_
  refine z_bipush X (47) dX5_init_5 (by decide) ?_
  refine z_newa X (atype := .int) (ty := .int) (cA := I.1) (t0 := 0) 47 rfl rfl (fun h => h) rfl kb_ai (by decide) (by decide) (by decide) dX5_init_7 (Nat.le_of_ble_eq_true rfl) (Nat.le_of_ble_eq_true rfl) (w' := [(n, .inr (5, [.null, .int 0, .int 0])), (n + 1, .inl (I.1, 47, .inl (fun _ => 0)))]) rfl ?_
  refine z_norm (pc' := 9) (L' := 2) (cells' := 1) (slots' := 47) rfl rfl rfl rfl ?_
  refine z_put X (C := RX5) (T := TX5) (N := 3) (ci := 5) (q0 := 0) (ty := .array .int) tyX5 tyX5_ok nmX5 lgX5 rfl rfl 0 (by decide) kf_X5_9 (Or.inr ⟨rfl, hin, rfl⟩) (by decide +kernel) rfl rfl (Nat.le_of_ble_eq_true rfl) dX5_init_9 (w' := [(n, .inr (5, [.ref (n + 1), .int 0, .int 0])), (n + 1, .inl (I.1, 47, .inl (fun _ => 0)))]) rfl ?_
  refine z_norm (pc' := 12) (L' := 2) (cells' := 1) (slots' := 47) rfl rfl rfl rfl ?_
  refine z_aload X (k := 0) l0 dX5_init_12 ?_
  refine z_iconst X (0) dX5_init_13 (by decide) ?_
  refine z_put X (C := RX5) (T := TX5) (N := 3) (ci := 5) (q0 := 0) (ty := .int) tyX5 tyX5_ok nmX5 lgX5 rfl rfl 2 (by decide) kf_X5_15 (Or.inl rfl) (by decide +kernel) rfl rfl (Nat.le_of_ble_eq_true rfl) dX5_init_14 (w' := [(n, .inr (5, [.ref (n + 1), .int 0, .int 0])), (n + 1, .inl (I.1, 47, .inl (fun _ => 0)))]) rfl ?_
  refine z_norm (pc' := 17) (L' := 2) (cells' := 1) (slots' := 47) rfl rfl rfl rfl ?_
  refine z_aload X (k := 0) l0 dX5_init_17 ?_
  refine z_iload X (k := 1) l1 dX5_init_18 ?_
  refine z_bipush X (47) dX5_init_19 (by decide) ?_
  refine z_min X kb_min dX5_init_21 hl.1 (Nat.le_of_ble_eq_true rfl) ⟨Nat.le_of_ble_eq_true rfl, Nat.le_of_ble_eq_true rfl⟩ ⟨Nat.le_of_ble_eq_true rfl, Nat.le_of_ble_eq_true rfl⟩ ?_
  refine z_put X (C := RX5) (T := TX5) (N := 3) (ci := 5) (q0 := 0) (ty := .int) tyX5 tyX5_ok nmX5 lgX5 rfl rfl 1 (by decide) kf_X5_25 (Or.inr ⟨rfl, hin, rfl⟩) (by decide +kernel) rfl rfl (Nat.le_of_ble_eq_true rfl) dX5_init_24 (w' := [(n, .inr (5, [.ref (n + 1), .int (if (47 : Int32) < x then 47 else x), .int 0])), (n + 1, .inl (I.1, 47, .inl (fun _ => 0)))]) rfl ?_
  refine z_norm (pc' := 27) (L' := 2) (cells' := 1) (slots' := 47) rfl rfl rfl rfl ?_
  exact z_ret (w := wX5 n I x) X rfl rfl dX5_init_27
def wX7 (n : Nat) (I : cId) : va_W := [(n, .inr (7, [.ref (n + 1), .ref (n + 2), .ref (n + 3), .int 0])), (n + 1, .inl (I.1, 8, .inl (fun _ => 0))), (n + 2, .inl (I.1, 8, .inl (fun _ => 0))), (n + 3, .inl (I.1, 8, .inl (fun _ => 0)))]
set_option maxHeartbeats 4000000 in
set_option maxRecDepth 20000 in
theorem i_X7 : cBu 1 3 24 mX7_init [] 7 [.null, .null, .null, .int 0] wX7 := by
  refine cBu_of (by decide +kernel) (fun _ => Nat.le_of_ble_eq_true rfl) rfl ?_
  intro p l e s m args below meth c ls D I n X hin hl
  have l0 : ls[0]? = some (.val (.ref n)) := lv_at hl 0 rfl
  refine z_aload X (k := 0) l0 dX7_init_0 ?_
  refine z_obj X dX7_init_1 kb_X7_3 kb_oi kb_oc hl.1 (Nat.le_of_ble_eq_true rfl) ⟨Nat.le_of_ble_eq_true rfl, Nat.le_of_ble_eq_true rfl⟩ ?_
  refine z_aload X (k := 0) l0 dX7_init_4 ?_
  refine z_bipush X (8) dX7_init_5 (by decide) ?_
  refine z_newa X (atype := .int) (ty := .int) (cA := I.1) (t0 := 0) 8 rfl rfl (fun h => h) rfl kb_ai (by decide) (by decide) (by decide) dX7_init_7 (Nat.le_of_ble_eq_true rfl) (Nat.le_of_ble_eq_true rfl) (w' := [(n, .inr (7, [.null, .null, .null, .int 0])), (n + 1, .inl (I.1, 8, .inl (fun _ => 0)))]) rfl ?_
  refine z_norm (pc' := 9) (L' := 2) (cells' := 1) (slots' := 8) rfl rfl rfl rfl ?_
  refine z_put X (C := RX7) (T := TX7) (N := 4) (ci := 7) (q0 := 0) (ty := .array .int) tyX7 tyX7_ok nmX7 lgX7 rfl rfl 0 (by decide) kf_X7_9 (Or.inr ⟨rfl, hin, rfl⟩) (by decide +kernel) rfl rfl (Nat.le_of_ble_eq_true rfl) dX7_init_9 (w' := [(n, .inr (7, [.ref (n + 1), .null, .null, .int 0])), (n + 1, .inl (I.1, 8, .inl (fun _ => 0)))]) rfl ?_
  refine z_norm (pc' := 12) (L' := 2) (cells' := 1) (slots' := 8) rfl rfl rfl rfl ?_
  refine z_aload X (k := 0) l0 dX7_init_12 ?_
  refine z_bipush X (8) dX7_init_13 (by decide) ?_
  refine z_newa X (atype := .int) (ty := .int) (cA := I.1) (t0 := 0) 8 rfl rfl (fun h => h) rfl kb_ai (by decide) (by decide) (by decide) dX7_init_15 (Nat.le_of_ble_eq_true rfl) (Nat.le_of_ble_eq_true rfl) (w' := [(n, .inr (7, [.ref (n + 1), .null, .null, .int 0])), (n + 1, .inl (I.1, 8, .inl (fun _ => 0))), (n + 2, .inl (I.1, 8, .inl (fun _ => 0)))]) rfl ?_
  refine z_norm (pc' := 17) (L' := 3) (cells' := 2) (slots' := 16) rfl rfl rfl rfl ?_
  refine z_put X (C := RX7) (T := TX7) (N := 4) (ci := 7) (q0 := 0) (ty := .array .int) tyX7 tyX7_ok nmX7 lgX7 rfl rfl 1 (by decide) kf_X7_15 (Or.inr ⟨rfl, hin, rfl⟩) (by decide +kernel) rfl rfl (Nat.le_of_ble_eq_true rfl) dX7_init_17 (w' := [(n, .inr (7, [.ref (n + 1), .ref (n + 2), .null, .int 0])), (n + 1, .inl (I.1, 8, .inl (fun _ => 0))), (n + 2, .inl (I.1, 8, .inl (fun _ => 0)))]) rfl ?_
  refine z_norm (pc' := 20) (L' := 3) (cells' := 2) (slots' := 16) rfl rfl rfl rfl ?_
  refine z_aload X (k := 0) l0 dX7_init_20 ?_
  refine z_bipush X (8) dX7_init_21 (by decide) ?_
  refine z_newa X (atype := .int) (ty := .int) (cA := I.1) (t0 := 0) 8 rfl rfl (fun h => h) rfl kb_ai (by decide) (by decide) (by decide) dX7_init_23 (Nat.le_of_ble_eq_true rfl) (Nat.le_of_ble_eq_true rfl) (w' := [(n, .inr (7, [.ref (n + 1), .ref (n + 2), .null, .int 0])), (n + 1, .inl (I.1, 8, .inl (fun _ => 0))), (n + 2, .inl (I.1, 8, .inl (fun _ => 0))), (n + 3, .inl (I.1, 8, .inl (fun _ => 0)))]) rfl ?_
  refine z_norm (pc' := 25) (L' := 4) (cells' := 3) (slots' := 24) rfl rfl rfl rfl ?_
  refine z_put X (C := RX7) (T := TX7) (N := 4) (ci := 7) (q0 := 0) (ty := .array .int) tyX7 tyX7_ok nmX7 lgX7 rfl rfl 2 (by decide) kf_X7_18 (Or.inr ⟨rfl, hin, rfl⟩) (by decide +kernel) rfl rfl (Nat.le_of_ble_eq_true rfl) dX7_init_25 (w' := [(n, .inr (7, [.ref (n + 1), .ref (n + 2), .ref (n + 3), .int 0])), (n + 1, .inl (I.1, 8, .inl (fun _ => 0))), (n + 2, .inl (I.1, 8, .inl (fun _ => 0))), (n + 3, .inl (I.1, 8, .inl (fun _ => 0)))]) rfl ?_
  refine z_norm (pc' := 28) (L' := 4) (cells' := 3) (slots' := 24) rfl rfl rfl rfl ?_
  refine z_aload X (k := 0) l0 dX7_init_28 ?_
  refine z_iconst X (0) dX7_init_29 (by decide) ?_
  refine z_put X (C := RX7) (T := TX7) (N := 4) (ci := 7) (q0 := 0) (ty := .int) tyX7 tyX7_ok nmX7 lgX7 rfl rfl 3 (by decide) kf_X7_21 (Or.inl rfl) (by decide +kernel) rfl rfl (Nat.le_of_ble_eq_true rfl) dX7_init_30 (w' := [(n, .inr (7, [.ref (n + 1), .ref (n + 2), .ref (n + 3), .int 0])), (n + 1, .inl (I.1, 8, .inl (fun _ => 0))), (n + 2, .inl (I.1, 8, .inl (fun _ => 0))), (n + 3, .inl (I.1, 8, .inl (fun _ => 0)))]) rfl ?_
  refine z_norm (pc' := 33) (L' := 4) (cells' := 3) (slots' := 24) rfl rfl rfl rfl ?_
  exact z_ret (w := wX7 n I) X rfl rfl dX7_init_33
