/-! the constructor of the class -/
def fsX8 (n : Nat) : List Value := [.ref (n + 1), .ref (n + 3), .ref (n + 5), .ref (n + 16), .ref (n + 21), .ref (n + 25), .ref (n + 33), .ref (n + 41), .ref (n + 49), .ref (n + 50), .int 1, .int (-1), .int (-1), .int 0]
def pX8 (n : Nat) (I : cId) : va_W := (n, .inr (8, fsX8 n)) :: (wX5 (n + 1) I 47 ++ wX5 (n + 3) I 8 ++ wX6 (n + 5) I ++ wX2 (n + 16) I ++ wX7 (n + 21) I ++ wX1 (n + 25) I ++ wX3 (n + 33) I ++ wX3 (n + 41) I)
def sts (n : Nat) (I : cId) : Nat → va_W
  | 0 => []
  | i + 1 => sts n I i ++ wX3 (n + (51 + 8 * i)) I
def fH (n i : Nat) : Nat → Option Nat := fun j => if j < i then some (n + (51 + 8 * j)) else none
def vX8 (n : Nat) (I : cId) (i : Nat) : va_W := pX8 n I ++ ((n + 49, .inl (I.2.2.1, 11, .inr (.inr (.inr (.inr (fH n i)))))) :: (n + 50, .inl (I.1, 128, .inl (fun _ => 0))) :: sts n I i)
def wX8 (n : Nat) (I : cId) : va_W := vX8 n I 11
theorem pX8_len {n : Nat} {I : cId} : (pX8 n I).length = 49 := rfl
theorem sts_len {n : Nat} {I : cId} : ∀ i, (sts n I i).length = 8 * i
  | 0 => rfl
  | i + 1 => by
    show (sts n I i ++ wX3 (n + (51 + 8 * i)) I).length = _
    rw [List.length_append, sts_len i]
    show 8 * i + 8 = _
    omega
theorem vX8_len {n : Nat} {I : cId} {i : Nat} : (vX8 n I i).length = 51 + 8 * i := by
  unfold vX8
  rw [List.length_append, pX8_len, List.length_cons, List.length_cons, sts_len]
  omega
theorem vX8_0 {n : Nat} {I : cId} {i : Nat} {t : va_W} : (vX8 n I i ++ t)[0]? = some (n, .inr (8, fsX8 n)) := rfl
theorem vX8_49 {n : Nat} {I : cId} {i : Nat} {t : va_W} : (vX8 n I i ++ t)[49]? = some (n + 49, .inl (I.2.2.1, 11, .inr (.inr (.inr (.inr (fH n i)))))) := rfl
theorem fH_s {n i : Nat} (hi : i < 2 ^ 31) : va_up (fH n i) (nI i).toNatClampNeg (some (n + (51 + 8 * i))) = fH n (i + 1) := by
  rw [i_cl hi]
  funext j
  unfold va_up fH
  by_cases h : j = i
  · subst h
    rw [if_pos rfl, if_pos (by omega)]
  · rw [if_neg h]
    by_cases h2 : j < i
    · rw [if_pos h2, if_pos (by omega)]
    · rw [if_neg h2, if_neg (by omega)]
theorem set_at2 (P : va_W) (x y : Nat × va_E) (R : va_W) : (P ++ x :: R).set P.length y = P ++ y :: R := by
  induction P with
  | nil => rfl
  | cons a P ih =>
    show a :: (P ++ x :: R).set P.length y = a :: (P ++ y :: R)
    rw [ih]
theorem vX8_s {n i : Nat} {I : cId} : (vX8 n I i ++ wX3 (n + (51 + 8 * i)) I).set 49 (n + 49, .inl (I.2.2.1, 11, .inr (.inr (.inr (.inr (fH n (i + 1))))))) = vX8 n I (i + 1) := by
  have e : vX8 n I i ++ wX3 (n + (51 + 8 * i)) I = pX8 n I ++ ((n + 49, .inl (I.2.2.1, 11, .inr (.inr (.inr (.inr (fH n i)))))) :: (n + 50, .inl (I.1, 128, .inl (fun _ => 0))) :: (sts n I i ++ wX3 (n + (51 + 8 * i)) I)) := by
    unfold vX8
    rw [List.append_assoc]
    rfl
  rw [e]
  exact set_at2 (pX8 n I) _ _ _
set_option maxHeartbeats 4000000 in
set_option maxRecDepth 20000 in
theorem i_X8l {p : Program} {l : Launch} {e : Env} {s : State} {m : MethodId} {args : Array Value} {below : List Frame} {meth : Method} {c : Code} {D : va_G} {I : cId} {n : Nat} (X : cX mX8_init D I n p s m args meth c) : ∀ y i (ls : Array Slot), i + y = 11 → lv_has ls 2 [(1, .int (nI i)), (0, .ref n)] → cZ D n p l e (cR 3 138 1872) s m args below meth c (MQ below (cQ D n (wX8 n I)) args s 138 1872 (fun q => n ≤ q)) 136 ls [] (51 + 8 * i) (vX8 n I i) (50 + 8 * i) (1113 + 69 * i) := by
  intro y
  induction y with
  | zero =>
    intro i ls hi hl
    have : i = 11 := by omega
    subst this
    refine z_iload X (k := 1) (lv_at hl 0 rfl) dX8_init_136 ?_
    refine z_aload X (k := 0) (lv_at hl 1 rfl) dX8_init_137 ?_
    refine z_get X (C := RX8) (T := TX8) (N := 14) (ci := 8) (q0 := 0) lgX8 (fs := fsX8 n) rfl rfl 8 (by decide) kf_X8_59 (v := .ref (n + 49)) rfl dX8_init_138 ?_
    refine z_alen X (q0 := 49) (t0 := 2) (v := 11) (cA := I.2.2.1) (x := (11, .inr (.inr (.inr (.inr (fH n 11)))))) rfl rfl rfl dX8_init_141 ?_
    refine z_ge X (tgt := 164) dX8_init_142 rfl (fun _ => ?_) (fun q => absurd (by decide) q)
    refine z_norm (pc' := 164) (L' := 139) (cells' := 138) (slots' := 1872) rfl rfl rfl rfl ?_
    exact z_ret (w := wX8 n I) X rfl (by unfold wX8; rw [vX8_len]) dX8_init_164
  | succ y ih =>
    intro i ls hi hl
    have L1 : ls.size = 2 := hl.1
    refine z_iload X (k := 1) (lv_at hl 0 rfl) dX8_init_136 ?_
    refine z_aload X (k := 0) (lv_at hl 1 rfl) dX8_init_137 ?_
    refine z_get X (C := RX8) (T := TX8) (N := 14) (ci := 8) (q0 := 0) lgX8 (fs := fsX8 n) rfl rfl 8 (by decide) kf_X8_59 (v := .ref (n + 49)) rfl dX8_init_138 ?_
    refine z_alen X (q0 := 49) (t0 := 2) (v := 11) (cA := I.2.2.1) (x := (11, .inr (.inr (.inr (.inr (fH n i)))))) rfl rfl rfl dX8_init_141 ?_
    refine z_ge X (tgt := 164) dX8_init_142 rfl (fun q => absurd q (nI_ge (b := 11) (by omega) (by decide))) (fun _ => ?_)
    refine z_norm (pc' := 145) rfl rfl rfl rfl ?_
    refine z_aload X (k := 0) (lv_at hl 1 rfl) dX8_init_145 ?_
    refine z_get X (C := RX8) (T := TX8) (N := 14) (ci := 8) (q0 := 0) lgX8 (fs := fsX8 n) rfl rfl 8 (by decide) kf_X8_59 (v := .ref (n + 49)) rfl dX8_init_146 ?_
    refine z_iload X (k := 1) (lv_at hl 0 rfl) dX8_init_149 ?_
    refine z_new X (C := RX3) (T := TX3) (N := 13) (ci := 3) [.null, .null, .null, .null, .null, .null, .null, .int 0, .int 0, .int 0, .int 0, .int 0, .int 0] tyX3 tyX3_ok lgX3 kc_X8_49 kn_X3.1 kn_X3.2 rfl (fun j hj => nB_X3 j hj) dX8_init_150 (by show _ ≤ 138; omega) (by show _ ≤ 1872; omega) ?_
    refine z_dup X dX8_init_153 ?_
    refine z_callI X (as := []) (L := 51 + 8 * i) i_X3 moX3_init miX3_init rfl (Or.inr (List.mem_of_getElem? (i := 5) rfl)) rfl dX8_init_154 L1 (Nat.le_of_ble_eq_true rfl) ⟨Nat.le_of_ble_eq_true rfl, Nat.le_of_ble_eq_true rfl⟩ ⟨by show _ ≤ 138; omega, by show _ ≤ 1872; omega⟩ 8 rfl rfl (w' := vX8 n I i ++ wX3 (n + (51 + 8 * i)) I) rfl ?_
    refine z_aast X (q0 := 49) (qk := 51 + 8 * i) (N := 11) (f := fH n i) (v := n + (51 + 8 * i)) vX8_49 (by rw [List.getElem?_append_right (by rw [vX8_len]; omega), vX8_len, Nat.sub_self]; rfl) (vp_in_nI (by omega) (by decide)) dX8_init_157 (w' := vX8 n I (i + 1)) (by rw [fH_s (by omega)]; exact vX8_s) ?_
    refine z_norm (pc' := 158) (L' := 51 + 8 * (i + 1)) (cells' := 50 + 8 * (i + 1)) (slots' := 1113 + 69 * (i + 1)) rfl (by omega) (by omega) (by omega) ?_
    refine z_iinc X (a := 1) hl (k := 0) rfl (v := nI (i + 1)) (by rw [show Int32.ofInt 1 = 1 from by decide]; exact nI_1 i) (by decide) rfl dX8_init_158 (fun ls' hl' => ?_)
    refine z_norm (pc' := 161) rfl rfl rfl rfl ?_
    refine z_goto X (tgt := 136) dX8_init_161 rfl ?_
    exact ih (i + 1) ls' (by omega) hl'
set_option maxHeartbeats 4000000 in
set_option maxRecDepth 20000 in
theorem i_X8 : cBu 3 138 1872 mX8_init [] 8 [.null, .null, .null, .null, .null, .null, .null, .null, .null, .null, .int 0, .int 0, .int 0, .int 0] wX8 := by
  refine cBu_of (by decide +kernel) (fun _ => Nat.le_of_ble_eq_true rfl) rfl ?_
  intro p l e s m args below meth c ls D I n X hin hl
  have l0 : ls[0]? = some (.val (.ref n)) := lv_at hl 0 rfl
  refine z_aload X (k := 0) l0 dX8_init_0 ?_
  refine z_obj X dX8_init_1 kb_X8_1 kb_oi kb_oc hl.1 (Nat.le_of_ble_eq_true rfl) ⟨Nat.le_of_ble_eq_true rfl, Nat.le_of_ble_eq_true rfl⟩ ?_
  refine z_aload X (k := 0) l0 dX8_init_4 ?_
  refine z_new X (C := RX5) (T := TX5) (N := 3) (ci := 5) [.null, .int 0, .int 0] tyX5 tyX5_ok lgX5 kc_X8_7 kn_X5.1 kn_X5.2 rfl (fun j hj => nB_X5 j hj) dX8_init_5 (Nat.le_of_ble_eq_true rfl) (Nat.le_of_ble_eq_true rfl) ?_
  refine z_dup X dX8_init_8 ?_
  refine z_bipush X (47) dX8_init_9 (by decide) ?_
  refine z_callI X (as := [.int 47]) (L := 1) (i_X5 (x := 47)) moX5_init miX5_init rfl (Or.inl kb_X8_11) rfl dX8_init_11 hl.1 (Nat.le_of_ble_eq_true rfl) ⟨Nat.le_of_ble_eq_true rfl, Nat.le_of_ble_eq_true rfl⟩ ⟨Nat.le_of_ble_eq_true rfl, Nat.le_of_ble_eq_true rfl⟩ 2 rfl rfl (w' := ((n, .inr (8, [.null, .null, .null, .null, .null, .null, .null, .null, .null, .null, .int 0, .int 0, .int 0, .int 0])) :: (wX5 (n + 1) I 47))) rfl ?_
  refine z_norm (pc' := 14) (L' := 3) (cells' := 2) (slots' := 50) rfl rfl rfl rfl ?_
  refine z_put X (C := RX8) (T := TX8) (N := 14) (ci := 8) (q0 := 0) (ty := .object "BreathSold$Text") tyX8 tyX8_ok nmX8 lgX8 rfl rfl 0 (by decide) kf_X8_14 (Or.inr ⟨rfl, hin, rfl⟩) (by decide +kernel) rfl rfl (Nat.le_of_ble_eq_true rfl) dX8_init_14 (w' := ((n, .inr (8, [.ref (n + 1), .null, .null, .null, .null, .null, .null, .null, .null, .null, .int 0, .int 0, .int 0, .int 0])) :: (wX5 (n + 1) I 47))) rfl ?_
  refine z_norm (pc' := 17) (L' := 3) (cells' := 2) (slots' := 50) rfl rfl rfl rfl ?_
  refine z_aload X (k := 0) l0 dX8_init_17 ?_
  refine z_new X (C := RX5) (T := TX5) (N := 3) (ci := 5) [.null, .int 0, .int 0] tyX5 tyX5_ok lgX5 kc_X8_7 kn_X5.1 kn_X5.2 rfl (fun j hj => nB_X5 j hj) dX8_init_18 (Nat.le_of_ble_eq_true rfl) (Nat.le_of_ble_eq_true rfl) ?_
  refine z_dup X dX8_init_21 ?_
  refine z_bipush X (8) dX8_init_22 (by decide) ?_
  refine z_callI X (as := [.int 8]) (L := 3) (i_X5 (x := 8)) moX5_init miX5_init rfl (Or.inl kb_X8_11) rfl dX8_init_24 hl.1 (Nat.le_of_ble_eq_true rfl) ⟨Nat.le_of_ble_eq_true rfl, Nat.le_of_ble_eq_true rfl⟩ ⟨Nat.le_of_ble_eq_true rfl, Nat.le_of_ble_eq_true rfl⟩ 2 rfl rfl (w' := ((n, .inr (8, [.ref (n + 1), .null, .null, .null, .null, .null, .null, .null, .null, .null, .int 0, .int 0, .int 0, .int 0])) :: (wX5 (n + 1) I 47 ++ wX5 (n + 3) I 8))) rfl ?_
  refine z_norm (pc' := 27) (L' := 5) (cells' := 4) (slots' := 100) rfl rfl rfl rfl ?_
  refine z_put X (C := RX8) (T := TX8) (N := 14) (ci := 8) (q0 := 0) (ty := .object "BreathSold$Text") tyX8 tyX8_ok nmX8 lgX8 rfl rfl 1 (by decide) kf_X8_18 (Or.inr ⟨rfl, hin, rfl⟩) (by decide +kernel) rfl rfl (Nat.le_of_ble_eq_true rfl) dX8_init_27 (w' := ((n, .inr (8, [.ref (n + 1), .ref (n + 3), .null, .null, .null, .null, .null, .null, .null, .null, .int 0, .int 0, .int 0, .int 0])) :: (wX5 (n + 1) I 47 ++ wX5 (n + 3) I 8))) rfl ?_
  refine z_norm (pc' := 30) (L' := 5) (cells' := 4) (slots' := 100) rfl rfl rfl rfl ?_
  refine z_aload X (k := 0) l0 dX8_init_30 ?_
  refine z_new X (C := RX6) (T := TX6) (N := 5) (ci := 6) [.null, .null, .null, .int 0, .int 0] tyX6 tyX6_ok lgX6 kc_X8_21 kn_X6.1 kn_X6.2 rfl (fun j hj => nB_X6 j hj) dX8_init_31 (Nat.le_of_ble_eq_true rfl) (Nat.le_of_ble_eq_true rfl) ?_
  refine z_dup X dX8_init_34 ?_
  refine z_callI X (as := []) (L := 5) i_X6 moX6_init miX6_init rfl (Or.inr (List.mem_of_getElem? (i := 0) rfl)) rfl dX8_init_35 hl.1 (Nat.le_of_ble_eq_true rfl) ⟨Nat.le_of_ble_eq_true rfl, Nat.le_of_ble_eq_true rfl⟩ ⟨Nat.le_of_ble_eq_true rfl, Nat.le_of_ble_eq_true rfl⟩ 11 rfl rfl (w' := ((n, .inr (8, [.ref (n + 1), .ref (n + 3), .null, .null, .null, .null, .null, .null, .null, .null, .int 0, .int 0, .int 0, .int 0])) :: (wX5 (n + 1) I 47 ++ wX5 (n + 3) I 8 ++ wX6 (n + 5) I))) rfl ?_
  refine z_norm (pc' := 38) (L' := 16) (cells' := 15) (slots' := 211) rfl rfl rfl rfl ?_
  refine z_put X (C := RX8) (T := TX8) (N := 14) (ci := 8) (q0 := 0) (ty := .object "BreathSold$Told") tyX8 tyX8_ok nmX8 lgX8 rfl rfl 2 (by decide) kf_X8_24 (Or.inr ⟨rfl, hin, rfl⟩) (by decide +kernel) rfl rfl (Nat.le_of_ble_eq_true rfl) dX8_init_38 (w' := ((n, .inr (8, [.ref (n + 1), .ref (n + 3), .ref (n + 5), .null, .null, .null, .null, .null, .null, .null, .int 0, .int 0, .int 0, .int 0])) :: (wX5 (n + 1) I 47 ++ wX5 (n + 3) I 8 ++ wX6 (n + 5) I))) rfl ?_
  refine z_norm (pc' := 41) (L' := 16) (cells' := 15) (slots' := 211) rfl rfl rfl rfl ?_
  refine z_aload X (k := 0) l0 dX8_init_41 ?_
  refine z_new X (C := RX2) (T := TX2) (N := 6) (ci := 2) [.null, .null, .null, .null, .int 0, .int 0] tyX2 tyX2_ok lgX2 kc_X8_28 kn_X2.1 kn_X2.2 rfl (fun j hj => nB_X2 j hj) dX8_init_42 (Nat.le_of_ble_eq_true rfl) (Nat.le_of_ble_eq_true rfl) ?_
  refine z_dup X dX8_init_45 ?_
  refine z_callI X (as := []) (L := 16) i_X2 moX2_init miX2_init rfl (Or.inr (List.mem_of_getElem? (i := 3) rfl)) rfl dX8_init_46 hl.1 (Nat.le_of_ble_eq_true rfl) ⟨Nat.le_of_ble_eq_true rfl, Nat.le_of_ble_eq_true rfl⟩ ⟨Nat.le_of_ble_eq_true rfl, Nat.le_of_ble_eq_true rfl⟩ 5 rfl rfl (w' := ((n, .inr (8, [.ref (n + 1), .ref (n + 3), .ref (n + 5), .null, .null, .null, .null, .null, .null, .null, .int 0, .int 0, .int 0, .int 0])) :: (wX5 (n + 1) I 47 ++ wX5 (n + 3) I 8 ++ wX6 (n + 5) I ++ wX2 (n + 16) I))) rfl ?_
  refine z_norm (pc' := 49) (L' := 21) (cells' := 20) (slots' := 553) rfl rfl rfl rfl ?_
  refine z_put X (C := RX8) (T := TX8) (N := 14) (ci := 8) (q0 := 0) (ty := .object "BreathSold$Singer") tyX8 tyX8_ok nmX8 lgX8 rfl rfl 3 (by decide) kf_X8_31 (Or.inr ⟨rfl, hin, rfl⟩) (by decide +kernel) rfl rfl (Nat.le_of_ble_eq_true rfl) dX8_init_49 (w' := ((n, .inr (8, [.ref (n + 1), .ref (n + 3), .ref (n + 5), .ref (n + 16), .null, .null, .null, .null, .null, .null, .int 0, .int 0, .int 0, .int 0])) :: (wX5 (n + 1) I 47 ++ wX5 (n + 3) I 8 ++ wX6 (n + 5) I ++ wX2 (n + 16) I))) rfl ?_
  refine z_norm (pc' := 52) (L' := 21) (cells' := 20) (slots' := 553) rfl rfl rfl rfl ?_
  refine z_aload X (k := 0) l0 dX8_init_52 ?_
  refine z_new X (C := RX7) (T := TX7) (N := 4) (ci := 7) [.null, .null, .null, .int 0] tyX7 tyX7_ok lgX7 kc_X8_35 kn_X7.1 kn_X7.2 rfl (fun j hj => nB_X7 j hj) dX8_init_53 (Nat.le_of_ble_eq_true rfl) (Nat.le_of_ble_eq_true rfl) ?_
  refine z_dup X dX8_init_56 ?_
  refine z_callI X (as := []) (L := 21) i_X7 moX7_init miX7_init rfl (Or.inr (List.mem_of_getElem? (i := 4) rfl)) rfl dX8_init_57 hl.1 (Nat.le_of_ble_eq_true rfl) ⟨Nat.le_of_ble_eq_true rfl, Nat.le_of_ble_eq_true rfl⟩ ⟨Nat.le_of_ble_eq_true rfl, Nat.le_of_ble_eq_true rfl⟩ 4 rfl rfl (w' := ((n, .inr (8, [.ref (n + 1), .ref (n + 3), .ref (n + 5), .ref (n + 16), .null, .null, .null, .null, .null, .null, .int 0, .int 0, .int 0, .int 0])) :: (wX5 (n + 1) I 47 ++ wX5 (n + 3) I 8 ++ wX6 (n + 5) I ++ wX2 (n + 16) I ++ wX7 (n + 21) I))) rfl ?_
  refine z_norm (pc' := 60) (L' := 25) (cells' := 24) (slots' := 581) rfl rfl rfl rfl ?_
  refine z_put X (C := RX8) (T := TX8) (N := 14) (ci := 8) (q0 := 0) (ty := .object "BreathSold$Weighings") tyX8 tyX8_ok nmX8 lgX8 rfl rfl 4 (by decide) kf_X8_38 (Or.inr ⟨rfl, hin, rfl⟩) (by decide +kernel) rfl rfl (Nat.le_of_ble_eq_true rfl) dX8_init_60 (w' := ((n, .inr (8, [.ref (n + 1), .ref (n + 3), .ref (n + 5), .ref (n + 16), .ref (n + 21), .null, .null, .null, .null, .null, .int 0, .int 0, .int 0, .int 0])) :: (wX5 (n + 1) I 47 ++ wX5 (n + 3) I 8 ++ wX6 (n + 5) I ++ wX2 (n + 16) I ++ wX7 (n + 21) I))) rfl ?_
  refine z_norm (pc' := 63) (L' := 25) (cells' := 24) (slots' := 581) rfl rfl rfl rfl ?_
  refine z_aload X (k := 0) l0 dX8_init_63 ?_
  refine z_new X (C := RX1) (T := TX1) (N := 3) (ci := 1) [.null, .null, .null] tyX1 tyX1_ok lgX1 kc_X8_42 kn_X1.1 kn_X1.2 rfl (fun j hj => nB_X1 j hj) dX8_init_64 (Nat.le_of_ble_eq_true rfl) (Nat.le_of_ble_eq_true rfl) ?_
  refine z_dup X dX8_init_67 ?_
  refine z_callI X (as := []) (L := 25) i_X1 moX1_init miX1_init rfl (Or.inl kb_X8_44) rfl dX8_init_68 hl.1 (Nat.le_of_ble_eq_true rfl) ⟨Nat.le_of_ble_eq_true rfl, Nat.le_of_ble_eq_true rfl⟩ ⟨Nat.le_of_ble_eq_true rfl, Nat.le_of_ble_eq_true rfl⟩ 8 rfl rfl (w' := ((n, .inr (8, [.ref (n + 1), .ref (n + 3), .ref (n + 5), .ref (n + 16), .ref (n + 21), .null, .null, .null, .null, .null, .int 0, .int 0, .int 0, .int 0])) :: (wX5 (n + 1) I 47 ++ wX5 (n + 3) I 8 ++ wX6 (n + 5) I ++ wX2 (n + 16) I ++ wX7 (n + 21) I ++ wX1 (n + 25) I))) rfl ?_
  refine z_norm (pc' := 71) (L' := 33) (cells' := 32) (slots' := 836) rfl rfl rfl rfl ?_
  refine z_put X (C := RX8) (T := TX8) (N := 14) (ci := 8) (q0 := 0) (ty := .object "BreathSold$Sheets") tyX8 tyX8_ok nmX8 lgX8 rfl rfl 5 (by decide) kf_X8_45 (Or.inr ⟨rfl, hin, rfl⟩) (by decide +kernel) rfl rfl (Nat.le_of_ble_eq_true rfl) dX8_init_71 (w' := ((n, .inr (8, [.ref (n + 1), .ref (n + 3), .ref (n + 5), .ref (n + 16), .ref (n + 21), .ref (n + 25), .null, .null, .null, .null, .int 0, .int 0, .int 0, .int 0])) :: (wX5 (n + 1) I 47 ++ wX5 (n + 3) I 8 ++ wX6 (n + 5) I ++ wX2 (n + 16) I ++ wX7 (n + 21) I ++ wX1 (n + 25) I))) rfl ?_
  refine z_norm (pc' := 74) (L' := 33) (cells' := 32) (slots' := 836) rfl rfl rfl rfl ?_
  refine z_aload X (k := 0) l0 dX8_init_74 ?_
  refine z_new X (C := RX3) (T := TX3) (N := 13) (ci := 3) [.null, .null, .null, .null, .null, .null, .null, .int 0, .int 0, .int 0, .int 0, .int 0, .int 0] tyX3 tyX3_ok lgX3 kc_X8_49 kn_X3.1 kn_X3.2 rfl (fun j hj => nB_X3 j hj) dX8_init_75 (Nat.le_of_ble_eq_true rfl) (Nat.le_of_ble_eq_true rfl) ?_
  refine z_dup X dX8_init_78 ?_
  refine z_callI X (as := []) (L := 33) i_X3 moX3_init miX3_init rfl (Or.inr (List.mem_of_getElem? (i := 5) rfl)) rfl dX8_init_79 hl.1 (Nat.le_of_ble_eq_true rfl) ⟨Nat.le_of_ble_eq_true rfl, Nat.le_of_ble_eq_true rfl⟩ ⟨Nat.le_of_ble_eq_true rfl, Nat.le_of_ble_eq_true rfl⟩ 8 rfl rfl (w' := ((n, .inr (8, [.ref (n + 1), .ref (n + 3), .ref (n + 5), .ref (n + 16), .ref (n + 21), .ref (n + 25), .null, .null, .null, .null, .int 0, .int 0, .int 0, .int 0])) :: (wX5 (n + 1) I 47 ++ wX5 (n + 3) I 8 ++ wX6 (n + 5) I ++ wX2 (n + 16) I ++ wX7 (n + 21) I ++ wX1 (n + 25) I ++ wX3 (n + 33) I))) rfl ?_
  refine z_norm (pc' := 82) (L' := 41) (cells' := 40) (slots' := 905) rfl rfl rfl rfl ?_
  refine z_put X (C := RX8) (T := TX8) (N := 14) (ci := 8) (q0 := 0) (ty := .object "BreathSold$State") tyX8 tyX8_ok nmX8 lgX8 rfl rfl 6 (by decide) kf_X8_52 (Or.inr ⟨rfl, hin, rfl⟩) (by decide +kernel) rfl rfl (Nat.le_of_ble_eq_true rfl) dX8_init_82 (w' := ((n, .inr (8, [.ref (n + 1), .ref (n + 3), .ref (n + 5), .ref (n + 16), .ref (n + 21), .ref (n + 25), .ref (n + 33), .null, .null, .null, .int 0, .int 0, .int 0, .int 0])) :: (wX5 (n + 1) I 47 ++ wX5 (n + 3) I 8 ++ wX6 (n + 5) I ++ wX2 (n + 16) I ++ wX7 (n + 21) I ++ wX1 (n + 25) I ++ wX3 (n + 33) I))) rfl ?_
  refine z_norm (pc' := 85) (L' := 41) (cells' := 40) (slots' := 905) rfl rfl rfl rfl ?_
  refine z_aload X (k := 0) l0 dX8_init_85 ?_
  refine z_new X (C := RX3) (T := TX3) (N := 13) (ci := 3) [.null, .null, .null, .null, .null, .null, .null, .int 0, .int 0, .int 0, .int 0, .int 0, .int 0] tyX3 tyX3_ok lgX3 kc_X8_49 kn_X3.1 kn_X3.2 rfl (fun j hj => nB_X3 j hj) dX8_init_86 (Nat.le_of_ble_eq_true rfl) (Nat.le_of_ble_eq_true rfl) ?_
  refine z_dup X dX8_init_89 ?_
  refine z_callI X (as := []) (L := 41) i_X3 moX3_init miX3_init rfl (Or.inr (List.mem_of_getElem? (i := 5) rfl)) rfl dX8_init_90 hl.1 (Nat.le_of_ble_eq_true rfl) ⟨Nat.le_of_ble_eq_true rfl, Nat.le_of_ble_eq_true rfl⟩ ⟨Nat.le_of_ble_eq_true rfl, Nat.le_of_ble_eq_true rfl⟩ 8 rfl rfl (w' := ((n, .inr (8, [.ref (n + 1), .ref (n + 3), .ref (n + 5), .ref (n + 16), .ref (n + 21), .ref (n + 25), .ref (n + 33), .null, .null, .null, .int 0, .int 0, .int 0, .int 0])) :: (wX5 (n + 1) I 47 ++ wX5 (n + 3) I 8 ++ wX6 (n + 5) I ++ wX2 (n + 16) I ++ wX7 (n + 21) I ++ wX1 (n + 25) I ++ wX3 (n + 33) I ++ wX3 (n + 41) I))) rfl ?_
  refine z_norm (pc' := 93) (L' := 49) (cells' := 48) (slots' := 974) rfl rfl rfl rfl ?_
  refine z_put X (C := RX8) (T := TX8) (N := 14) (ci := 8) (q0 := 0) (ty := .object "BreathSold$State") tyX8 tyX8_ok nmX8 lgX8 rfl rfl 7 (by decide) kf_X8_56 (Or.inr ⟨rfl, hin, rfl⟩) (by decide +kernel) rfl rfl (Nat.le_of_ble_eq_true rfl) dX8_init_93 (w' := ((n, .inr (8, [.ref (n + 1), .ref (n + 3), .ref (n + 5), .ref (n + 16), .ref (n + 21), .ref (n + 25), .ref (n + 33), .ref (n + 41), .null, .null, .int 0, .int 0, .int 0, .int 0])) :: (wX5 (n + 1) I 47 ++ wX5 (n + 3) I 8 ++ wX6 (n + 5) I ++ wX2 (n + 16) I ++ wX7 (n + 21) I ++ wX1 (n + 25) I ++ wX3 (n + 33) I ++ wX3 (n + 41) I))) rfl ?_
  refine z_norm (pc' := 96) (L' := 49) (cells' := 48) (slots' := 974) rfl rfl rfl rfl ?_
  refine z_aload X (k := 0) l0 dX8_init_96 ?_
  refine z_bipush X (11) dX8_init_97 (by decide) ?_
  refine z_anew X 11 kc_X8_49 (by decide) (by decide) (by decide) dX8_init_99 (Nat.le_of_ble_eq_true rfl) (Nat.le_of_ble_eq_true rfl) (w' := ((n, .inr (8, [.ref (n + 1), .ref (n + 3), .ref (n + 5), .ref (n + 16), .ref (n + 21), .ref (n + 25), .ref (n + 33), .ref (n + 41), .null, .null, .int 0, .int 0, .int 0, .int 0])) :: (wX5 (n + 1) I 47 ++ wX5 (n + 3) I 8 ++ wX6 (n + 5) I ++ wX2 (n + 16) I ++ wX7 (n + 21) I ++ wX1 (n + 25) I ++ wX3 (n + 33) I ++ wX3 (n + 41) I ++ [(n + 49, .inl (I.2.2.1, 11, .inr (.inr (.inr (.inr (fun _ => none))))))]))) rfl ?_
  refine z_norm (pc' := 102) (L' := 50) (cells' := 49) (slots' := 985) rfl rfl rfl rfl ?_
  refine z_put X (C := RX8) (T := TX8) (N := 14) (ci := 8) (q0 := 0) (ty := .array (.object "BreathSold$State")) tyX8 tyX8_ok nmX8 lgX8 rfl rfl 8 (by decide) kf_X8_59 (Or.inr ⟨rfl, hin, rfl⟩) (by decide +kernel) rfl rfl (Nat.le_of_ble_eq_true rfl) dX8_init_102 (w' := ((n, .inr (8, [.ref (n + 1), .ref (n + 3), .ref (n + 5), .ref (n + 16), .ref (n + 21), .ref (n + 25), .ref (n + 33), .ref (n + 41), .ref (n + 49), .null, .int 0, .int 0, .int 0, .int 0])) :: (wX5 (n + 1) I 47 ++ wX5 (n + 3) I 8 ++ wX6 (n + 5) I ++ wX2 (n + 16) I ++ wX7 (n + 21) I ++ wX1 (n + 25) I ++ wX3 (n + 33) I ++ wX3 (n + 41) I ++ [(n + 49, .inl (I.2.2.1, 11, .inr (.inr (.inr (.inr (fun _ => none))))))]))) rfl ?_
  refine z_norm (pc' := 105) (L' := 50) (cells' := 49) (slots' := 985) rfl rfl rfl rfl ?_
  refine z_aload X (k := 0) l0 dX8_init_105 ?_
  refine z_sipush X (128) dX8_init_106 (by decide) ?_
  refine z_newa X (atype := .int) (ty := .int) (cA := I.1) (t0 := 0) 128 rfl rfl (fun h => h) rfl kb_ai (by decide) (by decide) (by decide) dX8_init_109 (Nat.le_of_ble_eq_true rfl) (Nat.le_of_ble_eq_true rfl) (w' := ((n, .inr (8, [.ref (n + 1), .ref (n + 3), .ref (n + 5), .ref (n + 16), .ref (n + 21), .ref (n + 25), .ref (n + 33), .ref (n + 41), .ref (n + 49), .null, .int 0, .int 0, .int 0, .int 0])) :: (wX5 (n + 1) I 47 ++ wX5 (n + 3) I 8 ++ wX6 (n + 5) I ++ wX2 (n + 16) I ++ wX7 (n + 21) I ++ wX1 (n + 25) I ++ wX3 (n + 33) I ++ wX3 (n + 41) I ++ [(n + 49, .inl (I.2.2.1, 11, .inr (.inr (.inr (.inr (fun _ => none))))))] ++ [(n + 50, .inl (I.1, 128, .inl (fun _ => 0)))]))) rfl ?_
  refine z_norm (pc' := 111) (L' := 51) (cells' := 50) (slots' := 1113) rfl rfl rfl rfl ?_
  refine z_put X (C := RX8) (T := TX8) (N := 14) (ci := 8) (q0 := 0) (ty := .array .int) tyX8 tyX8_ok nmX8 lgX8 rfl rfl 9 (by decide) kf_X8_63 (Or.inr ⟨rfl, hin, rfl⟩) (by decide +kernel) rfl rfl (Nat.le_of_ble_eq_true rfl) dX8_init_111 (w' := ((n, .inr (8, [.ref (n + 1), .ref (n + 3), .ref (n + 5), .ref (n + 16), .ref (n + 21), .ref (n + 25), .ref (n + 33), .ref (n + 41), .ref (n + 49), .ref (n + 50), .int 0, .int 0, .int 0, .int 0])) :: (wX5 (n + 1) I 47 ++ wX5 (n + 3) I 8 ++ wX6 (n + 5) I ++ wX2 (n + 16) I ++ wX7 (n + 21) I ++ wX1 (n + 25) I ++ wX3 (n + 33) I ++ wX3 (n + 41) I ++ [(n + 49, .inl (I.2.2.1, 11, .inr (.inr (.inr (.inr (fun _ => none))))))] ++ [(n + 50, .inl (I.1, 128, .inl (fun _ => 0)))]))) rfl ?_
  refine z_norm (pc' := 114) (L' := 51) (cells' := 50) (slots' := 1113) rfl rfl rfl rfl ?_
  refine z_aload X (k := 0) l0 dX8_init_114 ?_
  refine z_iconst X (1) dX8_init_115 (by decide) ?_
  refine z_put X (C := RX8) (T := TX8) (N := 14) (ci := 8) (q0 := 0) (ty := .boolean) tyX8 tyX8_ok nmX8 lgX8 rfl rfl 10 (by decide) kf_X8_67 (Or.inl rfl) (by decide +kernel) rfl rfl (Nat.le_of_ble_eq_true rfl) dX8_init_116 (w' := ((n, .inr (8, [.ref (n + 1), .ref (n + 3), .ref (n + 5), .ref (n + 16), .ref (n + 21), .ref (n + 25), .ref (n + 33), .ref (n + 41), .ref (n + 49), .ref (n + 50), .int 1, .int 0, .int 0, .int 0])) :: (wX5 (n + 1) I 47 ++ wX5 (n + 3) I 8 ++ wX6 (n + 5) I ++ wX2 (n + 16) I ++ wX7 (n + 21) I ++ wX1 (n + 25) I ++ wX3 (n + 33) I ++ wX3 (n + 41) I ++ [(n + 49, .inl (I.2.2.1, 11, .inr (.inr (.inr (.inr (fun _ => none))))))] ++ [(n + 50, .inl (I.1, 128, .inl (fun _ => 0)))]))) rfl ?_
  refine z_norm (pc' := 119) (L' := 51) (cells' := 50) (slots' := 1113) rfl rfl rfl rfl ?_
  refine z_aload X (k := 0) l0 dX8_init_119 ?_
  refine z_iconst X (-1) dX8_init_120 (by decide) ?_
  refine z_put X (C := RX8) (T := TX8) (N := 14) (ci := 8) (q0 := 0) (ty := .int) tyX8 tyX8_ok nmX8 lgX8 rfl rfl 11 (by decide) kf_X8_71 (Or.inl rfl) (by decide +kernel) rfl rfl (Nat.le_of_ble_eq_true rfl) dX8_init_121 (w' := ((n, .inr (8, [.ref (n + 1), .ref (n + 3), .ref (n + 5), .ref (n + 16), .ref (n + 21), .ref (n + 25), .ref (n + 33), .ref (n + 41), .ref (n + 49), .ref (n + 50), .int 1, .int (-1), .int 0, .int 0])) :: (wX5 (n + 1) I 47 ++ wX5 (n + 3) I 8 ++ wX6 (n + 5) I ++ wX2 (n + 16) I ++ wX7 (n + 21) I ++ wX1 (n + 25) I ++ wX3 (n + 33) I ++ wX3 (n + 41) I ++ [(n + 49, .inl (I.2.2.1, 11, .inr (.inr (.inr (.inr (fun _ => none))))))] ++ [(n + 50, .inl (I.1, 128, .inl (fun _ => 0)))]))) rfl ?_
  refine z_norm (pc' := 124) (L' := 51) (cells' := 50) (slots' := 1113) rfl rfl rfl rfl ?_
  refine z_aload X (k := 0) l0 dX8_init_124 ?_
  refine z_iconst X (-1) dX8_init_125 (by decide) ?_
  refine z_put X (C := RX8) (T := TX8) (N := 14) (ci := 8) (q0 := 0) (ty := .int) tyX8 tyX8_ok nmX8 lgX8 rfl rfl 12 (by decide) kf_X8_75 (Or.inl rfl) (by decide +kernel) rfl rfl (Nat.le_of_ble_eq_true rfl) dX8_init_126 (w' := ((n, .inr (8, [.ref (n + 1), .ref (n + 3), .ref (n + 5), .ref (n + 16), .ref (n + 21), .ref (n + 25), .ref (n + 33), .ref (n + 41), .ref (n + 49), .ref (n + 50), .int 1, .int (-1), .int (-1), .int 0])) :: (wX5 (n + 1) I 47 ++ wX5 (n + 3) I 8 ++ wX6 (n + 5) I ++ wX2 (n + 16) I ++ wX7 (n + 21) I ++ wX1 (n + 25) I ++ wX3 (n + 33) I ++ wX3 (n + 41) I ++ [(n + 49, .inl (I.2.2.1, 11, .inr (.inr (.inr (.inr (fun _ => none))))))] ++ [(n + 50, .inl (I.1, 128, .inl (fun _ => 0)))]))) rfl ?_
  refine z_norm (pc' := 129) (L' := 51) (cells' := 50) (slots' := 1113) rfl rfl rfl rfl ?_
  refine z_aload X (k := 0) l0 dX8_init_129 ?_
  refine z_iconst X (0) dX8_init_130 (by decide) ?_
  refine z_put X (C := RX8) (T := TX8) (N := 14) (ci := 8) (q0 := 0) (ty := .int) tyX8 tyX8_ok nmX8 lgX8 rfl rfl 13 (by decide) kf_X8_78 (Or.inl rfl) (by decide +kernel) rfl rfl (Nat.le_of_ble_eq_true rfl) dX8_init_131 (w' := ((n, .inr (8, [.ref (n + 1), .ref (n + 3), .ref (n + 5), .ref (n + 16), .ref (n + 21), .ref (n + 25), .ref (n + 33), .ref (n + 41), .ref (n + 49), .ref (n + 50), .int 1, .int (-1), .int (-1), .int 0])) :: (wX5 (n + 1) I 47 ++ wX5 (n + 3) I 8 ++ wX6 (n + 5) I ++ wX2 (n + 16) I ++ wX7 (n + 21) I ++ wX1 (n + 25) I ++ wX3 (n + 33) I ++ wX3 (n + 41) I ++ [(n + 49, .inl (I.2.2.1, 11, .inr (.inr (.inr (.inr (fun _ => none))))))] ++ [(n + 50, .inl (I.1, 128, .inl (fun _ => 0)))]))) rfl ?_
  refine z_norm (pc' := 134) (L' := 51) (cells' := 50) (slots' := 1113) rfl rfl rfl rfl ?_
  refine z_iconst X 0 dX8_init_134 (by decide) ?_
  refine z_istore X (k := 1) hl (by decide) rfl dX8_init_135 (fun ls1 hl1 => ?_)
  refine z_norm (pc' := 136) (L' := 51 + 8 * 0) (cells' := 50 + 8 * 0) (slots' := 1113 + 69 * 0) rfl rfl rfl rfl ?_
  have ew : ((n, .inr (8, [.ref (n + 1), .ref (n + 3), .ref (n + 5), .ref (n + 16), .ref (n + 21), .ref (n + 25), .ref (n + 33), .ref (n + 41), .ref (n + 49), .ref (n + 50), .int 1, .int (-1), .int (-1), .int 0])) :: (wX5 (n + 1) I 47 ++ wX5 (n + 3) I 8 ++ wX6 (n + 5) I ++ wX2 (n + 16) I ++ wX7 (n + 21) I ++ wX1 (n + 25) I ++ wX3 (n + 33) I ++ wX3 (n + 41) I ++ [(n + 49, .inl (I.2.2.1, 11, .inr (.inr (.inr (.inr (fun _ => none))))))] ++ [(n + 50, .inl (I.1, 128, .inl (fun _ => 0)))])) = vX8 n I 0 := rfl
  rw [ew]
  exact i_X8l X 11 0 ls1 (by omega) hl1
