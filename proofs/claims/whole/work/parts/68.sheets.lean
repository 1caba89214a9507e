/-! rows of rows, a row filled; the constructors of Sheets and Told -/
section CM
variable {M : gw_M} {D : va_G} {I : cId} {n : Nat} {p : Program} {l : Launch} {e : Env} {R : Room} {s : State} {m : MethodId} {args : Array Value} {below : List Frame} {meth : Method} {c : Code} {Q : State → Prop} {pc : Nat} {ls : Array Slot} {st : List Value} {L : Nat} {w : va_W} {cells slots : Nat}
def w27 (I : cId) (a : Nat) : va_W := [(a, .inl (I.2.2.2, 4, .inr (.inr (.inr (.inr (fun i => if i < 4 then some (a + 1 + i) else none)))))), (a + 1, .inl (I.1, 60, .inl (fun _ => 0))), (a + 2, .inl (I.1, 60, .inl (fun _ => 0))), (a + 3, .inl (I.1, 60, .inl (fun _ => 0))), (a + 4, .inl (I.1, 60, .inl (fun _ => 0)))]
theorem z_mna (X : cX M D I n p s m args meth c) {index : Nat} (hl : Cond.classLink M.1.cls index "[[I" ∈ gw_tb) (hai : Cond.arrayClass .int ∈ gw_tb) (hd : decode M.2.1 pc = .ok (.multianewarray index 2, 4)) (hc : cells + (1 + 4) ≤ R.cells) (hs : slots + (4 + 4 * 60) ≤ R.slots) {w' : va_W} (hw' : w ++ w27 I (n + L) = w') (kk : cZ D n p l e R s m args below meth c Q (pc + 4) ls (.ref (n + L) :: st) (L + 5) w' (cells + 1 + 4) (slots + 4 + 4 * 60)) : cZ D n p l e R s m args below meth c Q pc ls (.int 60 :: .int 4 :: st) L w cells slots := by
  subst hw'
  intro H locs ⟨hP, hL, hl2, hz⟩ hS T hT Xs
  have hF := X.2.2.2.2.2.2.2.1
  have hts := X.2.2.2.2.2.1
  obtain ⟨vm₁, cA, comp, fA, fC, X', step⟩ := mu_step (N := 4) (K := 60) Xs X.1 (own := M.1.cls) (index := index) X.2.2.2.2.1 (hts _ hl) hF.2.2.2 (hts _ hai) (g := F0 m pc ls (.int 60 :: .int 4 :: st)) rfl (by rw [X.2.1]; exact hd) rfl (by decide) (by decide) (by decide) (by decide) (by decide) (by decide) (by decide) hc hs
  have c1 : cA = I.2.2.2 := Option.some.inj (fA.symm.trans (hF.1.2 3 (I.2.2.2, .array .int) rfl).2)
  have c2 : comp = I.1 := Option.some.inj (fC.symm.trans (hF.1.2 0 (I.1, .int) rfl).2)
  subst c1
  subst c2
  have hTh : (T.setVm vm₁).heap = H := hT
  have f1 := mu_sz (T := T.setVm vm₁) (cA := I.2.2.2) (comp := I.1) (N := 4) (K := 60) 4
  have f2 := mu_outer (T := T.setVm vm₁) (cA := I.2.2.2) (comp := I.1) (N := 4) (K := 60) 4
  have hold : ∀ x : Nat, x < H.size → (mu_S (T.setVm vm₁) I.2.2.2 I.1 4 60 4).heap[x]? = H[x]? := fun x hx => by
    have := mu_old (T := T.setVm vm₁) (cA := I.2.2.2) (comp := I.1) (N := 4) (K := 60) (x := x) (by rw [hTh]; exact hx) 4
    rw [hTh] at this
    exact this
  have hrow : ∀ j : Nat, j < 4 → (mu_S (T.setVm vm₁) I.2.2.2 I.1 4 60 4).heap[H.size + 1 + j]? = some (vp_cell I.1 (60, .inl (fun _ => 0))) := fun j hj => by
    have := mu_row (T := T.setVm vm₁) (cA := I.2.2.2) (comp := I.1) (N := 4) (K := 60) 4 j hj
    rw [hTh] at this
    rw [this, vp_cell_i]
  rw [hTh] at f1 f2
  have hbase : ∀ q ∈ mu_L T.heap.size 4, n ≤ q.base := fun q hq => by
    rw [mu_Lb 4 q hq, hT, hz]
    omega
  have hT0 : T.heap.size = n + L := by rw [hT, hz]
  generalize mu_S (T.setVm vm₁) I.2.2.2 I.1 4 60 4 = F at X' step f1 f2 hold hrow
  have hkeep : va_P D vwCl w F.heap := hP.kept (fun k x hx => hold x.1 ((hP k x hx).lt))
  rw [hz] at f1 f2 hrow
  have hA1 : va_P D vwCl (w27 I (n + L)) F.heap := fun k x hx => by
    have h5 : k < 5 := (List.getElem?_eq_some_iff.mp hx).1
    have : k = 0 ∨ k = 1 ∨ k = 2 ∨ k = 3 ∨ k = 4 := by omega
    rcases this with rfl | rfl | rfl | rfl | rfl
    · cases hx
      show F.heap[n + L]? = some (vp_cell _ _)
      rw [f2, vp_cell_q]
      rfl
    · cases hx; exact hrow 0 (by decide)
    · cases hx; exact hrow 1 (by decide)
    · cases hx; exact hrow 2 (by decide)
    · cases hx; exact hrow 3 (by decide)
  have hA2 : cL (n + w.length) (w27 I (n + L)) := fun k x hx => by
    have h5 : k < 5 := (List.getElem?_eq_some_iff.mp hx).1
    have : k = 0 ∨ k = 1 ∨ k = 2 ∨ k = 3 ∨ k = 4 := by omega
    rw [hl2]
    rcases this with rfl | rfl | rfl | rfl | rfl <;> (cases hx; rfl)
  have hA3 : (w ++ w27 I (n + L)).length = L + 5 := by
    rw [List.length_append, hl2]
    rfl
  have hA4 : F.heap.size = n + (L + 5) := by rw [f1]; omega
  obtain ⟨t, a1, b1⟩ := kk F.heap (locs ++ mu_L T.heap.size 4) ⟨hkeep.app hA1, hL.app hA2, hA3, hA4⟩ ⟨by have := hS.1; omega, fun x h1 h2 => (hold x (Nat.lt_of_lt_of_le h1 hS.1)).trans (hS.2.1 x h1 h2), fun q hq => (List.mem_append.mp hq).elim (hS.2.2 q) (hbase q)⟩ F rfl (by simpa only [Nat.add_assoc] using X')
  refine ⟨t, step t ?_, b1⟩
  rw [hT0]
  exact a1
/-- a row filled -/
def fiF (f : Nat → Int32) (v : Int32) (k : Nat) : Nat → Int32 := fun j => if j < k then v else f j
theorem fiF_s {f : Nat → Int32} {v : Int32} {k : Nat} : upd (fiF f v k) k v = fiF f v (k + 1) := by
  funext j
  unfold upd fiF
  by_cases h : j = k
  · subst h
    rw [if_pos rfl, if_pos (by omega)]
  · rw [if_neg h]
    by_cases h2 : j < k
    · rw [if_pos h2, if_pos (by omega)]
    · rw [if_neg h2, if_neg (by omega)]
theorem f_fill {N : Nat} (hN : N < 2 ^ 31) {v : Int32} {q0 a : Nat} {f : Nat → Int32} (l : Launch) (hw : w[q0]? = some (a, .inl (I.1, N, .inl f))) : Met l yJ7_fill_53178 (.code yJ7_fill_53178 cJ7_fill_53178 4 none :: gw_tb) (cR 0 0 0) (va_Pc [.ref a, .int v] (fun U => (cF D I U ∧ n ≤ U.heap.size) ∧ cw D n L w U.heap)) (cQ D n (w.set q0 (a, .inl (I.1, N, .inl (fiF f v N))))) 0 0 (fun q => n ≤ q) := by
  refine Met.ofW (cc := cJ7_fill_53178) (maxL := 4) (ret := none) (by decide +kernel) rfl ?_
  intro p e s m args below meth c s₁ B hml hv
  obtain ⟨rfl, ⟨hF, hnn⟩, hcw⟩ := hv
  have hts := atoms_spec (ws := .code yJ7_fill_53178 cJ7_fill_53178 4 none :: gw_tb) B.pre
  have hl := lv_entry [.ref a, .int v] (n := 4) (Nat.le_of_ble_eq_true rfl)
  rw [lg_entry_eq]
  generalize (lg_sl [.ref a, .int v] ++ List.replicate (4 - (lg_sl [.ref a, .int v]).length) Slot.unset).toArray = ls at hl ⊢
  have hl : lv_has ls 4 [(0, .ref a), (1, .int v)] := hl
  have X : cX mJ7_fill_53178 D I n p s m [.ref a, .int v].toArray meth c := ⟨B.exec, B.bytes, B.returns, hml, findClass_of_methodNamed B.named, fun w hw => hts w (List.mem_cons_of_mem _ hw), B.notSynchronized, hF, hnn⟩
  have hlen : w.length = L := hcw.2.2.1
  have hq : q0 < w.length := (List.getElem?_eq_some_iff.mp hw).1
  have loop : ∀ y k (ls : Array Slot), k + y = N → lv_has ls 4 [(2, .int (nI k)), (3, .int (nI N)), (0, .ref a), (1, .int v)] → cZ D n p l e (cR 0 0 0) s m [.ref a, .int v].toArray below meth c (MQ below (cQ D n (w.set q0 (a, .inl (I.1, N, .inl (fiF f v N))))) [.ref a, .int v].toArray s 0 0 (fun q => n ≤ q)) 5 ls [] L (w.set q0 (a, .inl (I.1, N, .inl (fiF f v k)))) 0 0 := by
    intro y
    induction y with
    | zero =>
      intro k ls hk hl
      have : k = N := by omega
      subst this
      refine z_iload X (k := 2) (lv_at hl 0 rfl) dJ7_fill_53178_5 ?_
      refine z_iload X (k := 3) (lv_at hl 1 rfl) dJ7_fill_53178_6 ?_
      refine z_ge X (tgt := 20) dJ7_fill_53178_7 rfl (fun _ => ?_) (fun q => absurd (nI_le (Nat.le_refl _) (by omega)) q)
      exact z_ret X rfl (by rw [List.length_set]; exact hlen) dJ7_fill_53178_20
    | succ y ih =>
      intro k ls hk hl
      refine z_iload X (k := 2) (lv_at hl 0 rfl) dJ7_fill_53178_5 ?_
      refine z_iload X (k := 3) (lv_at hl 1 rfl) dJ7_fill_53178_6 ?_
      refine z_ge X (tgt := 20) dJ7_fill_53178_7 rfl (fun q => absurd q (nI_ge (by omega) (by omega))) (fun _ => ?_)
      refine z_norm (pc' := 10) rfl rfl rfl rfl ?_
      refine z_aload X (k := 0) (lv_at hl 2 rfl) dJ7_fill_53178_10 ?_
      refine z_iload X (k := 2) (lv_at hl 0 rfl) dJ7_fill_53178_11 ?_
      refine z_iload X (k := 1) (lv_at hl 3 rfl) dJ7_fill_53178_12 ?_
      refine z_iast X (q0 := q0) (N := N) (f := fiF f v k) (List.getElem?_set_self hq) (vp_in_nI (by omega) hN) dJ7_fill_53178_13 (w' := w.set q0 (a, .inl (I.1, N, .inl (fiF f v (k + 1))))) (by rw [List.set_set, i_cl (show k < 2 ^ 31 by omega), fiF_s]) ?_
      refine z_norm (pc' := 14) rfl rfl rfl rfl ?_
      refine z_iinc X (a := 1) hl (k := 0) rfl (v := nI (k + 1)) (by rw [show Int32.ofInt 1 = 1 from by decide]; exact nI_1 k) (by decide) rfl dJ7_fill_53178_14 (fun ls' hl' => ?_)
      refine z_norm (pc' := 17) rfl rfl rfl rfl ?_
      refine z_goto X (tgt := 5) dJ7_fill_53178_17 rfl ?_
      exact ih (k + 1) ls' (by omega) hl'
  have w0 : w.set q0 (a, .inl (I.1, N, .inl (fiF f v 0))) = w := by
    have : fiF f v 0 = f := by
      funext j
      unfold fiF
      rw [if_neg (by omega)]
    rw [this]
    apply List.ext_getElem?
    intro i
    by_cases h : i = q0
    · subst h
      rw [List.getElem?_set_self hq, hw]
    · rw [List.getElem?_set_ne (Ne.symm h)]
  have start : cZ D n p l e (cR 0 0 0) s m [.ref a, .int v].toArray below meth c (MQ below (cQ D n (w.set q0 (a, .inl (I.1, N, .inl (fiF f v N))))) [.ref a, .int v].toArray s 0 0 (fun q => n ≤ q)) 0 ls [] L w 0 0 := by
    refine z_iconst X 0 dJ7_fill_53178_0 (by decide) ?_
    refine z_istore X (k := 2) hl (by decide) rfl dJ7_fill_53178_1 (fun ls1 hl1 => ?_)
    refine z_aload X (k := 0) (lv_at hl1 1 rfl) dJ7_fill_53178_2 ?_
    refine z_alen X (q0 := q0) (t0 := 0) (v := nI N) hw rfl rfl dJ7_fill_53178_3 ?_
    refine z_istore X (k := 3) hl1 (by decide) rfl dJ7_fill_53178_4 (fun ls2 hl2 => ?_)
    have hl3 : lv_has ls2 4 [(2, .int (nI 0)), (3, .int (nI N)), (0, .ref a), (1, .int v)] := lv_sub hl2 [1, 0, 2, 3] rfl
    have := loop N 0 ls2 (by omega) hl3
    rw [w0] at this
    exact this
  exact start s.heap [] hcw va_S.rf
theorem z_fill (X : cX M D I n p s m args meth c) {idx q0 a N : Nat} {f : Nat → Int32} {v : Int32} (hN : N < 2 ^ 31) (ha : w[q0]? = some (a, .inl (I.1, N, .inl f))) (hl : Cond.methodLink M.1.cls idx yJ7_fill_53178 ∈ gw_tb) (hd : decode M.2.1 pc = .ok (.invokestatic idx, 3)) (hsz : ls.size = M.2.2.1) (hst : (st.map fun v => v.category).sum ≤ 8) (hR : 1 ≤ R.frames ∧ 44 ≤ R.locals) (hc : cells ≤ R.cells ∧ slots ≤ R.slots) {w' : va_W} (hw' : w.set q0 (a, .inl (I.1, N, .inl (fiF f v N))) = w') (kk : cZ D n p l e R s m args below meth c Q (pc + 3) ls st L w' cells slots) : cZ D n p l e R s m args below meth c Q pc ls (.int v :: .ref a :: st) L w cells slots := by
  subst hw'
  intro H locs hw hS T hT Xs
  obtain ⟨⟨o1, o2, o3, o4⟩, o5⟩ := msJ7_fill_53178
  have hts := X.2.2.2.2.2.1
  have hF := X.2.2.2.2.2.2.2.1
  have hnn := X.2.2.2.2.2.2.2.2
  have hp : PreS s H (va_Pc [.ref a, .int v] (fun U => (cF D I U ∧ n ≤ U.heap.size) ∧ cw D n L w U.heap)) [.ref a, .int v] := ⟨fun a U g mk q => ⟨q.1, ⟨cF.same (s := U) (U := U.calling g mk a) rfl q.2.1.1, q.2.1.2⟩, q.2.2⟩, fun U hU hW => ⟨rfl, ⟨hF.warm hW, by rw [hU, hw.2.2.2]; omega⟩, by rw [hU]; exact hw⟩⟩
  have hRR : (cR 0 0 0).frames + 1 ≤ R.frames ∧ 8 + (4 + 11) + (cR 0 0 0).locals ≤ R.locals := ⟨hR.1, by show 8 + (4 + 11) + 44 * 0 ≤ R.locals; have := hR.2; omega⟩
  have run : va_Run p l e R s m args below meth c H locs cells slots 0 0 (F0 m pc ls (.int v :: .ref a :: st)) st (cQ D n (w.set q0 (a, .inl (I.1, N, .inl (fiF f v N)))) [.ref a, .int v].toArray) (fun q => n ≤ q) :=
    va_runS (As := [.ref a, .int v]) (n := 2) ⟨X.1, X.2.1, X.2.2.2.1, X.2.2.2.2.1, hts⟩ (f_fill hN l ha) ⟨callB_of 2 hts (gw_goodT o1) rfl rfl rfl (hts _ o2) (hts _ hl) o3 hRR, hts _ o5⟩ hp rfl rfl hsz rfl (lv_room hst) hd hc
  obtain ⟨v', st₀, t, T', Ls, h0, X', hLs, e1, e2, ⟨hv, hcw, hz, hk1⟩, stp⟩ := run T hT Xs
  cases hv
  rw [h0] at hz hk1
  have hll : (w.set q0 (a, .inl (I.1, N, .inl (fiF f v N)))).length = L := by rw [List.length_set]; exact hw.2.2.1
  rw [hll] at hcw
  obtain ⟨t2, b1, b2⟩ := kk T'.heap (locs ++ Ls) (by rw [e1]; exact hcw) (by
    rw [e1]
    refine ⟨Nat.le_trans hS.1 hz, fun q g1 g2 => ?_, fun q hq => ?_⟩
    · rw [hk1 q (Nat.lt_of_lt_of_le g1 hS.1) g2]
      exact hS.2.1 q g1 g2
    · rcases List.mem_append.mp hq with h | h
      · exact hS.2.2 q h
      · exact hLs q h) T' rfl X'
  exact ⟨t2, stp t2 b1, b2⟩
end CM
theorem nB_X0 : ∀ j, j < 5 → defaultValue (tyX0 j) = vp_V [.null, .null, .null, .null, .int 0] j := by
  intro j hj
  have : j = 0 ∨ j = 1 ∨ j = 2 ∨ j = 3 ∨ j = 4 := by omega
  rcases this with rfl | rfl | rfl | rfl | rfl <;> rfl
theorem nB_X1 : ∀ j, j < 3 → defaultValue (tyX1 j) = vp_V [.null, .null, .null] j := by
  intro j hj
  have : j = 0 ∨ j = 1 ∨ j = 2 := by omega
  rcases this with rfl | rfl | rfl <;> rfl
theorem nB_X2 : ∀ j, j < 6 → defaultValue (tyX2 j) = vp_V [.null, .null, .null, .null, .int 0, .int 0] j := by
  intro j hj
  have : j = 0 ∨ j = 1 ∨ j = 2 ∨ j = 3 ∨ j = 4 ∨ j = 5 := by omega
  rcases this with rfl | rfl | rfl | rfl | rfl | rfl <;> rfl
theorem nB_X3 : ∀ j, j < 13 → defaultValue (tyX3 j) = vp_V [.null, .null, .null, .null, .null, .null, .null, .int 0, .int 0, .int 0, .int 0, .int 0, .int 0] j := by
  intro j hj
  have : j = 0 ∨ j = 1 ∨ j = 2 ∨ j = 3 ∨ j = 4 ∨ j = 5 ∨ j = 6 ∨ j = 7 ∨ j = 8 ∨ j = 9 ∨ j = 10 ∨ j = 11 ∨ j = 12 := by omega
  rcases this with rfl | rfl | rfl | rfl | rfl | rfl | rfl | rfl | rfl | rfl | rfl | rfl | rfl <;> rfl
theorem nB_X4 : ∀ j, j < 5 → defaultValue (tyX4 j) = vp_V [.null, .null, .null, .int 0, .int 0] j := by
  intro j hj
  have : j = 0 ∨ j = 1 ∨ j = 2 ∨ j = 3 ∨ j = 4 := by omega
  rcases this with rfl | rfl | rfl | rfl | rfl <;> rfl
theorem nB_X5 : ∀ j, j < 3 → defaultValue (tyX5 j) = vp_V [.null, .int 0, .int 0] j := by
  intro j hj
  have : j = 0 ∨ j = 1 ∨ j = 2 := by omega
  rcases this with rfl | rfl | rfl <;> rfl
theorem nB_X6 : ∀ j, j < 5 → defaultValue (tyX6 j) = vp_V [.null, .null, .null, .int 0, .int 0] j := by
  intro j hj
  have : j = 0 ∨ j = 1 ∨ j = 2 ∨ j = 3 ∨ j = 4 := by omega
  rcases this with rfl | rfl | rfl | rfl | rfl <;> rfl
theorem nB_X7 : ∀ j, j < 4 → defaultValue (tyX7 j) = vp_V [.null, .null, .null, .int 0] j := by
  intro j hj
  have : j = 0 ∨ j = 1 ∨ j = 2 ∨ j = 3 := by omega
  rcases this with rfl | rfl | rfl | rfl <;> rfl
theorem nB_X8 : ∀ j, j < 14 → defaultValue (tyX8 j) = vp_V [.null, .null, .null, .null, .null, .null, .null, .null, .null, .null, .int 0, .int 0, .int 0, .int 0] j := by
  intro j hj
  have : j = 0 ∨ j = 1 ∨ j = 2 ∨ j = 3 ∨ j = 4 ∨ j = 5 ∨ j = 6 ∨ j = 7 ∨ j = 8 ∨ j = 9 ∨ j = 10 ∨ j = 11 ∨ j = 12 ∨ j = 13 := by omega
  rcases this with rfl | rfl | rfl | rfl | rfl | rfl | rfl | rfl | rfl | rfl | rfl | rfl | rfl | rfl <;> rfl
theorem nB_X9 : ∀ j, j < 47 → defaultValue (tyX9 j) = vp_V [.null, .null, .int 0, .null, .null, .null, .null, .int 0, .null, .int 0, .int 0, .null, .int 0, .null, .null, .null, .null, .int 0, .null, .int 0, .null, .null, .null, .null, .null, .null, .null, .null, .null, .null, .int 0, .int 0, .int 0, .int 0, .int 0, .null, .int 0, .null, .null, .null, .null, .null, .null, .null, .null, .null, .int 0] j := by
  intro j hj
  have : j = 0 ∨ j = 1 ∨ j = 2 ∨ j = 3 ∨ j = 4 ∨ j = 5 ∨ j = 6 ∨ j = 7 ∨ j = 8 ∨ j = 9 ∨ j = 10 ∨ j = 11 ∨ j = 12 ∨ j = 13 ∨ j = 14 ∨ j = 15 ∨ j = 16 ∨ j = 17 ∨ j = 18 ∨ j = 19 ∨ j = 20 ∨ j = 21 ∨ j = 22 ∨ j = 23 ∨ j = 24 ∨ j = 25 ∨ j = 26 ∨ j = 27 ∨ j = 28 ∨ j = 29 ∨ j = 30 ∨ j = 31 ∨ j = 32 ∨ j = 33 ∨ j = 34 ∨ j = 35 ∨ j = 36 ∨ j = 37 ∨ j = 38 ∨ j = 39 ∨ j = 40 ∨ j = 41 ∨ j = 42 ∨ j = 43 ∨ j = 44 ∨ j = 45 ∨ j = 46 := by omega
  rcases this with rfl | rfl | rfl | rfl | rfl | rfl | rfl | rfl | rfl | rfl | rfl | rfl | rfl | rfl | rfl | rfl | rfl | rfl | rfl | rfl | rfl | rfl | rfl | rfl | rfl | rfl | rfl | rfl | rfl | rfl | rfl | rfl | rfl | rfl | rfl | rfl | rfl | rfl | rfl | rfl | rfl | rfl | rfl | rfl | rfl | rfl | rfl <;> rfl
def wX1 (n : Nat) (I : cId) : va_W := ((n, .inr (1, [.ref (n + 1), .ref (n + 6), .ref (n + 7)])) :: (w27 I (n + 1) ++ [(n + 6, .inl (I.1, 4, .inl (fiF (fun _ => 0) (-1) 4)))] ++ [(n + 7, .inl (I.1, 4, .inl (fun _ => 0)))]))
set_option maxHeartbeats 4000000 in
set_option maxRecDepth 20000 in
theorem i_X1 : cBu 1 7 252 mX1_init [] 1 [.null, .null, .null] wX1 := by
  refine cBu_of (by decide +kernel) (fun _ => Nat.le_of_ble_eq_true rfl) rfl ?_
  intro p l e s m args below meth c ls D I n X hin hl
  have l0 : ls[0]? = some (.val (.ref n)) := lv_at hl 0 rfl
  refine z_aload X (k := 0) l0 dX1_init_0 ?_
  refine z_obj X dX1_init_1 kb_X1_3 kb_oi kb_oc hl.1 (Nat.le_of_ble_eq_true rfl) ⟨Nat.le_of_ble_eq_true rfl, Nat.le_of_ble_eq_true rfl⟩ ?_
  refine z_aload X (k := 0) l0 dX1_init_4 ?_
  refine z_iconst X (4) dX1_init_5 (by decide) ?_
  refine z_bipush X (60) dX1_init_6 (by decide) ?_
  refine z_mna X kc_X1_9 kb_ai dX1_init_8 (Nat.le_of_ble_eq_true rfl) (Nat.le_of_ble_eq_true rfl) (w' := ((n, .inr (1, [.null, .null, .null])) :: (w27 I (n + 1)))) rfl ?_
  refine z_norm (pc' := 12) (L' := 6) (cells' := 5) (slots' := 244) rfl rfl rfl rfl ?_
  refine z_put X (C := RX1) (T := TX1) (N := 3) (ci := 1) (q0 := 0) (ty := .array (.array .int)) tyX1 tyX1_ok nmX1 lgX1 rfl rfl 0 (by decide) kf_X1_11 (Or.inr ⟨rfl, hin, rfl⟩) (by decide +kernel) rfl rfl (Nat.le_of_ble_eq_true rfl) dX1_init_12 (w' := ((n, .inr (1, [.ref (n + 1), .null, .null])) :: (w27 I (n + 1)))) rfl ?_
  refine z_norm (pc' := 15) (L' := 6) (cells' := 5) (slots' := 244) rfl rfl rfl rfl ?_
  refine z_aload X (k := 0) l0 dX1_init_15 ?_
  refine z_iconst X (4) dX1_init_16 (by decide) ?_
  refine z_newa X (atype := .int) (ty := .int) (cA := I.1) (t0 := 0) 4 rfl rfl (fun h => h) rfl kb_ai (by decide) (by decide) (by decide) dX1_init_17 (Nat.le_of_ble_eq_true rfl) (Nat.le_of_ble_eq_true rfl) (w' := ((n, .inr (1, [.ref (n + 1), .null, .null])) :: (w27 I (n + 1) ++ [(n + 6, .inl (I.1, 4, .inl (fun _ => 0)))]))) rfl ?_
  refine z_norm (pc' := 19) (L' := 7) (cells' := 6) (slots' := 248) rfl rfl rfl rfl ?_
  refine z_put X (C := RX1) (T := TX1) (N := 3) (ci := 1) (q0 := 0) (ty := .array .int) tyX1 tyX1_ok nmX1 lgX1 rfl rfl 1 (by decide) kf_X1_16 (Or.inr ⟨rfl, hin, rfl⟩) (by decide +kernel) rfl rfl (Nat.le_of_ble_eq_true rfl) dX1_init_19 (w' := ((n, .inr (1, [.ref (n + 1), .ref (n + 6), .null])) :: (w27 I (n + 1) ++ [(n + 6, .inl (I.1, 4, .inl (fun _ => 0)))]))) rfl ?_
  refine z_norm (pc' := 22) (L' := 7) (cells' := 6) (slots' := 248) rfl rfl rfl rfl ?_
  refine z_aload X (k := 0) l0 dX1_init_22 ?_
  refine z_iconst X (4) dX1_init_23 (by decide) ?_
  refine z_newa X (atype := .int) (ty := .int) (cA := I.1) (t0 := 0) 4 rfl rfl (fun h => h) rfl kb_ai (by decide) (by decide) (by decide) dX1_init_24 (Nat.le_of_ble_eq_true rfl) (Nat.le_of_ble_eq_true rfl) (w' := ((n, .inr (1, [.ref (n + 1), .ref (n + 6), .null])) :: (w27 I (n + 1) ++ [(n + 6, .inl (I.1, 4, .inl (fun _ => 0)))] ++ [(n + 7, .inl (I.1, 4, .inl (fun _ => 0)))]))) rfl ?_
  refine z_norm (pc' := 26) (L' := 8) (cells' := 7) (slots' := 252) rfl rfl rfl rfl ?_
  refine z_put X (C := RX1) (T := TX1) (N := 3) (ci := 1) (q0 := 0) (ty := .array .int) tyX1 tyX1_ok nmX1 lgX1 rfl rfl 2 (by decide) kf_X1_20 (Or.inr ⟨rfl, hin, rfl⟩) (by decide +kernel) rfl rfl (Nat.le_of_ble_eq_true rfl) dX1_init_26 (w' := ((n, .inr (1, [.ref (n + 1), .ref (n + 6), .ref (n + 7)])) :: (w27 I (n + 1) ++ [(n + 6, .inl (I.1, 4, .inl (fun _ => 0)))] ++ [(n + 7, .inl (I.1, 4, .inl (fun _ => 0)))]))) rfl ?_
  refine z_norm (pc' := 29) (L' := 8) (cells' := 7) (slots' := 252) rfl rfl rfl rfl ?_
  refine z_aload X (k := 0) l0 dX1_init_29 ?_
  refine z_get X (C := RX1) (T := TX1) (N := 3) (ci := 1) (q0 := 0) lgX1 rfl rfl 1 (by decide) kf_X1_16 rfl dX1_init_30 ?_
  refine z_iconst X (-1) dX1_init_33 (by decide) ?_
  refine z_fill X (q0 := 6) (N := 4) (f := fun _ => 0) (by decide) rfl ml_X1_23 dX1_init_34 hl.1 (Nat.le_of_ble_eq_true rfl) ⟨Nat.le_of_ble_eq_true rfl, Nat.le_of_ble_eq_true rfl⟩ ⟨Nat.le_of_ble_eq_true rfl, Nat.le_of_ble_eq_true rfl⟩ (w' := ((n, .inr (1, [.ref (n + 1), .ref (n + 6), .ref (n + 7)])) :: (w27 I (n + 1) ++ [(n + 6, .inl (I.1, 4, .inl (fiF (fun _ => 0) (-1) 4)))] ++ [(n + 7, .inl (I.1, 4, .inl (fun _ => 0)))]))) rfl ?_
  refine z_norm (pc' := 37) (L' := 8) (cells' := 7) (slots' := 252) rfl rfl rfl rfl ?_
  exact z_ret (w := wX1 n I) X rfl rfl dX1_init_37
def wX6 (n : Nat) (I : cId) : va_W := ((n, .inr (6, [.ref (n + 1), .ref (n + 5), .ref (n + 10), .int 0, .int 60])) :: (wX4 (n + 1) I ++ wX0 (n + 5) I ++ [(n + 10, .inl (I.1, 8, .inl (fun _ => 0)))]))
set_option maxHeartbeats 4000000 in
set_option maxRecDepth 20000 in
theorem i_X6 : cBu 2 10 106 mX6_init [] 6 [.null, .null, .null, .int 0, .int 0] wX6 := by
  refine cBu_of (by decide +kernel) (fun _ => Nat.le_of_ble_eq_true rfl) rfl ?_
  intro p l e s m args below meth c ls D I n X hin hl
  have l0 : ls[0]? = some (.val (.ref n)) := lv_at hl 0 rfl
  refine z_aload X (k := 0) l0 dX6_init_0 ?_
  refine z_obj X dX6_init_1 kb_X6_3 kb_oi kb_oc hl.1 (Nat.le_of_ble_eq_true rfl) ⟨Nat.le_of_ble_eq_true rfl, Nat.le_of_ble_eq_true rfl⟩ ?_
  refine z_aload X (k := 0) l0 dX6_init_4 ?_
  refine z_new X (C := RX4) (T := TX4) (N := 5) (ci := 4) [.null, .null, .null, .int 0, .int 0] tyX4 tyX4_ok lgX4 kc_X6_9 kn_X4.1 kn_X4.2 rfl (fun j hj => nB_X4 j hj) dX6_init_5 (Nat.le_of_ble_eq_true rfl) (Nat.le_of_ble_eq_true rfl) ?_
  refine z_dup X dX6_init_8 ?_
  refine z_callI X (as := []) (L := 1) i_X4 moX4_init miX4_init rfl (Or.inr (List.mem_of_getElem? (i := 1) rfl)) rfl dX6_init_9 hl.1 (Nat.le_of_ble_eq_true rfl) ⟨Nat.le_of_ble_eq_true rfl, Nat.le_of_ble_eq_true rfl⟩ ⟨Nat.le_of_ble_eq_true rfl, Nat.le_of_ble_eq_true rfl⟩ 4 rfl rfl (w' := ((n, .inr (6, [.null, .null, .null, .int 0, .int 0])) :: (wX4 (n + 1) I))) rfl ?_
  refine z_norm (pc' := 12) (L' := 5) (cells' := 4) (slots' := 29) rfl rfl rfl rfl ?_
  refine z_put X (C := RX6) (T := TX6) (N := 5) (ci := 6) (q0 := 0) (ty := .object "BreathSold$Stock") tyX6 tyX6_ok nmX6 lgX6 rfl rfl 0 (by decide) kf_X6_12 (Or.inr ⟨rfl, hin, rfl⟩) (by decide +kernel) rfl rfl (Nat.le_of_ble_eq_true rfl) dX6_init_12 (w' := ((n, .inr (6, [.ref (n + 1), .null, .null, .int 0, .int 0])) :: (wX4 (n + 1) I))) rfl ?_
  refine z_norm (pc' := 15) (L' := 5) (cells' := 4) (slots' := 29) rfl rfl rfl rfl ?_
  refine z_aload X (k := 0) l0 dX6_init_15 ?_
  refine z_new X (C := RX0) (T := TX0) (N := 5) (ci := 0) [.null, .null, .null, .null, .int 0] tyX0 tyX0_ok lgX0 kc_X6_18 kn_X0.1 kn_X0.2 rfl (fun j hj => nB_X0 j hj) dX6_init_16 (Nat.le_of_ble_eq_true rfl) (Nat.le_of_ble_eq_true rfl) ?_
  refine z_dup X dX6_init_19 ?_
  refine z_callI X (as := []) (L := 5) i_X0 moX0_init miX0_init rfl (Or.inr (List.mem_of_getElem? (i := 2) rfl)) rfl dX6_init_20 hl.1 (Nat.le_of_ble_eq_true rfl) ⟨Nat.le_of_ble_eq_true rfl, Nat.le_of_ble_eq_true rfl⟩ ⟨Nat.le_of_ble_eq_true rfl, Nat.le_of_ble_eq_true rfl⟩ 5 rfl rfl (w' := ((n, .inr (6, [.ref (n + 1), .null, .null, .int 0, .int 0])) :: (wX4 (n + 1) I ++ wX0 (n + 5) I))) rfl ?_
  refine z_norm (pc' := 23) (L' := 10) (cells' := 9) (slots' := 98) rfl rfl rfl rfl ?_
  refine z_put X (C := RX6) (T := TX6) (N := 5) (ci := 6) (q0 := 0) (ty := .object "BreathSold$Acts") tyX6 tyX6_ok nmX6 lgX6 rfl rfl 1 (by decide) kf_X6_21 (Or.inr ⟨rfl, hin, rfl⟩) (by decide +kernel) rfl rfl (Nat.le_of_ble_eq_true rfl) dX6_init_23 (w' := ((n, .inr (6, [.ref (n + 1), .ref (n + 5), .null, .int 0, .int 0])) :: (wX4 (n + 1) I ++ wX0 (n + 5) I))) rfl ?_
  refine z_norm (pc' := 26) (L' := 10) (cells' := 9) (slots' := 98) rfl rfl rfl rfl ?_
  refine z_aload X (k := 0) l0 dX6_init_26 ?_
  refine z_bipush X (8) dX6_init_27 (by decide) ?_
  refine z_newa X (atype := .int) (ty := .int) (cA := I.1) (t0 := 0) 8 rfl rfl (fun h => h) rfl kb_ai (by decide) (by decide) (by decide) dX6_init_29 (Nat.le_of_ble_eq_true rfl) (Nat.le_of_ble_eq_true rfl) (w' := ((n, .inr (6, [.ref (n + 1), .ref (n + 5), .null, .int 0, .int 0])) :: (wX4 (n + 1) I ++ wX0 (n + 5) I ++ [(n + 10, .inl (I.1, 8, .inl (fun _ => 0)))]))) rfl ?_
  refine z_norm (pc' := 31) (L' := 11) (cells' := 10) (slots' := 106) rfl rfl rfl rfl ?_
  refine z_put X (C := RX6) (T := TX6) (N := 5) (ci := 6) (q0 := 0) (ty := .array .int) tyX6 tyX6_ok nmX6 lgX6 rfl rfl 2 (by decide) kf_X6_25 (Or.inr ⟨rfl, hin, rfl⟩) (by decide +kernel) rfl rfl (Nat.le_of_ble_eq_true rfl) dX6_init_31 (w' := ((n, .inr (6, [.ref (n + 1), .ref (n + 5), .ref (n + 10), .int 0, .int 0])) :: (wX4 (n + 1) I ++ wX0 (n + 5) I ++ [(n + 10, .inl (I.1, 8, .inl (fun _ => 0)))]))) rfl ?_
  refine z_norm (pc' := 34) (L' := 11) (cells' := 10) (slots' := 106) rfl rfl rfl rfl ?_
  refine z_aload X (k := 0) l0 dX6_init_34 ?_
  refine z_iconst X (0) dX6_init_35 (by decide) ?_
  refine z_put X (C := RX6) (T := TX6) (N := 5) (ci := 6) (q0 := 0) (ty := .int) tyX6 tyX6_ok nmX6 lgX6 rfl rfl 3 (by decide) kf_X6_29 (Or.inl rfl) (by decide +kernel) rfl rfl (Nat.le_of_ble_eq_true rfl) dX6_init_36 (w' := ((n, .inr (6, [.ref (n + 1), .ref (n + 5), .ref (n + 10), .int 0, .int 0])) :: (wX4 (n + 1) I ++ wX0 (n + 5) I ++ [(n + 10, .inl (I.1, 8, .inl (fun _ => 0)))]))) rfl ?_
  refine z_norm (pc' := 39) (L' := 11) (cells' := 10) (slots' := 106) rfl rfl rfl rfl ?_
  refine z_aload X (k := 0) l0 dX6_init_39 ?_
  refine z_bipush X (60) dX6_init_40 (by decide) ?_
  refine z_put X (C := RX6) (T := TX6) (N := 5) (ci := 6) (q0 := 0) (ty := .int) tyX6 tyX6_ok nmX6 lgX6 rfl rfl 4 (by decide) kf_X6_33 (Or.inl rfl) (by decide +kernel) rfl rfl (Nat.le_of_ble_eq_true rfl) dX6_init_42 (w' := ((n, .inr (6, [.ref (n + 1), .ref (n + 5), .ref (n + 10), .int 0, .int 60])) :: (wX4 (n + 1) I ++ wX0 (n + 5) I ++ [(n + 10, .inl (I.1, 8, .inl (fun _ => 0)))]))) rfl ?_
  refine z_norm (pc' := 45) (L' := 11) (cells' := 10) (slots' := 106) rfl rfl rfl rfl ?_
  exact z_ret (w := wX6 n I) X rfl rfl dX6_init_45
