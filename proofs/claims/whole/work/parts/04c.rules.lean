section GR
variable {d : Nat} {M : gw_M} {pc pc2 : Nat} {lv : List (Option Value)} {st : List Value} {σ : gw_S} {Q : Option Value → gw_S → Prop}
theorem gw_lo {ls : Array Slot} {nL : Nat} {ad : Nat → Nat} {i : Nat} {v : Value} (h : lv_has ls nL (gw_l ad lv)) (hl : lv[i]? = some (some v)) : ls[i]? = some (.val (gw_v ad v)) := h.2.2 (i, gw_v ad v) (gw_l_mem.mpr ⟨v, hl, rfl⟩)
def gw_ok (lv : List (Option Value)) : Nat → Bool
  | 0 => true
  | i + 1 => match lv[i]? with
    | some (some v) => v.category != 2
    | _ => true
theorem gw_st1 {ls : Array Slot} {nL : Nat} {ad : Nat → Nat} {i : Nat} {v : Value} (hk : gw_ok lv i = true) (h : lv_has ls nL ((i, gw_v ad v) :: (gw_l ad lv).filter (fun q => !(q.1 == i) && !(q.1 + 1 == i && q.2.category == 2)))) : lv_has ls nL (gw_l ad (lv.set i (some v))) := by
  refine ⟨h.1, h.2.1, fun q hq => h.2.2 q ?_⟩
  obtain ⟨w, h1, h2⟩ := gw_l_mem.mp hq
  by_cases hi : q.1 = i
  · have hlt : i < lv.length := by
      have := (List.getElem?_eq_some_iff.mp h1).1
      rw [List.length_set] at this
      omega
    rw [hi, List.getElem?_set_self hlt] at h1
    have e1 : v = w := by simpa using h1
    refine List.mem_cons.mpr (Or.inl ?_)
    rw [← hi, e1, ← h2]
  · rw [List.getElem?_set_ne (Ne.symm hi)] at h1
    refine List.mem_cons_of_mem _ (List.mem_filter.mpr ⟨gw_l_mem.mpr ⟨w, h1, h2⟩, ?_⟩)
    by_cases h9 : q.1 + 1 = i
    · subst h9
      simp only [gw_ok, h1] at hk
      rw [h2, gw_v_cat]
      simp at hk ⊢
      exact hk
    · simp [hi, h9]
theorem gw_st2 {ls : Array Slot} {nL : Nat} {ad : Nat → Nat} {i : Nat} {v : Value} (hk : gw_ok lv i = true) (h : lv_has ls nL ((i, gw_v ad v) :: (gw_l ad lv).filter (fun q => !(q.1 == i) && (!(q.1 == i + 1) && !(q.1 + 1 == i && q.2.category == 2))))) : lv_has ls nL (gw_l ad ((lv.set i (some v)).set (i + 1) none)) := by
  refine ⟨h.1, h.2.1, fun q hq => h.2.2 q ?_⟩
  obtain ⟨w, h1, h2⟩ := gw_l_mem.mp hq
  by_cases hj : q.1 = i + 1
  · have hlt : i + 1 < (lv.set i (some v)).length := by
      have := (List.getElem?_eq_some_iff.mp h1).1
      rw [List.length_set] at this
      omega
    rw [hj, List.getElem?_set_self hlt] at h1
    simp at h1
  rw [List.getElem?_set_ne (Ne.symm hj)] at h1
  by_cases hi : q.1 = i
  · have hlt : i < lv.length := by
      have := (List.getElem?_eq_some_iff.mp h1).1
      rw [List.length_set] at this
      omega
    rw [hi, List.getElem?_set_self hlt] at h1
    have e1 : v = w := by simpa using h1
    refine List.mem_cons.mpr (Or.inl ?_)
    rw [← hi, e1, ← h2]
  · rw [List.getElem?_set_ne (Ne.symm hi)] at h1
    refine List.mem_cons_of_mem _ (List.mem_filter.mpr ⟨gw_l_mem.mpr ⟨w, h1, h2⟩, ?_⟩)
    by_cases h9 : q.1 + 1 = i
    · subst h9
      simp only [gw_ok, h1] at hk
      rw [h2, gw_v_cat]
      simp at hk ⊢
      exact ⟨by omega, hk⟩
    · simp [hi, h9, hj]
/-- fewer locals are known -/
theorem g_lv {lv2 : List (Option Value)} (hs : ∀ (i : Nat) (v : Value), lv2[i]? = some (some v) → lv[i]? = some (some v)) (k : gG d M pc lv2 st σ Q) : gG d M pc lv st σ Q := by
  intro p l e s m args below meth c H locs ls D ad dA a1 a2 a3 a4 a5 a6 a7 a8 a9 a10 a11
  refine k p l e s m args below meth c H locs ls D ad dA a1 a2 a3 a4 a5 a6 a7 a8 ⟨a9.1, a9.2.1, fun q hq => a9.2.2 q ?_⟩ a10 a11
  obtain ⟨w, h1, h2⟩ := gw_l_mem.mp hq
  exact gw_l_mem.mpr ⟨w, hs _ _ h1, h2⟩
theorem g_iconst {n : Int} {v : Int32} (hd : decode M.2.1 pc = .ok (.iconst n, 1)) (hv : Int32.ofInt n = v) (hp : pc + 1 = pc2) (k : gG d M pc2 lv (.int v :: st) σ Q) : gG d M pc lv (st) σ Q := by
  subst hp
  intro p l e s m args below meth c H locs ls D ad dA a1 a2 a3 a4 a5 a6 a7 a8 a9 a10 a11
  exact lv_iconst a1 a2 hd hv (k p l e s m args below meth c H locs ls D ad dA a1 a2 a3 a4 a5 a6 a7 a8 a9 a10 a11)
theorem g_bipush {n : Int} {v : Int32} (hd : decode M.2.1 pc = .ok (.bipush n, 2)) (hv : (Int8.ofInt n).toInt32 = v) (hp : pc + 2 = pc2) (k : gG d M pc2 lv (.int v :: st) σ Q) : gG d M pc lv (st) σ Q := by
  subst hp
  intro p l e s m args below meth c H locs ls D ad dA a1 a2 a3 a4 a5 a6 a7 a8 a9 a10 a11
  exact lv_bipush a1 a2 hd hv (k p l e s m args below meth c H locs ls D ad dA a1 a2 a3 a4 a5 a6 a7 a8 a9 a10 a11)
theorem g_sipush {n : Int} {v : Int32} (hd : decode M.2.1 pc = .ok (.sipush n, 3)) (hv : (Int16.ofInt n).toInt32 = v) (hp : pc + 3 = pc2) (k : gG d M pc2 lv (.int v :: st) σ Q) : gG d M pc lv (st) σ Q := by
  subst hp
  intro p l e s m args below meth c H locs ls D ad dA a1 a2 a3 a4 a5 a6 a7 a8 a9 a10 a11
  exact lv_sipush a1 a2 hd hv (k p l e s m args below meth c H locs ls D ad dA a1 a2 a3 a4 a5 a6 a7 a8 a9 a10 a11)
theorem g_lconst {n : Fin 2} {v : Int64} (hd : decode M.2.1 pc = .ok (.lconst n, 1)) (hv : Int64.ofNat (n : Nat) = v) (hp : pc + 1 = pc2) (k : gG d M pc2 lv (.long v :: st) σ Q) : gG d M pc lv (st) σ Q := by
  subst hp
  intro p l e s m args below meth c H locs ls D ad dA a1 a2 a3 a4 a5 a6 a7 a8 a9 a10 a11
  exact lv_lconst a1 a2 hd hv (k p l e s m args below meth c H locs ls D ad dA a1 a2 a3 a4 a5 a6 a7 a8 a9 a10 a11)
theorem g_ldc {ix : Nat} {v : Int32} (hd : decode M.2.1 pc = .ok (.ldc ix, 2)) (hw : Cond.constant M.1.cls ix v ∈ gw_tb) (hp : pc + 2 = pc2) (k : gG d M pc2 lv (.int v :: st) σ Q) : gG d M pc lv (st) σ Q := by
  subst hp
  intro p l e s m args below meth c H locs ls D ad dA a1 a2 a3 a4 a5 a6 a7 a8 a9 a10 a11
  exact lv_ldc a1 a2 a5 (a6 _ hw) hd (k p l e s m args below meth c H locs ls D ad dA a1 a2 a3 a4 a5 a6 a7 a8 a9 a10 a11)
theorem g_ldcw {ix : Nat} {v : Int32} (hd : decode M.2.1 pc = .ok (.ldc_w ix, 3)) (hw : Cond.constant M.1.cls ix v ∈ gw_tb) (hp : pc + 3 = pc2) (k : gG d M pc2 lv (.int v :: st) σ Q) : gG d M pc lv (st) σ Q := by
  subst hp
  intro p l e s m args below meth c H locs ls D ad dA a1 a2 a3 a4 a5 a6 a7 a8 a9 a10 a11
  exact lv_ldcw a1 a2 a5 (a6 _ hw) hd (k p l e s m args below meth c H locs ls D ad dA a1 a2 a3 a4 a5 a6 a7 a8 a9 a10 a11)
theorem g_ldc2 {ix : Nat} {v : Int64} (hd : decode M.2.1 pc = .ok (.ldc2_w ix, 3)) (hw : Cond.constantLong M.1.cls ix v ∈ gw_tb) (hp : pc + 3 = pc2) (k : gG d M pc2 lv (.long v :: st) σ Q) : gG d M pc lv (st) σ Q := by
  subst hp
  intro p l e s m args below meth c H locs ls D ad dA a1 a2 a3 a4 a5 a6 a7 a8 a9 a10 a11
  exact lv_ldc2 a1 a2 a5 (a6 _ hw) hd (k p l e s m args below meth c H locs ls D ad dA a1 a2 a3 a4 a5 a6 a7 a8 a9 a10 a11)
theorem g_iload_n {i : Fin 4} {x : Int32} (hd : decode M.2.1 pc = .ok (.iload_n i, 1)) (hl : lv[(i : Nat)]? = some (some (.int x))) (hp : pc + 1 = pc2) (k : gG d M pc2 lv (.int x :: st) σ Q) : gG d M pc lv (st) σ Q := by
  subst hp
  intro p l e s m args below meth c H locs ls D ad dA a1 a2 a3 a4 a5 a6 a7 a8 a9 a10 a11
  exact lv_iload_n a1 a2 hd rfl (gw_lo a9 hl) (k p l e s m args below meth c H locs ls D ad dA a1 a2 a3 a4 a5 a6 a7 a8 a9 a10 a11)
theorem g_iload {i : Nat} {x : Int32} (hd : decode M.2.1 pc = .ok (.iload i, 2)) (hl : lv[i]? = some (some (.int x))) (hp : pc + 2 = pc2) (k : gG d M pc2 lv (.int x :: st) σ Q) : gG d M pc lv (st) σ Q := by
  subst hp
  intro p l e s m args below meth c H locs ls D ad dA a1 a2 a3 a4 a5 a6 a7 a8 a9 a10 a11
  exact lv_iload a1 a2 hd (gw_lo a9 hl) (k p l e s m args below meth c H locs ls D ad dA a1 a2 a3 a4 a5 a6 a7 a8 a9 a10 a11)
theorem g_lload_n {i : Fin 4} {x : Int64} (hd : decode M.2.1 pc = .ok (.lload_n i, 1)) (hl : lv[(i : Nat)]? = some (some (.long x))) (hp : pc + 1 = pc2) (k : gG d M pc2 lv (.long x :: st) σ Q) : gG d M pc lv (st) σ Q := by
  subst hp
  intro p l e s m args below meth c H locs ls D ad dA a1 a2 a3 a4 a5 a6 a7 a8 a9 a10 a11
  exact lv_lload_n a1 a2 hd rfl (gw_lo a9 hl) (k p l e s m args below meth c H locs ls D ad dA a1 a2 a3 a4 a5 a6 a7 a8 a9 a10 a11)
theorem g_lload {i : Nat} {x : Int64} (hd : decode M.2.1 pc = .ok (.lload i, 2)) (hl : lv[i]? = some (some (.long x))) (hp : pc + 2 = pc2) (k : gG d M pc2 lv (.long x :: st) σ Q) : gG d M pc lv (st) σ Q := by
  subst hp
  intro p l e s m args below meth c H locs ls D ad dA a1 a2 a3 a4 a5 a6 a7 a8 a9 a10 a11
  exact lv_lload a1 a2 hd (gw_lo a9 hl) (k p l e s m args below meth c H locs ls D ad dA a1 a2 a3 a4 a5 a6 a7 a8 a9 a10 a11)
theorem g_aload_n {i : Fin 4} {x : Nat} (hd : decode M.2.1 pc = .ok (.aload_n i, 1)) (hl : lv[(i : Nat)]? = some (some (.ref x))) (hp : pc + 1 = pc2) (k : gG d M pc2 lv (.ref x :: st) σ Q) : gG d M pc lv (st) σ Q := by
  subst hp
  intro p l e s m args below meth c H locs ls D ad dA a1 a2 a3 a4 a5 a6 a7 a8 a9 a10 a11
  exact lv_aload_n a1 a2 hd rfl (gw_lo a9 hl) (k p l e s m args below meth c H locs ls D ad dA a1 a2 a3 a4 a5 a6 a7 a8 a9 a10 a11)
theorem g_aload {i : Nat} {x : Nat} (hd : decode M.2.1 pc = .ok (.aload i, 2)) (hl : lv[i]? = some (some (.ref x))) (hp : pc + 2 = pc2) (k : gG d M pc2 lv (.ref x :: st) σ Q) : gG d M pc lv (st) σ Q := by
  subst hp
  intro p l e s m args below meth c H locs ls D ad dA a1 a2 a3 a4 a5 a6 a7 a8 a9 a10 a11
  exact lv_aload a1 a2 hd (gw_lo a9 hl) (k p l e s m args below meth c H locs ls D ad dA a1 a2 a3 a4 a5 a6 a7 a8 a9 a10 a11)
theorem g_istore_n {i : Fin 4} {x : Int32} (hd : decode M.2.1 pc = .ok (.istore_n i, 1)) (hn : (i : Nat) < M.2.2.1) (hk : gw_ok lv (i : Nat) = true) (hp : pc + 1 = pc2) (k : gG d M pc2 (lv.set (i : Nat) (some (.int x))) (st) σ Q) : gG d M pc lv (.int x :: st) σ Q := by
  subst hp
  intro p l e s m args below meth c H locs ls D ad dA a1 a2 a3 a4 a5 a6 a7 a8 a9 a10 a11
  exact lv_istore_n a1 a2 hd rfl a9 hn rfl (fun ls2 h2 => k p l e s m args below meth c H locs ls2 D ad dA a1 a2 a3 a4 a5 a6 a7 a8 (gw_st1 hk h2) a10 a11)
theorem g_istore {i : Nat} {x : Int32} (hd : decode M.2.1 pc = .ok (.istore i, 2)) (hn : i < M.2.2.1) (hk : gw_ok lv i = true) (hp : pc + 2 = pc2) (k : gG d M pc2 (lv.set i (some (.int x))) (st) σ Q) : gG d M pc lv (.int x :: st) σ Q := by
  subst hp
  intro p l e s m args below meth c H locs ls D ad dA a1 a2 a3 a4 a5 a6 a7 a8 a9 a10 a11
  exact lv_istore a1 a2 hd  a9 hn rfl (fun ls2 h2 => k p l e s m args below meth c H locs ls2 D ad dA a1 a2 a3 a4 a5 a6 a7 a8 (gw_st1 hk h2) a10 a11)
theorem g_astore_n {i : Fin 4} {x : Nat} (hd : decode M.2.1 pc = .ok (.astore_n i, 1)) (hn : (i : Nat) < M.2.2.1) (hk : gw_ok lv (i : Nat) = true) (hp : pc + 1 = pc2) (k : gG d M pc2 (lv.set (i : Nat) (some (.ref x))) (st) σ Q) : gG d M pc lv (.ref x :: st) σ Q := by
  subst hp
  intro p l e s m args below meth c H locs ls D ad dA a1 a2 a3 a4 a5 a6 a7 a8 a9 a10 a11
  exact lv_astore_n a1 a2 hd rfl a9 hn rfl (fun ls2 h2 => k p l e s m args below meth c H locs ls2 D ad dA a1 a2 a3 a4 a5 a6 a7 a8 (gw_st1 hk h2) a10 a11)
theorem g_astore {i : Nat} {x : Nat} (hd : decode M.2.1 pc = .ok (.astore i, 2)) (hn : i < M.2.2.1) (hk : gw_ok lv i = true) (hp : pc + 2 = pc2) (k : gG d M pc2 (lv.set i (some (.ref x))) (st) σ Q) : gG d M pc lv (.ref x :: st) σ Q := by
  subst hp
  intro p l e s m args below meth c H locs ls D ad dA a1 a2 a3 a4 a5 a6 a7 a8 a9 a10 a11
  exact lv_astore a1 a2 hd  a9 hn rfl (fun ls2 h2 => k p l e s m args below meth c H locs ls2 D ad dA a1 a2 a3 a4 a5 a6 a7 a8 (gw_st1 hk h2) a10 a11)
theorem g_lstore_n {i : Fin 4} {x : Int64} (hd : decode M.2.1 pc = .ok (.lstore_n i, 1)) (hn : (i : Nat) + 1 < M.2.2.1) (hk : gw_ok lv (i : Nat) = true) (hp : pc + 1 = pc2) (k : gG d M pc2 ((lv.set (i : Nat) (some (.long x))).set ((i : Nat) + 1) none) (st) σ Q) : gG d M pc lv (.long x :: st) σ Q := by
  subst hp
  intro p l e s m args below meth c H locs ls D ad dA a1 a2 a3 a4 a5 a6 a7 a8 a9 a10 a11
  exact lv_lstore_n a1 a2 hd rfl a9 hn rfl (fun ls2 h2 => k p l e s m args below meth c H locs ls2 D ad dA a1 a2 a3 a4 a5 a6 a7 a8 (gw_st2 hk h2) a10 a11)
theorem g_lstore {i : Nat} {x : Int64} (hd : decode M.2.1 pc = .ok (.lstore i, 2)) (hn : i + 1 < M.2.2.1) (hk : gw_ok lv i = true) (hp : pc + 2 = pc2) (k : gG d M pc2 ((lv.set i (some (.long x))).set (i + 1) none) (st) σ Q) : gG d M pc lv (.long x :: st) σ Q := by
  subst hp
  intro p l e s m args below meth c H locs ls D ad dA a1 a2 a3 a4 a5 a6 a7 a8 a9 a10 a11
  exact lv_lstore a1 a2 hd  a9 hn rfl (fun ls2 h2 => k p l e s m args below meth c H locs ls2 D ad dA a1 a2 a3 a4 a5 a6 a7 a8 (gw_st2 hk h2) a10 a11)
theorem g_iinc {i : Nat} {n : Int} {x v : Int32} (hd : decode M.2.1 pc = .ok (.iinc i n, 3)) (hl : lv[i]? = some (some (.int x))) (hv : x + Int32.ofInt n = v) (hn : i < M.2.2.1) (hk : gw_ok lv i = true) (hp : pc + 3 = pc2) (k : gG d M pc2 (lv.set i (some (.int v))) st σ Q) : gG d M pc lv st σ Q := by
  subst hp
  intro p l e s m args below meth c H locs ls D ad dA a1 a2 a3 a4 a5 a6 a7 a8 a9 a10 a11
  obtain ⟨kk, hkk⟩ := List.getElem?_of_mem (gw_l_mem.mpr ⟨.int x, hl, rfl⟩ : (i, gw_v ad (.int x)) ∈ gw_l ad lv)
  exact lv_iinc a1 a2 hd a9 hkk hv hn rfl (fun ls2 h2 => k p l e s m args below meth c H locs ls2 D ad dA a1 a2 a3 a4 a5 a6 a7 a8 (gw_st1 hk h2) a10 a11)
theorem g_iadd {x y : Int32} (hd : decode M.2.1 pc = .ok (.iadd, 1))  (hp : pc + 1 = pc2) (k : gG d M pc2 lv (.int (x + y) :: st) σ Q) : gG d M pc lv (.int y :: .int x :: st) σ Q := by
  subst hp
  intro p l e s m args below meth c H locs ls D ad dA a1 a2 a3 a4 a5 a6 a7 a8 a9 a10 a11
  exact lv_iadd a1 a2 hd (k p l e s m args below meth c H locs ls D ad dA a1 a2 a3 a4 a5 a6 a7 a8 a9 a10 a11)
theorem g_isub {x y : Int32} (hd : decode M.2.1 pc = .ok (.isub, 1))  (hp : pc + 1 = pc2) (k : gG d M pc2 lv (.int (x - y) :: st) σ Q) : gG d M pc lv (.int y :: .int x :: st) σ Q := by
  subst hp
  intro p l e s m args below meth c H locs ls D ad dA a1 a2 a3 a4 a5 a6 a7 a8 a9 a10 a11
  exact lv_isub a1 a2 hd (k p l e s m args below meth c H locs ls D ad dA a1 a2 a3 a4 a5 a6 a7 a8 a9 a10 a11)
theorem g_imul {x y : Int32} (hd : decode M.2.1 pc = .ok (.imul, 1))  (hp : pc + 1 = pc2) (k : gG d M pc2 lv (.int (x * y) :: st) σ Q) : gG d M pc lv (.int y :: .int x :: st) σ Q := by
  subst hp
  intro p l e s m args below meth c H locs ls D ad dA a1 a2 a3 a4 a5 a6 a7 a8 a9 a10 a11
  exact lv_imul a1 a2 hd (k p l e s m args below meth c H locs ls D ad dA a1 a2 a3 a4 a5 a6 a7 a8 a9 a10 a11)
theorem g_iand {x y : Int32} (hd : decode M.2.1 pc = .ok (.iand, 1))  (hp : pc + 1 = pc2) (k : gG d M pc2 lv (.int (x &&& y) :: st) σ Q) : gG d M pc lv (.int y :: .int x :: st) σ Q := by
  subst hp
  intro p l e s m args below meth c H locs ls D ad dA a1 a2 a3 a4 a5 a6 a7 a8 a9 a10 a11
  exact lv_iand a1 a2 hd (k p l e s m args below meth c H locs ls D ad dA a1 a2 a3 a4 a5 a6 a7 a8 a9 a10 a11)
theorem g_ior {x y : Int32} (hd : decode M.2.1 pc = .ok (.ior, 1))  (hp : pc + 1 = pc2) (k : gG d M pc2 lv (.int (x ||| y) :: st) σ Q) : gG d M pc lv (.int y :: .int x :: st) σ Q := by
  subst hp
  intro p l e s m args below meth c H locs ls D ad dA a1 a2 a3 a4 a5 a6 a7 a8 a9 a10 a11
  exact lv_ior a1 a2 hd (k p l e s m args below meth c H locs ls D ad dA a1 a2 a3 a4 a5 a6 a7 a8 a9 a10 a11)
theorem g_ixor {x y : Int32} (hd : decode M.2.1 pc = .ok (.ixor, 1))  (hp : pc + 1 = pc2) (k : gG d M pc2 lv (.int (x ^^^ y) :: st) σ Q) : gG d M pc lv (.int y :: .int x :: st) σ Q := by
  subst hp
  intro p l e s m args below meth c H locs ls D ad dA a1 a2 a3 a4 a5 a6 a7 a8 a9 a10 a11
  exact lv_ixor a1 a2 hd (k p l e s m args below meth c H locs ls D ad dA a1 a2 a3 a4 a5 a6 a7 a8 a9 a10 a11)
theorem g_ishl {x y : Int32} (hd : decode M.2.1 pc = .ok (.ishl, 1))  (hp : pc + 1 = pc2) (k : gG d M pc2 lv (.int (x <<< (y &&& 31)) :: st) σ Q) : gG d M pc lv (.int y :: .int x :: st) σ Q := by
  subst hp
  intro p l e s m args below meth c H locs ls D ad dA a1 a2 a3 a4 a5 a6 a7 a8 a9 a10 a11
  exact lv_ishl a1 a2 hd (k p l e s m args below meth c H locs ls D ad dA a1 a2 a3 a4 a5 a6 a7 a8 a9 a10 a11)
theorem g_ishr {x y : Int32} (hd : decode M.2.1 pc = .ok (.ishr, 1))  (hp : pc + 1 = pc2) (k : gG d M pc2 lv (.int (x >>> (y &&& 31)) :: st) σ Q) : gG d M pc lv (.int y :: .int x :: st) σ Q := by
  subst hp
  intro p l e s m args below meth c H locs ls D ad dA a1 a2 a3 a4 a5 a6 a7 a8 a9 a10 a11
  exact lv_ishr a1 a2 hd (k p l e s m args below meth c H locs ls D ad dA a1 a2 a3 a4 a5 a6 a7 a8 a9 a10 a11)
theorem g_idiv {x y : Int32} (hd : decode M.2.1 pc = .ok (.idiv, 1)) (hne : ¬ y = 0) (hp : pc + 1 = pc2) (k : gG d M pc2 lv (.int (x / y) :: st) σ Q) : gG d M pc lv (.int y :: .int x :: st) σ Q := by
  subst hp
  intro p l e s m args below meth c H locs ls D ad dA a1 a2 a3 a4 a5 a6 a7 a8 a9 a10 a11
  exact lv_idiv a1 a2 hd hne (k p l e s m args below meth c H locs ls D ad dA a1 a2 a3 a4 a5 a6 a7 a8 a9 a10 a11)
theorem g_irem {x y : Int32} (hd : decode M.2.1 pc = .ok (.irem, 1)) (hne : ¬ y = 0) (hp : pc + 1 = pc2) (k : gG d M pc2 lv (.int (x - x / y * y) :: st) σ Q) : gG d M pc lv (.int y :: .int x :: st) σ Q := by
  subst hp
  intro p l e s m args below meth c H locs ls D ad dA a1 a2 a3 a4 a5 a6 a7 a8 a9 a10 a11
  exact lv_irem a1 a2 hd hne (k p l e s m args below meth c H locs ls D ad dA a1 a2 a3 a4 a5 a6 a7 a8 a9 a10 a11)
theorem g_ladd {x y : Int64} (hd : decode M.2.1 pc = .ok (.ladd, 1))  (hp : pc + 1 = pc2) (k : gG d M pc2 lv (.long (x + y) :: st) σ Q) : gG d M pc lv (.long y :: .long x :: st) σ Q := by
  subst hp
  intro p l e s m args below meth c H locs ls D ad dA a1 a2 a3 a4 a5 a6 a7 a8 a9 a10 a11
  exact lv_ladd a1 a2 hd (k p l e s m args below meth c H locs ls D ad dA a1 a2 a3 a4 a5 a6 a7 a8 a9 a10 a11)
theorem g_lsub {x y : Int64} (hd : decode M.2.1 pc = .ok (.lsub, 1))  (hp : pc + 1 = pc2) (k : gG d M pc2 lv (.long (x - y) :: st) σ Q) : gG d M pc lv (.long y :: .long x :: st) σ Q := by
  subst hp
  intro p l e s m args below meth c H locs ls D ad dA a1 a2 a3 a4 a5 a6 a7 a8 a9 a10 a11
  exact lv_lsub a1 a2 hd (k p l e s m args below meth c H locs ls D ad dA a1 a2 a3 a4 a5 a6 a7 a8 a9 a10 a11)
theorem g_lmul {x y : Int64} (hd : decode M.2.1 pc = .ok (.lmul, 1))  (hp : pc + 1 = pc2) (k : gG d M pc2 lv (.long (x * y) :: st) σ Q) : gG d M pc lv (.long y :: .long x :: st) σ Q := by
  subst hp
  intro p l e s m args below meth c H locs ls D ad dA a1 a2 a3 a4 a5 a6 a7 a8 a9 a10 a11
  exact lv_lmul a1 a2 hd (k p l e s m args below meth c H locs ls D ad dA a1 a2 a3 a4 a5 a6 a7 a8 a9 a10 a11)
theorem g_ldiv {x y : Int64} (hd : decode M.2.1 pc = .ok (.ldiv, 1)) (hne : ¬ y = 0) (hp : pc + 1 = pc2) (k : gG d M pc2 lv (.long (x / y) :: st) σ Q) : gG d M pc lv (.long y :: .long x :: st) σ Q := by
  subst hp
  intro p l e s m args below meth c H locs ls D ad dA a1 a2 a3 a4 a5 a6 a7 a8 a9 a10 a11
  exact lv_ldiv a1 a2 hd hne (k p l e s m args below meth c H locs ls D ad dA a1 a2 a3 a4 a5 a6 a7 a8 a9 a10 a11)
theorem g_lrem {x y : Int64} (hd : decode M.2.1 pc = .ok (.lrem, 1)) (hne : ¬ y = 0) (hp : pc + 1 = pc2) (k : gG d M pc2 lv (.long (x - x / y * y) :: st) σ Q) : gG d M pc lv (.long y :: .long x :: st) σ Q := by
  subst hp
  intro p l e s m args below meth c H locs ls D ad dA a1 a2 a3 a4 a5 a6 a7 a8 a9 a10 a11
  exact lv_lrem a1 a2 hd hne (k p l e s m args below meth c H locs ls D ad dA a1 a2 a3 a4 a5 a6 a7 a8 a9 a10 a11)
theorem g_iushr {x y : Int32} (hd : decode M.2.1 pc = .ok (.iushr, 1))  (hp : pc + 1 = pc2) (k : gG d M pc2 lv (.int ((x.toUInt32 >>> (y.toUInt32 &&& Int32.toUInt32 31)).toInt32) :: st) σ Q) : gG d M pc lv (.int y :: .int x :: st) σ Q := by
  subst hp
  intro p l e s m args below meth c H locs ls D ad dA a1 a2 a3 a4 a5 a6 a7 a8 a9 a10 a11
  exact lv_iushr a1 a2 hd rfl (k p l e s m args below meth c H locs ls D ad dA a1 a2 a3 a4 a5 a6 a7 a8 a9 a10 a11)
theorem g_lshl {x : Int64} {y : Int32} (hd : decode M.2.1 pc = .ok (.lshl, 1))  (hp : pc + 1 = pc2) (k : gG d M pc2 lv (.long (x <<< (y.toInt64 &&& 63)) :: st) σ Q) : gG d M pc lv (.int y :: .long x :: st) σ Q := by
  subst hp
  intro p l e s m args below meth c H locs ls D ad dA a1 a2 a3 a4 a5 a6 a7 a8 a9 a10 a11
  exact lv_lshl a1 a2 hd rfl (k p l e s m args below meth c H locs ls D ad dA a1 a2 a3 a4 a5 a6 a7 a8 a9 a10 a11)
theorem g_lshr {x : Int64} {y : Int32} (hd : decode M.2.1 pc = .ok (.lshr, 1))  (hp : pc + 1 = pc2) (k : gG d M pc2 lv (.long (x >>> (y.toInt64 &&& 63)) :: st) σ Q) : gG d M pc lv (.int y :: .long x :: st) σ Q := by
  subst hp
  intro p l e s m args below meth c H locs ls D ad dA a1 a2 a3 a4 a5 a6 a7 a8 a9 a10 a11
  exact lv_lshr a1 a2 hd rfl (k p l e s m args below meth c H locs ls D ad dA a1 a2 a3 a4 a5 a6 a7 a8 a9 a10 a11)
theorem g_lushr {x : Int64} {y : Int32} (hd : decode M.2.1 pc = .ok (.lushr, 1))  (hp : pc + 1 = pc2) (k : gG d M pc2 lv (.long ((x.toUInt64 >>> (y.toInt64.toUInt64 &&& Int64.toUInt64 63)).toInt64) :: st) σ Q) : gG d M pc lv (.int y :: .long x :: st) σ Q := by
  subst hp
  intro p l e s m args below meth c H locs ls D ad dA a1 a2 a3 a4 a5 a6 a7 a8 a9 a10 a11
  exact lv_lushr a1 a2 hd rfl (k p l e s m args below meth c H locs ls D ad dA a1 a2 a3 a4 a5 a6 a7 a8 a9 a10 a11)
theorem g_i2l {x : Int32} (hd : decode M.2.1 pc = .ok (.i2l, 1))  (hp : pc + 1 = pc2) (k : gG d M pc2 lv (.long x.toInt64 :: st) σ Q) : gG d M pc lv (.int x :: st) σ Q := by
  subst hp
  intro p l e s m args below meth c H locs ls D ad dA a1 a2 a3 a4 a5 a6 a7 a8 a9 a10 a11
  exact lv_i2l a1 a2 hd rfl (k p l e s m args below meth c H locs ls D ad dA a1 a2 a3 a4 a5 a6 a7 a8 a9 a10 a11)
theorem g_l2i {x : Int64} (hd : decode M.2.1 pc = .ok (.l2i, 1))  (hp : pc + 1 = pc2) (k : gG d M pc2 lv (.int x.toInt32 :: st) σ Q) : gG d M pc lv (.long x :: st) σ Q := by
  subst hp
  intro p l e s m args below meth c H locs ls D ad dA a1 a2 a3 a4 a5 a6 a7 a8 a9 a10 a11
  exact lv_l2i a1 a2 hd rfl (k p l e s m args below meth c H locs ls D ad dA a1 a2 a3 a4 a5 a6 a7 a8 a9 a10 a11)
theorem g_i2b {x : Int32} (hd : decode M.2.1 pc = .ok (.i2b, 1))  (hp : pc + 1 = pc2) (k : gG d M pc2 lv (.int x.toInt8.toInt32 :: st) σ Q) : gG d M pc lv (.int x :: st) σ Q := by
  subst hp
  intro p l e s m args below meth c H locs ls D ad dA a1 a2 a3 a4 a5 a6 a7 a8 a9 a10 a11
  exact lv_i2b a1 a2 hd rfl (k p l e s m args below meth c H locs ls D ad dA a1 a2 a3 a4 a5 a6 a7 a8 a9 a10 a11)
theorem g_i2s {x : Int32} (hd : decode M.2.1 pc = .ok (.i2s, 1))  (hp : pc + 1 = pc2) (k : gG d M pc2 lv (.int x.toInt16.toInt32 :: st) σ Q) : gG d M pc lv (.int x :: st) σ Q := by
  subst hp
  intro p l e s m args below meth c H locs ls D ad dA a1 a2 a3 a4 a5 a6 a7 a8 a9 a10 a11
  exact lv_i2s a1 a2 hd rfl (k p l e s m args below meth c H locs ls D ad dA a1 a2 a3 a4 a5 a6 a7 a8 a9 a10 a11)
theorem g_lcmp {x y : Int64} (hd : decode M.2.1 pc = .ok (.lcmp, 1))  (hp : pc + 1 = pc2) (k : gG d M pc2 lv (.int (lg_cmp x y) :: st) σ Q) : gG d M pc lv (.long y :: .long x :: st) σ Q := by
  subst hp
  intro p l e s m args below meth c H locs ls D ad dA a1 a2 a3 a4 a5 a6 a7 a8 a9 a10 a11
  exact W.lcmp a1 a2 hd (k p l e s m args below meth c H locs ls D ad dA a1 a2 a3 a4 a5 a6 a7 a8 a9 a10 a11)
theorem g_dup {va : Value} (hd : decode M.2.1 pc = .ok (.dup, 1)) (hva : va.category = 1) (hp : pc + 1 = pc2) (k : gG d M pc2 lv (va :: va :: st) σ Q) : gG d M pc lv (va :: st) σ Q := by
  subst hp
  intro p l e s m args below meth c H locs ls D ad dA a1 a2 a3 a4 a5 a6 a7 a8 a9 a10 a11
  exact lv_dup a1 a2 hd (by rw [gw_v_cat]; exact hva) (k p l e s m args below meth c H locs ls D ad dA a1 a2 a3 a4 a5 a6 a7 a8 a9 a10 a11)
theorem g_pop {va : Value} (hd : decode M.2.1 pc = .ok (.pop, 1)) (hva : va.category = 1) (hp : pc + 1 = pc2) (k : gG d M pc2 lv (st) σ Q) : gG d M pc lv (va :: st) σ Q := by
  subst hp
  intro p l e s m args below meth c H locs ls D ad dA a1 a2 a3 a4 a5 a6 a7 a8 a9 a10 a11
  exact lv_pop a1 a2 hd (by rw [gw_v_cat]; exact hva) (k p l e s m args below meth c H locs ls D ad dA a1 a2 a3 a4 a5 a6 a7 a8 a9 a10 a11)
theorem g_dup2 {va vb : Value} (hd : decode M.2.1 pc = .ok (.dup2, 1)) (hva : va.category = 1) (hvb : vb.category = 1) (hp : pc + 1 = pc2) (k : gG d M pc2 lv (va :: vb :: va :: vb :: st) σ Q) : gG d M pc lv (va :: vb :: st) σ Q := by
  subst hp
  intro p l e s m args below meth c H locs ls D ad dA a1 a2 a3 a4 a5 a6 a7 a8 a9 a10 a11
  exact lv_dup2_11 a1 a2 hd (by rw [gw_v_cat]; exact hva) (by rw [gw_v_cat]; exact hvb) (k p l e s m args below meth c H locs ls D ad dA a1 a2 a3 a4 a5 a6 a7 a8 a9 a10 a11)
theorem g_if_eq {x : Int32} {off : Int} {tgt : Nat} (hd : decode M.2.1 pc = .ok (.ifCond .eq off, 3)) (ht : (pc : Int) + off = (tgt : Int)) (hp : pc + 3 = pc2) (kt : x = 0 → gG d M tgt lv st σ Q) (kf : ¬ x = 0 → gG d M pc2 lv st σ Q) : gG d M pc lv (.int x :: st) σ Q := by
  subst hp
  intro p l e s m args below meth c H locs ls D ad dA a1 a2 a3 a4 a5 a6 a7 a8 a9 a10 a11
  exact lv_if_eq a1 a2 hd ht (fun h => kt h p l e s m args below meth c H locs ls D ad dA a1 a2 a3 a4 a5 a6 a7 a8 a9 a10 a11) (fun h => kf h p l e s m args below meth c H locs ls D ad dA a1 a2 a3 a4 a5 a6 a7 a8 a9 a10 a11)
theorem g_icmp_eq {x y : Int32} {off : Int} {tgt : Nat} (hd : decode M.2.1 pc = .ok (.if_icmp .eq off, 3)) (ht : (pc : Int) + off = (tgt : Int)) (hp : pc + 3 = pc2) (kt : x = y → gG d M tgt lv st σ Q) (kf : ¬ x = y → gG d M pc2 lv st σ Q) : gG d M pc lv (.int y :: .int x :: st) σ Q := by
  subst hp
  intro p l e s m args below meth c H locs ls D ad dA a1 a2 a3 a4 a5 a6 a7 a8 a9 a10 a11
  exact lv_icmp_eq a1 a2 hd ht (fun h => kt h p l e s m args below meth c H locs ls D ad dA a1 a2 a3 a4 a5 a6 a7 a8 a9 a10 a11) (fun h => kf h p l e s m args below meth c H locs ls D ad dA a1 a2 a3 a4 a5 a6 a7 a8 a9 a10 a11)
theorem g_if_ne {x : Int32} {off : Int} {tgt : Nat} (hd : decode M.2.1 pc = .ok (.ifCond .ne off, 3)) (ht : (pc : Int) + off = (tgt : Int)) (hp : pc + 3 = pc2) (kt : ¬ x = 0 → gG d M tgt lv st σ Q) (kf : x = 0 → gG d M pc2 lv st σ Q) : gG d M pc lv (.int x :: st) σ Q := by
  subst hp
  intro p l e s m args below meth c H locs ls D ad dA a1 a2 a3 a4 a5 a6 a7 a8 a9 a10 a11
  exact lv_if_ne a1 a2 hd ht (fun h => kt h p l e s m args below meth c H locs ls D ad dA a1 a2 a3 a4 a5 a6 a7 a8 a9 a10 a11) (fun h => kf h p l e s m args below meth c H locs ls D ad dA a1 a2 a3 a4 a5 a6 a7 a8 a9 a10 a11)
theorem g_icmp_ne {x y : Int32} {off : Int} {tgt : Nat} (hd : decode M.2.1 pc = .ok (.if_icmp .ne off, 3)) (ht : (pc : Int) + off = (tgt : Int)) (hp : pc + 3 = pc2) (kt : ¬ x = y → gG d M tgt lv st σ Q) (kf : x = y → gG d M pc2 lv st σ Q) : gG d M pc lv (.int y :: .int x :: st) σ Q := by
  subst hp
  intro p l e s m args below meth c H locs ls D ad dA a1 a2 a3 a4 a5 a6 a7 a8 a9 a10 a11
  exact lv_icmp_ne a1 a2 hd ht (fun h => kt h p l e s m args below meth c H locs ls D ad dA a1 a2 a3 a4 a5 a6 a7 a8 a9 a10 a11) (fun h => kf h p l e s m args below meth c H locs ls D ad dA a1 a2 a3 a4 a5 a6 a7 a8 a9 a10 a11)
theorem g_if_lt {x : Int32} {off : Int} {tgt : Nat} (hd : decode M.2.1 pc = .ok (.ifCond .lt off, 3)) (ht : (pc : Int) + off = (tgt : Int)) (hp : pc + 3 = pc2) (kt : x < 0 → gG d M tgt lv st σ Q) (kf : ¬ x < 0 → gG d M pc2 lv st σ Q) : gG d M pc lv (.int x :: st) σ Q := by
  subst hp
  intro p l e s m args below meth c H locs ls D ad dA a1 a2 a3 a4 a5 a6 a7 a8 a9 a10 a11
  exact lv_if_lt a1 a2 hd ht (fun h => kt h p l e s m args below meth c H locs ls D ad dA a1 a2 a3 a4 a5 a6 a7 a8 a9 a10 a11) (fun h => kf h p l e s m args below meth c H locs ls D ad dA a1 a2 a3 a4 a5 a6 a7 a8 a9 a10 a11)
theorem g_icmp_lt {x y : Int32} {off : Int} {tgt : Nat} (hd : decode M.2.1 pc = .ok (.if_icmp .lt off, 3)) (ht : (pc : Int) + off = (tgt : Int)) (hp : pc + 3 = pc2) (kt : x < y → gG d M tgt lv st σ Q) (kf : ¬ x < y → gG d M pc2 lv st σ Q) : gG d M pc lv (.int y :: .int x :: st) σ Q := by
  subst hp
  intro p l e s m args below meth c H locs ls D ad dA a1 a2 a3 a4 a5 a6 a7 a8 a9 a10 a11
  exact lv_icmp_lt a1 a2 hd ht (fun h => kt h p l e s m args below meth c H locs ls D ad dA a1 a2 a3 a4 a5 a6 a7 a8 a9 a10 a11) (fun h => kf h p l e s m args below meth c H locs ls D ad dA a1 a2 a3 a4 a5 a6 a7 a8 a9 a10 a11)
theorem g_if_ge {x : Int32} {off : Int} {tgt : Nat} (hd : decode M.2.1 pc = .ok (.ifCond .ge off, 3)) (ht : (pc : Int) + off = (tgt : Int)) (hp : pc + 3 = pc2) (kt : 0 ≤ x → gG d M tgt lv st σ Q) (kf : ¬ 0 ≤ x → gG d M pc2 lv st σ Q) : gG d M pc lv (.int x :: st) σ Q := by
  subst hp
  intro p l e s m args below meth c H locs ls D ad dA a1 a2 a3 a4 a5 a6 a7 a8 a9 a10 a11
  exact lv_if_ge a1 a2 hd ht (fun h => kt h p l e s m args below meth c H locs ls D ad dA a1 a2 a3 a4 a5 a6 a7 a8 a9 a10 a11) (fun h => kf h p l e s m args below meth c H locs ls D ad dA a1 a2 a3 a4 a5 a6 a7 a8 a9 a10 a11)
theorem g_icmp_ge {x y : Int32} {off : Int} {tgt : Nat} (hd : decode M.2.1 pc = .ok (.if_icmp .ge off, 3)) (ht : (pc : Int) + off = (tgt : Int)) (hp : pc + 3 = pc2) (kt : y ≤ x → gG d M tgt lv st σ Q) (kf : ¬ y ≤ x → gG d M pc2 lv st σ Q) : gG d M pc lv (.int y :: .int x :: st) σ Q := by
  subst hp
  intro p l e s m args below meth c H locs ls D ad dA a1 a2 a3 a4 a5 a6 a7 a8 a9 a10 a11
  exact lv_icmp_ge a1 a2 hd ht (fun h => kt h p l e s m args below meth c H locs ls D ad dA a1 a2 a3 a4 a5 a6 a7 a8 a9 a10 a11) (fun h => kf h p l e s m args below meth c H locs ls D ad dA a1 a2 a3 a4 a5 a6 a7 a8 a9 a10 a11)
theorem g_if_gt {x : Int32} {off : Int} {tgt : Nat} (hd : decode M.2.1 pc = .ok (.ifCond .gt off, 3)) (ht : (pc : Int) + off = (tgt : Int)) (hp : pc + 3 = pc2) (kt : 0 < x → gG d M tgt lv st σ Q) (kf : ¬ 0 < x → gG d M pc2 lv st σ Q) : gG d M pc lv (.int x :: st) σ Q := by
  subst hp
  intro p l e s m args below meth c H locs ls D ad dA a1 a2 a3 a4 a5 a6 a7 a8 a9 a10 a11
  exact lv_if_gt a1 a2 hd ht (fun h => kt h p l e s m args below meth c H locs ls D ad dA a1 a2 a3 a4 a5 a6 a7 a8 a9 a10 a11) (fun h => kf h p l e s m args below meth c H locs ls D ad dA a1 a2 a3 a4 a5 a6 a7 a8 a9 a10 a11)
theorem g_icmp_gt {x y : Int32} {off : Int} {tgt : Nat} (hd : decode M.2.1 pc = .ok (.if_icmp .gt off, 3)) (ht : (pc : Int) + off = (tgt : Int)) (hp : pc + 3 = pc2) (kt : y < x → gG d M tgt lv st σ Q) (kf : ¬ y < x → gG d M pc2 lv st σ Q) : gG d M pc lv (.int y :: .int x :: st) σ Q := by
  subst hp
  intro p l e s m args below meth c H locs ls D ad dA a1 a2 a3 a4 a5 a6 a7 a8 a9 a10 a11
  exact lv_icmp_gt a1 a2 hd ht (fun h => kt h p l e s m args below meth c H locs ls D ad dA a1 a2 a3 a4 a5 a6 a7 a8 a9 a10 a11) (fun h => kf h p l e s m args below meth c H locs ls D ad dA a1 a2 a3 a4 a5 a6 a7 a8 a9 a10 a11)
theorem g_if_le {x : Int32} {off : Int} {tgt : Nat} (hd : decode M.2.1 pc = .ok (.ifCond .le off, 3)) (ht : (pc : Int) + off = (tgt : Int)) (hp : pc + 3 = pc2) (kt : x ≤ 0 → gG d M tgt lv st σ Q) (kf : ¬ x ≤ 0 → gG d M pc2 lv st σ Q) : gG d M pc lv (.int x :: st) σ Q := by
  subst hp
  intro p l e s m args below meth c H locs ls D ad dA a1 a2 a3 a4 a5 a6 a7 a8 a9 a10 a11
  exact lv_if_le a1 a2 hd ht (fun h => kt h p l e s m args below meth c H locs ls D ad dA a1 a2 a3 a4 a5 a6 a7 a8 a9 a10 a11) (fun h => kf h p l e s m args below meth c H locs ls D ad dA a1 a2 a3 a4 a5 a6 a7 a8 a9 a10 a11)
theorem g_icmp_le {x y : Int32} {off : Int} {tgt : Nat} (hd : decode M.2.1 pc = .ok (.if_icmp .le off, 3)) (ht : (pc : Int) + off = (tgt : Int)) (hp : pc + 3 = pc2) (kt : x ≤ y → gG d M tgt lv st σ Q) (kf : ¬ x ≤ y → gG d M pc2 lv st σ Q) : gG d M pc lv (.int y :: .int x :: st) σ Q := by
  subst hp
  intro p l e s m args below meth c H locs ls D ad dA a1 a2 a3 a4 a5 a6 a7 a8 a9 a10 a11
  exact lv_icmp_le a1 a2 hd ht (fun h => kt h p l e s m args below meth c H locs ls D ad dA a1 a2 a3 a4 a5 a6 a7 a8 a9 a10 a11) (fun h => kf h p l e s m args below meth c H locs ls D ad dA a1 a2 a3 a4 a5 a6 a7 a8 a9 a10 a11)
theorem g_goto {off : Int} {tgt : Nat} (hd : decode M.2.1 pc = .ok (.goto off, 3)) (ht : (pc : Int) + off = (tgt : Int)) (k : gG d M tgt lv st σ Q) : gG d M pc lv st σ Q := by
  intro p l e s m args below meth c H locs ls D ad dA a1 a2 a3 a4 a5 a6 a7 a8 a9 a10 a11
  exact lv_goto a1 a2 hd ht (k p l e s m args below meth c H locs ls D ad dA a1 a2 a3 a4 a5 a6 a7 a8 a9 a10 a11)
theorem g_tabOut {dflt lo hi : Int} {offs : Array Int} {len : Nat} {x : Int32} {tgt : Nat} (hd : decode M.2.1 pc = .ok (.tableswitch dflt lo hi offs, len)) (h : x.toInt < lo ∨ hi < x.toInt) (ht : (pc : Int) + dflt = (tgt : Int)) (k : gG d M tgt lv st σ Q) : gG d M pc lv (.int x :: st) σ Q := by
  intro p l e s m args below meth c H locs ls D ad dA a1 a2 a3 a4 a5 a6 a7 a8 a9 a10 a11
  exact lv_tableOut a1 a2 hd h ht (k p l e s m args below meth c H locs ls D ad dA a1 a2 a3 a4 a5 a6 a7 a8 a9 a10 a11)
theorem g_tabIn {dflt lo hi : Int} {offs : Array Int} {len : Nat} {x : Int32} {off : Int} {tgt : Nat} (hd : decode M.2.1 pc = .ok (.tableswitch dflt lo hi offs, len)) (h1 : ¬ x.toInt < lo) (h2 : ¬ hi < x.toInt) (ho : offs[(x.toInt - lo).toNat]? = some off) (ht : (pc : Int) + off = (tgt : Int)) (k : gG d M tgt lv st σ Q) : gG d M pc lv (.int x :: st) σ Q := by
  intro p l e s m args below meth c H locs ls D ad dA a1 a2 a3 a4 a5 a6 a7 a8 a9 a10 a11
  exact lv_tableIn a1 a2 hd h1 h2 ho ht (k p l e s m args below meth c H locs ls D ad dA a1 a2 a3 a4 a5 a6 a7 a8 a9 a10 a11)
/-- a field's link and place -/
def gw_fl (own : String) (idx ci j : Nat) : Prop := ∃ (C : String) (T : u_T) (N : Nat), vwCl[ci]? = some (C, T, N) ∧ j < N ∧ (∀ w ∈ u_ws C T N, w ∈ gw_tb) ∧ Cond.fieldLink own idx (T j).1 (T j).2.1 (T j).2.2.1 ∈ gw_tb
def gw_fp (own : String) (idx ci j : Nat) (ty : FieldType) : Prop := ∃ (C : String) (T : u_T) (N : Nat) (ty0 : Nat → FieldType), vwCl[ci]? = some (C, T, N) ∧ j < N ∧ (∀ w ∈ u_ws C T N, w ∈ gw_tb) ∧ Cond.fieldLink own idx (T j).1 (T j).2.1 (T j).2.2.1 ∈ gw_tb ∧ (T j).2.2.2 = false ∧ parseFieldDescriptor (T j).2.2.1 = some ty ∧ (∀ k, k < N → parseFieldDescriptor (T k).2.2.1 = some (ty0 k)) ∧ (∀ a, a < N → ∀ b, b < N → a ≠ b → (T a).2.1 ≠ (T b).2.1)
theorem g_geti {idx ci j k : Nat} {sl : List (Option Nat)} (hd : decode M.2.1 pc = .ok (.getfield idx, 3)) (hf : gw_fl M.1.cls idx ci j) (hk : gw_k k = some (.inr (.inr (ci, sl)))) (hs : sl[j]? = some none) (hp : pc + 3 = pc2) (kk : gG d M pc2 lv (.int (σ k j) :: st) σ Q) : gG d M pc lv (.ref k :: st) σ Q := by
  subst hp
  intro p l e s m args below meth c H locs ls D ad dA a1 a2 a3 a4 a5 a6 a7 a8 a9 a10 a11
  obtain ⟨C, T, N, h1, h2, h3, h4⟩ := hf
  obtain ⟨⟨tys, hK, hT⟩, hJ, hN⟩ := id a8
  exact va_get (v := .int (σ k j)) a1 a2 a6 h3 a5 hK a10 k (gw_wl_at hk) h1 j h2 (a6 _ h4) (fun _ h => h) (gw_ob_at hs) hd (kk p l e s m args below meth c H locs ls D ad dA a1 a2 a3 a4 a5 a6 a7 a8 a9 a10 a11)
theorem g_geta {idx ci j k k2 : Nat} {sl : List (Option Nat)} (hd : decode M.2.1 pc = .ok (.getfield idx, 3)) (hf : gw_fl M.1.cls idx ci j) (hk : gw_k k = some (.inr (.inr (ci, sl)))) (hs : sl[j]? = some (some k2)) (hp : pc + 3 = pc2) (kk : gG d M pc2 lv (.ref k2 :: st) σ Q) : gG d M pc lv (.ref k :: st) σ Q := by
  subst hp
  intro p l e s m args below meth c H locs ls D ad dA a1 a2 a3 a4 a5 a6 a7 a8 a9 a10 a11
  obtain ⟨C, T, N, h1, h2, h3, h4⟩ := hf
  obtain ⟨⟨tys, hK, hT⟩, hJ, hN⟩ := id a8
  exact va_get (v := .ref (ad k2)) a1 a2 a6 h3 a5 hK a10 k (gw_wl_at hk) h1 j h2 (a6 _ h4) (fun _ h => h) (gw_ob_at hs) hd (kk p l e s m args below meth c H locs ls D ad dA a1 a2 a3 a4 a5 a6 a7 a8 a9 a10 a11)
theorem gw_uk {σ : gw_S} {k j : Nat} {v : Int32} : gw_u σ k j v k = upd (σ k) j v := if_pos rfl
theorem gw_un {σ : gw_S} {k k2 j : Nat} {v : Int32} (h : k2 ≠ k) : gw_u σ k j v k2 = σ k2 := if_neg h
theorem g_put {idx ci j k : Nat} {sl : List (Option Nat)} {ty : FieldType} {x : Int32} (hd : decode M.2.1 pc = .ok (.putfield idx, 3)) (hf : gw_fp M.1.cls idx ci j ty) (hk : gw_k k = some (.inr (.inr (ci, sl)))) (hs : sl[j]? = some none) (hn : narrow ty (.int x) = .int x) (hfit : fits ty (.int x) = true) (hp : pc + 3 = pc2) (kk : gG d M pc2 lv st (gw_u σ k j x) Q) : gG d M pc lv (.int x :: .ref k :: st) σ Q := by
  subst hp
  intro p l e s m args below meth c H locs ls D ad dA a1 a2 a3 a4 a5 a6 a7 a8 a9 a10 a11
  obtain ⟨C, T, N, ty0, h1, h2, h3, h4, h5, h6, h7, h8⟩ := hf
  obtain ⟨⟨tys, hK, hT⟩, hJ, hN⟩ := id a8
  refine va_put (v := .int x) (ty := ty) a1 a2 a6 h3 ty0 h7 h8 a5 hK a10 (gw_D hJ) a11 k (gw_wl_at hk) h1 j h2 (a6 _ h4) (fun _ h => h) h5 h6 hn hfit (by rw [gw_ob_len]; exact (List.getElem?_eq_some_iff.mp hs).1) hd (fun H1 locs1 hP1 _ hS1 => ?_)
  rw [gw_wl_set (σ' := gw_u σ k j x) hk (by rw [gw_uk]; show Sum.inr (ci, gw_ob ad (upd (σ k) j x) sl) = _; rw [gw_ob_set hs]) (fun k2 h => gw_un h)] at hP1
  exact kk p l e s m args below meth c H1 locs1 ls D ad dA a1 a2 a3 a4 a5 a6 a7 a8 a9 hP1 hS1
theorem g_iald {k n : Nat} {i : Int32} (hd : decode M.2.1 pc = .ok (.iaload, 1)) (hk : gw_k k = some (.inl (.int, n))) (hi : vp_in i n) (hp : pc + 1 = pc2) (kk : gG d M pc2 lv (.int (σ k i.toNatClampNeg) :: st) σ Q) : gG d M pc lv (.int i :: .ref k :: st) σ Q := by
  subst hp
  intro p l e s m args below meth c H locs ls D ad dA a1 a2 a3 a4 a5 a6 a7 a8 a9 a10 a11
  obtain ⟨⟨tys, hK, hT⟩, hJ, hN⟩ := id a8
  obtain ⟨t0, ht⟩ := hT k _ hk
  exact va_iald a1 a2 hK a10 k t0 (gw_wl_at hk) ht hi hd (kk p l e s m args below meth c H locs ls D ad dA a1 a2 a3 a4 a5 a6 a7 a8 a9 a10 a11)
theorem g_zald {k n : Nat} {i : Int32} (hd : decode M.2.1 pc = .ok (.baload, 1)) (hk : gw_k k = some (.inl (.boolean, n))) (hi : vp_in i n) (hp : pc + 1 = pc2) (kk : gG d M pc2 lv (.int (σ k i.toNatClampNeg) :: st) σ Q) : gG d M pc lv (.int i :: .ref k :: st) σ Q := by
  subst hp
  intro p l e s m args below meth c H locs ls D ad dA a1 a2 a3 a4 a5 a6 a7 a8 a9 a10 a11
  obtain ⟨⟨tys, hK, hT⟩, hJ, hN⟩ := id a8
  obtain ⟨t0, ht⟩ := hT k _ hk
  exact va_zald a1 a2 hK a10 k t0 (gw_wl_at hk) ht hi hd (kk p l e s m args below meth c H locs ls D ad dA a1 a2 a3 a4 a5 a6 a7 a8 a9 a10 a11)
theorem g_iast {k n : Nat} {i x : Int32} (hd : decode M.2.1 pc = .ok (.iastore, 1)) (hk : gw_k k = some (.inl (.int, n))) (hi : vp_in i n) (hp : pc + 1 = pc2) (kk : gG d M pc2 lv st (gw_u σ k i.toNatClampNeg x) Q) : gG d M pc lv (.int x :: .int i :: .ref k :: st) σ Q := by
  subst hp
  intro p l e s m args below meth c H locs ls D ad dA a1 a2 a3 a4 a5 a6 a7 a8 a9 a10 a11
  obtain ⟨⟨tys, hK, hT⟩, hJ, hN⟩ := id a8
  obtain ⟨t0, ht⟩ := hT k _ hk
  refine va_iast a1 a2 hK a10 (gw_D hJ) a11 k t0 (gw_wl_at hk) ht hi hd (fun H1 locs1 hP1 _ hS1 => ?_)
  rw [gw_wl_set (σ' := gw_u σ k i.toNatClampNeg x) hk (by rw [gw_uk]; rfl) (fun k2 h => gw_un h)] at hP1
  exact kk p l e s m args below meth c H1 locs1 ls D ad dA a1 a2 a3 a4 a5 a6 a7 a8 a9 hP1 hS1
theorem g_zast {k n : Nat} {i x : Int32} (hd : decode M.2.1 pc = .ok (.bastore, 1)) (hk : gw_k k = some (.inl (.boolean, n))) (hi : vp_in i n) (hp : pc + 1 = pc2) (kk : gG d M pc2 lv st (gw_u σ k i.toNatClampNeg (vp_nar .boolean x)) Q) : gG d M pc lv (.int x :: .int i :: .ref k :: st) σ Q := by
  subst hp
  intro p l e s m args below meth c H locs ls D ad dA a1 a2 a3 a4 a5 a6 a7 a8 a9 a10 a11
  obtain ⟨⟨tys, hK, hT⟩, hJ, hN⟩ := id a8
  obtain ⟨t0, ht⟩ := hT k _ hk
  refine va_zast a1 a2 hK a10 (gw_D hJ) a11 k t0 (gw_wl_at hk) ht hi hd (fun H1 locs1 hP1 _ hS1 => ?_)
  rw [gw_wl_set (σ' := gw_u σ k i.toNatClampNeg (vp_nar .boolean x)) hk (by rw [gw_uk]; rfl) (fun k2 h => gw_un h)] at hP1
  exact kk p l e s m args below meth c H1 locs1 ls D ad dA a1 a2 a3 a4 a5 a6 a7 a8 a9 hP1 hS1
theorem g_aald {k k2 : Nat} {ty : FieldType} {ks : List Nat} {i : Int32} (hd : decode M.2.1 pc = .ok (.aaload, 1)) (hk : gw_k k = some (.inr (.inl (ty, ks)))) (hty : ty.isReference = true) (hi : vp_in i ks.length) (h2 : ks[i.toNatClampNeg]? = some k2) (hp : pc + 1 = pc2) (kk : gG d M pc2 lv (.ref k2 :: st) σ Q) : gG d M pc lv (.int i :: .ref k :: st) σ Q := by
  subst hp
  intro p l e s m args below meth c H locs ls D ad dA a1 a2 a3 a4 a5 a6 a7 a8 a9 a10 a11
  obtain ⟨⟨tys, hK, hT⟩, hJ, hN⟩ := id a8
  obtain ⟨t0, ht⟩ := hT k _ hk
  have hlt : i.toNatClampNeg < ks.length := Nat.not_le.mp fun q => hi (Or.inr q)
  have hc : H[ad k]? = some (vp_cell (dA k) (ks.length, .inr (.inr (.inr (.inr (fun i => (ks[i]?).map ad)))))) := a10 k _ (gw_wl_at hk)
  exact W.aald (v := .ref (ad k2)) (ty := ty) a1 a2 hc ((hK.2 t0 _ ht).1 ks.length (fun j => va_rf ((ks[j]?).map ad))) hty (fun q => by cases q) (by show ¬ (i < 0 ∨ (arrV _ _ _).slots.size ≤ _); rw [arrV_size]; exact hi) (by show (arrV _ _ _).slots[_]? = _; rw [arrV_read _ _ hlt]; simp [h2, va_rf]) rfl rfl hd (kk p l e s m args below meth c H locs ls D ad dA a1 a2 a3 a4 a5 a6 a7 a8 a9 a10 a11)
theorem g_alen {k n : Nat} {ty : FieldType} (hd : decode M.2.1 pc = .ok (.arraylength, 1)) (hk : gw_k k = some (.inl (ty, n))) (hp : pc + 1 = pc2) (kk : gG d M pc2 lv (.int (Int32.ofNat n) :: st) σ Q) : gG d M pc lv (.ref k :: st) σ Q := by
  subst hp
  intro p l e s m args below meth c H locs ls D ad dA a1 a2 a3 a4 a5 a6 a7 a8 a9 a10 a11
  obtain ⟨⟨tys, hK, hT⟩, hJ, hN⟩ := id a8
  obtain ⟨t0, ht⟩ := hT k _ hk
  exact va_alen a1 a2 hK a10 k t0 (gw_wl_at hk) ht rfl hd (kk p l e s m args below meth c H locs ls D ad dA a1 a2 a3 a4 a5 a6 a7 a8 a9 a10 a11)
theorem g_alenr {k : Nat} {ty : FieldType} {ks : List Nat} (hd : decode M.2.1 pc = .ok (.arraylength, 1)) (hk : gw_k k = some (.inr (.inl (ty, ks)))) (hp : pc + 1 = pc2) (kk : gG d M pc2 lv (.int (Int32.ofNat ks.length) :: st) σ Q) : gG d M pc lv (.ref k :: st) σ Q := by
  subst hp
  intro p l e s m args below meth c H locs ls D ad dA a1 a2 a3 a4 a5 a6 a7 a8 a9 a10 a11
  obtain ⟨⟨tys, hK, hT⟩, hJ, hN⟩ := id a8
  obtain ⟨t0, ht⟩ := hT k _ hk
  exact va_alen a1 a2 hK a10 k t0 (gw_wl_at hk) ht rfl hd (kk p l e s m args below meth c H locs ls D ad dA a1 a2 a3 a4 a5 a6 a7 a8 a9 a10 a11)
/-- one row copied into another -/
def gw_cp (σ : gw_S) (k0 k1 : Nat) (sp dp n : Nat) : gw_S := fun k => if k = k1 then va_cpy (σ k0) (σ k1) sp dp n else σ k
theorem g_copy {idx k0 k1 n0 n1 : Nat} {sp dp n : Int32} (hd : decode M.2.1 pc = .ok (.invokestatic idx, 3)) (hl : Cond.methodLink M.1.cls idx arraycopyName ∈ gw_tb) (hw : Cond.native arraycopyName ∈ gw_tb ∧ Cond.static arraycopyName ∈ gw_tb ∧ Cond.initialized "java/lang/System" ∈ gw_tb) (hk0 : gw_k k0 = some (.inl (.int, n0))) (hk1 : gw_k k1 = some (.inl (.int, n1)))
    (h1 : ¬ sp < 0) (h2 : ¬ dp < 0) (h3 : ¬ n < 0) (h4 : sp.toNatClampNeg + n.toNatClampNeg ≤ n0) (h5 : dp.toNatClampNeg + n.toNatClampNeg ≤ n1) (hdd : 1 ≤ d) (hr : (st.map fun v => v.category).sum ≤ 8) (hp : pc + 3 = pc2) (kk : gG d M pc2 lv st (gw_cp σ k0 k1 sp.toNatClampNeg dp.toNatClampNeg n.toNatClampNeg) Q) : gG d M pc lv (.int n :: .int dp :: .ref k1 :: .int sp :: .ref k0 :: st) σ Q := by
  subst hp
  intro p l e s m args below meth c H locs ls D ad dA a1 a2 a3 a4 a5 a6 a7 a8 a9 a10 a11
  obtain ⟨⟨tys, hK, hT⟩, hJ, hN⟩ := id a8
  obtain ⟨t0, ht0⟩ := hT k0 _ hk0
  obtain ⟨t1, ht1⟩ := hT k1 _ hk1
  have hrr : ((st.map (gw_v ad)).map fun v => v.category).sum = (st.map fun v => v.category).sum := by
    rw [List.map_map]
    congr 1
    apply List.map_congr_left
    intro v _
    exact gw_v_cat ad v
  refine va_copyi a1 a2 (a4.trans a9.1.symm) a5 (a6 _ hl) (a6 _ hw.1) (a6 _ hw.2.1) (a6 _ hw.2.2) hK a10 (gw_D hJ) a11 k0 k1 t0 t1 (gw_wl_at hk0) (gw_wl_at hk1) ht0 ht1 rfl h1 h2 h3 h4 h5 (fun _ _ => rfl) hdd (by rw [hrr]; show _ + 16 ≤ 44 * d; omega) hd (fun H1 locs1 hP1 _ hS1 => ?_)
  rw [gw_wl_set (σ' := gw_cp σ k0 k1 sp.toNatClampNeg dp.toNatClampNeg n.toNatClampNeg) hk1 (by unfold gw_cp; rw [if_pos rfl]; rfl) (fun k2 h => by unfold gw_cp; rw [if_neg h])] at hP1
  exact kk p l e s m args below meth c H1 locs1 ls D ad dA a1 a2 a3 a4 a5 a6 a7 a8 a9 hP1 hS1
theorem g_iret {v : Int32} (hd : decode M.2.1 pc = .ok (.ireturn, 1)) (hr : M.2.2.2 = some .int) (hq : Q (some (.int v)) σ) : gG d M pc lv [.int v] σ Q := by
  intro p l e s m args below meth c H locs ls D ad dA a1 a2 a3 a4 a5 a6 a7 a8 a9 a10 a11
  exact W.iret (v := v) a1 a2 (a3.trans hr) (fun t ht hW => ⟨⟨some (.int v), σ, rfl, hq, by rw [ht]; exact a10, a8.warm hW⟩, a11.F ht⟩) a11.2.2 hd a7
theorem g_zret {v : Int32} (hd : decode M.2.1 pc = .ok (.ireturn, 1)) (hr : M.2.2.2 = some .boolean) (hn : narrow .boolean (.int v) = .int v) (hq : Q (some (.int v)) σ) : gG d M pc lv [.int v] σ Q := by
  intro p l e s m args below meth c H locs ls D ad dA a1 a2 a3 a4 a5 a6 a7 a8 a9 a10 a11
  exact W.zret (v := v) (ty := .boolean) a1 a2 (a3.trans hr) hn (fun t ht hW => ⟨⟨some (.int v), σ, rfl, hq, by rw [ht]; exact a10, a8.warm hW⟩, a11.F ht⟩) a11.2.2 hd a7
theorem g_lret {v : Int64} (hd : decode M.2.1 pc = .ok (.lreturn, 1)) (hr : M.2.2.2 = some .long) (hq : Q (some (.long v)) σ) : gG d M pc lv [.long v] σ Q := by
  intro p l e s m args below meth c H locs ls D ad dA a1 a2 a3 a4 a5 a6 a7 a8 a9 a10 a11
  exact W.lret (v := v) a1 a2 (a3.trans hr) (fun t ht hW => ⟨⟨some (.long v), σ, rfl, hq, by rw [ht]; exact a10, a8.warm hW⟩, a11.F ht⟩) a11.2.2 hd a7
theorem g_vret (hd : decode M.2.1 pc = .ok (.return_, 1)) (hr : M.2.2.2 = none) (hq : Q none σ) : gG d M pc lv [] σ Q := by
  intro p l e s m args below meth c H locs ls D ad dA a1 a2 a3 a4 a5 a6 a7 a8 a9 a10 a11
  exact W.vret a1 a2 (a3.trans hr) (fun t ht hW => ⟨⟨none, σ, rfl, hq, by rw [ht]; exact a10, a8.warm hW⟩, a11.F ht⟩) a11.2.2 hd a7
theorem g_aret {k : Nat} {C : String} (hd : decode M.2.1 pc = .ok (.areturn, 1)) (hr : M.2.2.2 = some (.object C)) (hq : Q (some (.ref k)) σ) : gG d M pc lv [.ref k] σ Q := by
  intro p l e s m args below meth c H locs ls D ad dA a1 a2 a3 a4 a5 a6 a7 a8 a9 a10 a11
  exact W.aret (v := .ref (ad k)) a1 a2 (a3.trans hr) (Or.inl ⟨_, rfl⟩) (Or.inr ⟨_, rfl⟩) (fun t ht hW => ⟨⟨some (.ref k), σ, rfl, hq, by rw [ht]; exact a10, a8.warm hW⟩, a11.F ht⟩) a11.2.2 hd a7
/-- what the tables say of a method that is called -/
def gw_mo (M2 : gw_M) (n : Nat) : Prop := Cond.code M2.1 M2.2.1 M2.2.2.1 M2.2.2.2 ∈ gw_tb ∧ Cond.initialized M2.1.cls ∈ gw_tb ∧ (M2.1.cls ≠ "java/lang/invoke/MethodHandle" ∧ M2.1.cls ≠ "java/lang/invoke/VarHandle" ∧ (parseMethodDescriptor M2.1.desc).map (fun d => d.parameters.length) = some n) ∧ M2.2.2.1 ≤ 25
def gw_mv (M2 : gw_M) (n : Nat) : Prop := gw_mo M2 n ∧ Cond.instanceMethod M2.1 ∈ gw_tb ∧ Cond.selects M2.1.cls M2.1 M2.1 ∈ gw_tb
def gw_ms (M2 : gw_M) (n : Nat) : Prop := gw_mo M2 n ∧ Cond.static M2.1 ∈ gw_tb
theorem gw_blind {av : List Value} {D : va_G} {ad : Nat → Nat} {dA : Nat → ClassId} : FrameBlind (va_Pc av (gw_W D ad dA σ)) := fun a U g mk q => ⟨q.1, q.2.1, q.2.2.same rfl⟩
theorem gw_rest {ad : Nat → Nat} (hr : (st.map fun v => v.category).sum ≤ 8) : ((st.map (gw_v ad)).map fun v => v.category).sum ≤ 8 := by
  have hrr : ((st.map (gw_v ad)).map fun v => v.category).sum = (st.map fun v => v.category).sum := by
    rw [List.map_map]
    congr 1
    apply List.map_congr_left
    intro v _
    exact gw_v_cat ad v
  rw [hrr]
  exact hr
/-- behind a call -/
theorem gw_after {p : Program} {l : Launch} {e : Env} {s : State} {m : MethodId} {args : Array Value} {below : List Frame} {meth : Method} {c : Code} {H : Heap} {locs : List Loc} {ls : Array Slot} {D : va_G} {ad : Nat → Nat} {dA : Nat → ClassId} {st0 : List Value} {a : Array Value} {Q2 : Option Value → gw_S → Prop}
    (hrun : va_Run p l e (gw_R d) s m args below meth c H locs 0 0 0 0 (F0 m pc ls st0) (st.map (gw_v ad)) (gw_Q D ad dA Q2 a) (gw_A ad))
    (hk : ∀ v σ2, Q2 v σ2 → gG d M (pc + 3) lv (v.toList ++ st) σ2 Q)
    (a1 : p.tables.exec = Jvm.exec) (a2 : c.code = M.2.1) (a3 : meth.sig.returnType = M.2.2.2) (a4 : c.maxLocals = M.2.2.1) (a5 : s.vm.findClass M.1.cls = some m.cls) (a6 : ∀ w ∈ gw_tb, w.before args s = true) (a7 : meth.locks = false) (a8 : gw_F D ad dA s) (a9 : lv_has ls M.2.2.1 (gw_l ad lv)) (a11 : va_S (gw_A ad) s.heap H locs) :
    W p l e (gw_R d) s m args below meth c H locs 0 0 (MQ below (gw_Q D ad dA Q) args s 0 0 (gw_A ad)) (F0 m pc ls st0) := by
  intro T hT X
  obtain ⟨v, st₀, t, T', L, h0, X', hL, e1, e2, ⟨⟨v', σ', hv, hq, hPt, hFt⟩, hz, hk1⟩, stp⟩ := hrun T hT X
  rw [h0] at hz hk1
  have hv' : v = v'.map (gw_v ad) := by
    have := hv
    injection this
  subst hv'
  obtain ⟨t2, b1, b2⟩ := hk v' σ' hq p l e s m args below meth c T'.heap (locs ++ L) ls D ad dA a1 a2 a3 a4 a5 a6 a7 a8 a9 (by rw [e1]; exact hPt)
    ⟨Nat.le_trans a11.1 (by rw [e1]; exact hz), fun q h1 h2 => by rw [e1, hk1 q (Nat.lt_of_lt_of_le h1 a11.1) h2]; exact a11.2.1 q h1 h2, fun q hq => by
      rcases List.mem_append.mp hq with h | h
      · exact a11.2.2 q h
      · exact hL q h⟩ T' rfl X'
  refine ⟨t2, stp t2 ?_, b2⟩
  have he : (v'.toList ++ st).map (gw_v ad) = (v'.map (gw_v ad)).toList ++ st.map (gw_v ad) := by cases v' <;> simp
  rw [he] at b1
  exact b1
theorem g_callV {d2 n idx k ci : Nat} {M2 : gw_M} {sl : List (Option Nat)} {as : List Value} {st0 : List Value} (hd : decode M.2.1 pc = .ok (.invokevirtual idx, 3)) (hl : Cond.methodLink M.1.cls idx M2.1 ∈ gw_tb) (ho : gw_mv M2 n) (hk : gw_k k = some (.inr (.inr (ci, sl)))) (hc : (vwCl[ci]?).map (fun q => q.1) = some M2.1.cls) (hn : as.length = n) (hst : st0 = as.reverse ++ .ref k :: st) (hr : (st.map fun v => v.category).sum ≤ 8) (hdd : d2 + 1 ≤ d) (hp : pc + 3 = pc2)
    (kk : gB d2 M2 (.ref k :: as) σ (fun v σ2 => gG d M pc2 lv (v.toList ++ st) σ2 Q)) : gG d M pc lv st0 σ Q := by
  subst hp
  subst hst
  intro p l e s m args below meth c H locs ls D ad dA a1 a2 a3 a4 a5 a6 a7 a8 a9 a10 a11
  obtain ⟨⟨tys, hK, hT⟩, hJ, hN⟩ := id a8
  obtain ⟨⟨o1, o2, o3, o4⟩, o5, o6⟩ := ho
  obtain ⟨r, hr1, hr2⟩ : ∃ r, vwCl[ci]? = some r ∧ r.1 = M2.1.cls := by
    cases hx : vwCl[ci]? with
    | none => rw [hx] at hc; cases hc
    | some r => rw [hx] at hc; exact ⟨r, rfl, Option.some.inj hc⟩
  have hrecv := va_recv (q := r) hK a10 hr1 (gw_wl_at hk)
  rw [hr2] at hrecv
  refine gw_after (a := (Value.ref (ad k) :: as.map (gw_v ad)).toArray) (st := st) (lv := lv) (va_runV (C := M2.1.cls) (b := ad k) (As := as.map (gw_v ad)) (n := n) ⟨a1, a2, a4, a5, a6⟩ (kk l D ad dA) ⟨callB_of n a6 (gw_goodT o1) rfl rfl rfl (a6 _ o2) (a6 _ hl) o3 ⟨hdd, by show 8 + (M2.2.2.1 + 11) + 44 * d2 ≤ 44 * d; omega⟩, a6 _ o5, a6 _ o6⟩ ⟨gw_blind, hrecv, fun U hU hW => ⟨rfl, by rw [hU]; exact a10, a8.warm hW⟩⟩ rfl (by simpa using hn) a9.1 (by simp [gw_v]) (lv_room (gw_rest hr)) hd ⟨Nat.le_refl 0, Nat.le_refl 0⟩) (fun v σ2 h => h) a1 a2 a3 a4 a5 a6 a7 a8 a9 a11
theorem g_callS {d2 n idx : Nat} {M2 : gw_M} {as : List Value} {st0 : List Value} (hd : decode M.2.1 pc = .ok (.invokestatic idx, 3)) (hl : Cond.methodLink M.1.cls idx M2.1 ∈ gw_tb) (ho : gw_ms M2 n) (hn : as.length = n) (hst : st0 = as.reverse ++ st) (hr : (st.map fun v => v.category).sum ≤ 8) (hdd : d2 + 1 ≤ d) (hp : pc + 3 = pc2)
    (kk : gB d2 M2 as σ (fun v σ2 => gG d M pc2 lv (v.toList ++ st) σ2 Q)) : gG d M pc lv st0 σ Q := by
  subst hp
  subst hst
  intro p l e s m args below meth c H locs ls D ad dA a1 a2 a3 a4 a5 a6 a7 a8 a9 a10 a11
  obtain ⟨⟨o1, o2, o3, o4⟩, o5⟩ := ho
  refine gw_after (a := (as.map (gw_v ad)).toArray) (st := st) (lv := lv) (va_runS (As := as.map (gw_v ad)) (n := n) ⟨a1, a2, a4, a5, a6⟩ (kk l D ad dA) ⟨callB_of n a6 (gw_goodT o1) rfl rfl rfl (a6 _ o2) (a6 _ hl) o3 ⟨hdd, by show 8 + (M2.2.2.1 + 11) + 44 * d2 ≤ 44 * d; omega⟩, a6 _ o5⟩ ⟨gw_blind, fun U hU hW => ⟨rfl, by rw [hU]; exact a10, a8.warm hW⟩⟩ rfl (by simpa using hn) a9.1 (by simp) (lv_room (gw_rest hr)) hd ⟨Nat.le_refl 0, Nat.le_refl 0⟩) (fun v σ2 h => h) a1 a2 a3 a4 a5 a6 a7 a8 a9 a11
theorem g_callN {d2 n idx : Nat} {M2 : gw_M} {as : List Value} {st0 : List Value} (hd : decode M.2.1 pc = .ok (.invokestatic idx, 3)) (hl : Cond.methodLinkNest M.1.cls idx M2.1 "BreathSold" = gw_n1 ∨ Cond.methodLinkNest M.1.cls idx M2.1 "BreathSold" = gw_n3) (ho : gw_ms M2 n) (hn : as.length = n) (hst : st0 = as.reverse ++ st) (hr : (st.map fun v => v.category).sum ≤ 8) (hdd : d2 + 1 ≤ d) (hp : pc + 3 = pc2)
    (kk : gB d2 M2 as σ (fun v σ2 => gG d M pc2 lv (v.toList ++ st) σ2 Q)) : gG d M pc lv st0 σ Q := by
  subst hp
  subst hst
  intro p l e s m args below meth c H locs ls D ad dA a1 a2 a3 a4 a5 a6 a7 a8 a9 a10 a11
  obtain ⟨-, -, hn1, hn3⟩ := id a8
  have hnw : va_Nw (.methodLinkNest M.1.cls idx M2.1 "BreathSold") s := by
    rcases hl with h | h
    · rw [h]; exact hn1
    · rw [h]; exact hn3
  obtain ⟨⟨o1, o2, o3, o4⟩, o5⟩ := ho
  refine gw_after (a := (as.map (gw_v ad)).toArray) (st := st) (lv := lv) (va_runSN (As := as.map (gw_v ad)) (n := n) ⟨a1, a2, a4, a5, a6⟩ (kk l D ad dA) ⟨va_cnB n a6 (gw_goodT o1) rfl rfl rfl hnw (a6 _ o2) o3 ⟨hdd, by show 8 + (M2.2.2.1 + 11) + 44 * d2 ≤ 44 * d; omega⟩, a6 _ o5, trivial⟩ ⟨gw_blind, fun U hU hW => ⟨rfl, by rw [hU]; exact a10, a8.warm hW⟩⟩ rfl (by simpa using hn) a9.1 (by simp) (lv_room (gw_rest hr)) hd ⟨Nat.le_refl 0, Nat.le_refl 0⟩) (fun v σ2 h => h) a1 a2 a3 a4 a5 a6 a7 a8 a9 a11
end GR
