/-! the world behind both constructors -/
def ofs (k : Nat) : Nat := if k = 0 then 0 else if k = 1 then 139 else if k < 34 then k - 1 else if k < 36 then k + 15 else if k < 52 then k - 3 else if k < 140 then k - 1 else k
def adN (n : Nat) : Nat → Nat := fun k => n + ofs k
def dAI (I : cId) (k : Nat) : ClassId := if k = 27 then I.2.2.2 else if k = 34 then I.2.2.1 else if k = 158 then I.2.1 else if k = 159 then I.2.1 else if k = 160 then I.2.1 else if k = 168 then I.2.1 else I.1
def sS : Nat → Int32 := fun j => if j = 12 then -1 else 0
def zF : Nat → Int32 := fun _ => 0
def s0L : List (Nat → Int32) := [(fun j => if j = 10 then 1 else if j = 11 then -1 else if j = 12 then -1 else 0), (fun j => if j = 9 then 60 else 0), (fun j => if j = 1 then 47 else 0), zF, (fun j => if j = 1 then 8 else 0), zF, (fun j => if j = 4 then 60 else 0), zF, zF, zF, zF, zF, zF, zF, zF, zF, zF, (fun j => if j = 5 then -1 else 0), zF, zF, zF, zF, zF, zF, zF, zF, zF, zF, zF, zF, zF, zF, (fiF (fun _ => 0) (-1) 4), zF, zF, zF, sS, zF, zF, zF, zF, zF, zF, zF, sS, zF, zF, zF, zF, zF, zF, zF, sS, zF, zF, zF, zF, zF, zF, zF, sS, zF, zF, zF, zF, zF, zF, zF, sS, zF, zF, zF, zF, zF, zF, zF, sS, zF, zF, zF, zF, zF, zF, zF, sS, zF, zF, zF, zF, zF, zF, zF, sS, zF, zF, zF, zF, zF, zF, zF, sS, zF, zF, zF, zF, zF, zF, zF, sS, zF, zF, zF, zF, zF, zF, zF, sS, zF, zF, zF, zF, zF, zF, zF, sS, zF, zF, zF, zF, zF, zF, zF, sS, zF, zF, zF, zF, zF, zF, zF, zF, zF, zF, zF, zF, zF, zF, zF, zF, zF, zF, zF, zF, zF, zF, zF, zF, zF, zF, zF, zF, zF, zF, zF, zF, zF, zF, zF, zF, zF, zF, zF, zF]
def s0 : gw_S := fun k => s0L[k]?.getD zF
def w2 (n : Nat) (I : cId) : va_W := wX8 n I ++ wX9 (n + 139) I
def pj (n : Nat) (I : cId) (j : Nat) : Prop := (w2 n I)[ofs j]? = some (adN n j, gw_e (adN n) (dAI I) (s0 j) j ((gw_k j).getD (.inl (.int, 0))))
def pt (I : cId) (j : Nat) : Prop := ∀ q, gw_k j = some q → gw_T (dAI I) (cTy I) j q
theorem ix_r {A B : va_W} {k j : Nat} (h : A.length = k) : (A ++ B)[k + j]? = B[j]? := by
  subst h
  rw [List.getElem?_append_right (Nat.le_add_right _ _), Nat.add_sub_cancel_left]
theorem sts_at {n : Nat} {I : cId} : ∀ m i j, i < m → j < 8 → (sts n I m)[8 * i + j]? = (wX3 (n + (51 + 8 * i)) I)[j]?
  | 0, _, _, h, _ => by omega
  | m + 1, i, j, h, hj => by
    show (sts n I m ++ wX3 (n + (51 + 8 * m)) I)[8 * i + j]? = _
    by_cases c : i < m
    · rw [List.getElem?_append_left (by rw [sts_len]; omega)]
      exact sts_at m i j c hj
    · have : i = m := by omega
      subst this
      exact ix_r (sts_len i)
theorem w2_a {n j : Nat} {I : cId} (h : j < 49) : (w2 n I)[j]? = (pX8 n I)[j]? := by
  unfold w2 wX8
  rw [List.getElem?_append_left (by rw [vX8_len]; omega)]
  unfold vX8
  rw [List.getElem?_append_left (by rw [pX8_len]; omega)]
theorem w2_b {n j : Nat} {I : cId} (h : j < 90) : (w2 n I)[49 + j]? = ((n + 49, .inl (I.2.2.1, 11, .inr (.inr (.inr (.inr (fH n 11)))))) :: (n + 50, .inl (I.1, 128, .inl (fun _ => 0))) :: sts n I 11 : va_W)[j]? := by
  unfold w2 wX8
  rw [List.getElem?_append_left (by rw [vX8_len]; omega)]
  unfold vX8
  exact ix_r pX8_len
theorem w2_c {n i j : Nat} {I : cId} (hi : i < 11) (hj : j < 8) : (w2 n I)[49 + (8 * i + j + 1 + 1)]? = (wX3 (n + (51 + 8 * i)) I)[j]? := by
  rw [w2_b (by omega), List.getElem?_cons_succ, List.getElem?_cons_succ]
  exact sts_at 11 i j hi hj
theorem w2_d {n j : Nat} {I : cId} : (w2 n I)[139 + j]? = (wX9 (n + 139) I)[j]? := by
  unfold w2 wX8
  exact ix_r vX8_len
set_option maxRecDepth 20000 in
theorem ps_0 {n : Nat} {I : cId} : (pX8 n I)[0]? = some (adN n 0, gw_e (adN n) (dAI I) (s0 0) 0 (.inr (.inr (8, [some 2, some 4, some 6, some 17, some 22, some 26, some 36, some 44, some 34, some 35, none, none, none, none])))) := rfl
theorem pj_0 {n : Nat} {I : cId} : pj n I 0 := by
  unfold pj
  rw [gk_0]
  exact (w2_a (j := 0) (by decide)).trans ps_0
theorem pt_0 {I : cId} : pt I 0 := fun q h => by
  rw [gk_0] at h
  cases h
  exact trivial
set_option maxRecDepth 20000 in
theorem ps_1 {n : Nat} {I : cId} : (wX9 (n + 139) I)[0]? = some (adN n 1, gw_e (adN n) (dAI I) (s0 1) 1 (.inr (.inr (9, [some 140, some 141, none, some 142, some 143, some 144, some 145, none, some 146, none, none, some 147, none, some 148, some 149, some 150, some 151, none, some 152, none, some 153, some 154, some 155, some 156, some 157, some 158, some 159, some 160, some 161, some 162, none, none, none, none, none, some 163, none, some 164, some 165, some 166, some 167, some 168, some 169, some 170, some 171, some 172, none])))) := rfl
theorem pj_1 {n : Nat} {I : cId} : pj n I 1 := by
  unfold pj
  rw [gk_1]
  exact (w2_d (j := 0)).trans ps_1
theorem pt_1 {I : cId} : pt I 1 := fun q h => by
  rw [gk_1] at h
  cases h
  exact trivial
set_option maxRecDepth 20000 in
theorem ps_2 {n : Nat} {I : cId} : (pX8 n I)[1]? = some (adN n 2, gw_e (adN n) (dAI I) (s0 2) 2 (.inr (.inr (5, [some 3, none, none])))) := rfl
theorem pj_2 {n : Nat} {I : cId} : pj n I 2 := by
  unfold pj
  rw [gk_2]
  exact (w2_a (j := 1) (by decide)).trans ps_2
theorem pt_2 {I : cId} : pt I 2 := fun q h => by
  rw [gk_2] at h
  cases h
  exact trivial
set_option maxRecDepth 20000 in
theorem ps_3 {n : Nat} {I : cId} : (pX8 n I)[2]? = some (adN n 3, gw_e (adN n) (dAI I) (s0 3) 3 (.inl (.int, 47))) := rfl
theorem pj_3 {n : Nat} {I : cId} : pj n I 3 := by
  unfold pj
  rw [gk_3]
  exact (w2_a (j := 2) (by decide)).trans ps_3
theorem pt_3 {I : cId} : pt I 3 := fun q h => by
  rw [gk_3] at h
  cases h
  exact ⟨0, rfl⟩
set_option maxRecDepth 20000 in
theorem ps_4 {n : Nat} {I : cId} : (pX8 n I)[3]? = some (adN n 4, gw_e (adN n) (dAI I) (s0 4) 4 (.inr (.inr (5, [some 5, none, none])))) := rfl
theorem pj_4 {n : Nat} {I : cId} : pj n I 4 := by
  unfold pj
  rw [gk_4]
  exact (w2_a (j := 3) (by decide)).trans ps_4
theorem pt_4 {I : cId} : pt I 4 := fun q h => by
  rw [gk_4] at h
  cases h
  exact trivial
set_option maxRecDepth 20000 in
theorem ps_5 {n : Nat} {I : cId} : (pX8 n I)[4]? = some (adN n 5, gw_e (adN n) (dAI I) (s0 5) 5 (.inl (.int, 47))) := rfl
theorem pj_5 {n : Nat} {I : cId} : pj n I 5 := by
  unfold pj
  rw [gk_5]
  exact (w2_a (j := 4) (by decide)).trans ps_5
theorem pt_5 {I : cId} : pt I 5 := fun q h => by
  rw [gk_5] at h
  cases h
  exact ⟨0, rfl⟩
set_option maxRecDepth 20000 in
theorem ps_6 {n : Nat} {I : cId} : (pX8 n I)[5]? = some (adN n 6, gw_e (adN n) (dAI I) (s0 6) 6 (.inr (.inr (6, [some 7, some 11, some 16, none, none])))) := rfl
theorem pj_6 {n : Nat} {I : cId} : pj n I 6 := by
  unfold pj
  rw [gk_6]
  exact (w2_a (j := 5) (by decide)).trans ps_6
theorem pt_6 {I : cId} : pt I 6 := fun q h => by
  rw [gk_6] at h
  cases h
  exact trivial
set_option maxRecDepth 20000 in
theorem ps_7 {n : Nat} {I : cId} : (pX8 n I)[6]? = some (adN n 7, gw_e (adN n) (dAI I) (s0 7) 7 (.inr (.inr (4, [some 8, some 9, some 10, none, none])))) := rfl
theorem pj_7 {n : Nat} {I : cId} : pj n I 7 := by
  unfold pj
  rw [gk_7]
  exact (w2_a (j := 6) (by decide)).trans ps_7
theorem pt_7 {I : cId} : pt I 7 := fun q h => by
  rw [gk_7] at h
  cases h
  exact trivial
set_option maxRecDepth 20000 in
theorem ps_8 {n : Nat} {I : cId} : (pX8 n I)[7]? = some (adN n 8, gw_e (adN n) (dAI I) (s0 8) 8 (.inl (.int, 8))) := rfl
theorem pj_8 {n : Nat} {I : cId} : pj n I 8 := by
  unfold pj
  rw [gk_8]
  exact (w2_a (j := 7) (by decide)).trans ps_8
theorem pt_8 {I : cId} : pt I 8 := fun q h => by
  rw [gk_8] at h
  cases h
  exact ⟨0, rfl⟩
set_option maxRecDepth 20000 in
theorem ps_9 {n : Nat} {I : cId} : (pX8 n I)[8]? = some (adN n 9, gw_e (adN n) (dAI I) (s0 9) 9 (.inl (.int, 8))) := rfl
theorem pj_9 {n : Nat} {I : cId} : pj n I 9 := by
  unfold pj
  rw [gk_9]
  exact (w2_a (j := 8) (by decide)).trans ps_9
theorem pt_9 {I : cId} : pt I 9 := fun q h => by
  rw [gk_9] at h
  cases h
  exact ⟨0, rfl⟩
set_option maxRecDepth 20000 in
theorem ps_10 {n : Nat} {I : cId} : (pX8 n I)[9]? = some (adN n 10, gw_e (adN n) (dAI I) (s0 10) 10 (.inl (.int, 8))) := rfl
theorem pj_10 {n : Nat} {I : cId} : pj n I 10 := by
  unfold pj
  rw [gk_10]
  exact (w2_a (j := 9) (by decide)).trans ps_10
theorem pt_10 {I : cId} : pt I 10 := fun q h => by
  rw [gk_10] at h
  cases h
  exact ⟨0, rfl⟩
set_option maxRecDepth 20000 in
theorem ps_11 {n : Nat} {I : cId} : (pX8 n I)[10]? = some (adN n 11, gw_e (adN n) (dAI I) (s0 11) 11 (.inr (.inr (0, [some 12, some 13, some 14, some 15, none])))) := rfl
theorem pj_11 {n : Nat} {I : cId} : pj n I 11 := by
  unfold pj
  rw [gk_11]
  exact (w2_a (j := 10) (by decide)).trans ps_11
theorem pt_11 {I : cId} : pt I 11 := fun q h => by
  rw [gk_11] at h
  cases h
  exact trivial
set_option maxRecDepth 20000 in
theorem ps_12 {n : Nat} {I : cId} : (pX8 n I)[11]? = some (adN n 12, gw_e (adN n) (dAI I) (s0 12) 12 (.inl (.int, 16))) := rfl
theorem pj_12 {n : Nat} {I : cId} : pj n I 12 := by
  unfold pj
  rw [gk_12]
  exact (w2_a (j := 11) (by decide)).trans ps_12
theorem pt_12 {I : cId} : pt I 12 := fun q h => by
  rw [gk_12] at h
  cases h
  exact ⟨0, rfl⟩
set_option maxRecDepth 20000 in
theorem ps_13 {n : Nat} {I : cId} : (pX8 n I)[12]? = some (adN n 13, gw_e (adN n) (dAI I) (s0 13) 13 (.inl (.int, 16))) := rfl
theorem pj_13 {n : Nat} {I : cId} : pj n I 13 := by
  unfold pj
  rw [gk_13]
  exact (w2_a (j := 12) (by decide)).trans ps_13
theorem pt_13 {I : cId} : pt I 13 := fun q h => by
  rw [gk_13] at h
  cases h
  exact ⟨0, rfl⟩
set_option maxRecDepth 20000 in
theorem ps_14 {n : Nat} {I : cId} : (pX8 n I)[13]? = some (adN n 14, gw_e (adN n) (dAI I) (s0 14) 14 (.inl (.int, 16))) := rfl
theorem pj_14 {n : Nat} {I : cId} : pj n I 14 := by
  unfold pj
  rw [gk_14]
  exact (w2_a (j := 13) (by decide)).trans ps_14
theorem pt_14 {I : cId} : pt I 14 := fun q h => by
  rw [gk_14] at h
  cases h
  exact ⟨0, rfl⟩
set_option maxRecDepth 20000 in
theorem ps_15 {n : Nat} {I : cId} : (pX8 n I)[14]? = some (adN n 15, gw_e (adN n) (dAI I) (s0 15) 15 (.inl (.int, 16))) := rfl
theorem pj_15 {n : Nat} {I : cId} : pj n I 15 := by
  unfold pj
  rw [gk_15]
  exact (w2_a (j := 14) (by decide)).trans ps_15
theorem pt_15 {I : cId} : pt I 15 := fun q h => by
  rw [gk_15] at h
  cases h
  exact ⟨0, rfl⟩
set_option maxRecDepth 20000 in
theorem ps_16 {n : Nat} {I : cId} : (pX8 n I)[15]? = some (adN n 16, gw_e (adN n) (dAI I) (s0 16) 16 (.inl (.int, 8))) := rfl
theorem pj_16 {n : Nat} {I : cId} : pj n I 16 := by
  unfold pj
  rw [gk_16]
  exact (w2_a (j := 15) (by decide)).trans ps_16
theorem pt_16 {I : cId} : pt I 16 := fun q h => by
  rw [gk_16] at h
  cases h
  exact ⟨0, rfl⟩
set_option maxRecDepth 20000 in
theorem ps_17 {n : Nat} {I : cId} : (pX8 n I)[16]? = some (adN n 17, gw_e (adN n) (dAI I) (s0 17) 17 (.inr (.inr (2, [some 18, some 19, some 20, some 21, none, none])))) := rfl
theorem pj_17 {n : Nat} {I : cId} : pj n I 17 := by
  unfold pj
  rw [gk_17]
  exact (w2_a (j := 16) (by decide)).trans ps_17
theorem pt_17 {I : cId} : pt I 17 := fun q h => by
  rw [gk_17] at h
  cases h
  exact trivial
set_option maxRecDepth 20000 in
theorem ps_18 {n : Nat} {I : cId} : (pX8 n I)[17]? = some (adN n 18, gw_e (adN n) (dAI I) (s0 18) 18 (.inl (.int, 8))) := rfl
theorem pj_18 {n : Nat} {I : cId} : pj n I 18 := by
  unfold pj
  rw [gk_18]
  exact (w2_a (j := 17) (by decide)).trans ps_18
theorem pt_18 {I : cId} : pt I 18 := fun q h => by
  rw [gk_18] at h
  cases h
  exact ⟨0, rfl⟩
set_option maxRecDepth 20000 in
theorem ps_19 {n : Nat} {I : cId} : (pX8 n I)[18]? = some (adN n 19, gw_e (adN n) (dAI I) (s0 19) 19 (.inl (.int, 8))) := rfl
theorem pj_19 {n : Nat} {I : cId} : pj n I 19 := by
  unfold pj
  rw [gk_19]
  exact (w2_a (j := 18) (by decide)).trans ps_19
theorem pt_19 {I : cId} : pt I 19 := fun q h => by
  rw [gk_19] at h
  cases h
  exact ⟨0, rfl⟩
set_option maxRecDepth 20000 in
theorem ps_20 {n : Nat} {I : cId} : (pX8 n I)[19]? = some (adN n 20, gw_e (adN n) (dAI I) (s0 20) 20 (.inl (.int, 64))) := rfl
theorem pj_20 {n : Nat} {I : cId} : pj n I 20 := by
  unfold pj
  rw [gk_20]
  exact (w2_a (j := 19) (by decide)).trans ps_20
theorem pt_20 {I : cId} : pt I 20 := fun q h => by
  rw [gk_20] at h
  cases h
  exact ⟨0, rfl⟩
set_option maxRecDepth 20000 in
theorem ps_21 {n : Nat} {I : cId} : (pX8 n I)[20]? = some (adN n 21, gw_e (adN n) (dAI I) (s0 21) 21 (.inl (.int, 256))) := rfl
theorem pj_21 {n : Nat} {I : cId} : pj n I 21 := by
  unfold pj
  rw [gk_21]
  exact (w2_a (j := 20) (by decide)).trans ps_21
theorem pt_21 {I : cId} : pt I 21 := fun q h => by
  rw [gk_21] at h
  cases h
  exact ⟨0, rfl⟩
set_option maxRecDepth 20000 in
theorem ps_22 {n : Nat} {I : cId} : (pX8 n I)[21]? = some (adN n 22, gw_e (adN n) (dAI I) (s0 22) 22 (.inr (.inr (7, [some 23, some 24, some 25, none])))) := rfl
theorem pj_22 {n : Nat} {I : cId} : pj n I 22 := by
  unfold pj
  rw [gk_22]
  exact (w2_a (j := 21) (by decide)).trans ps_22
theorem pt_22 {I : cId} : pt I 22 := fun q h => by
  rw [gk_22] at h
  cases h
  exact trivial
set_option maxRecDepth 20000 in
theorem ps_23 {n : Nat} {I : cId} : (pX8 n I)[22]? = some (adN n 23, gw_e (adN n) (dAI I) (s0 23) 23 (.inl (.int, 8))) := rfl
theorem pj_23 {n : Nat} {I : cId} : pj n I 23 := by
  unfold pj
  rw [gk_23]
  exact (w2_a (j := 22) (by decide)).trans ps_23
theorem pt_23 {I : cId} : pt I 23 := fun q h => by
  rw [gk_23] at h
  cases h
  exact ⟨0, rfl⟩
set_option maxRecDepth 20000 in
theorem ps_24 {n : Nat} {I : cId} : (pX8 n I)[23]? = some (adN n 24, gw_e (adN n) (dAI I) (s0 24) 24 (.inl (.int, 8))) := rfl
theorem pj_24 {n : Nat} {I : cId} : pj n I 24 := by
  unfold pj
  rw [gk_24]
  exact (w2_a (j := 23) (by decide)).trans ps_24
theorem pt_24 {I : cId} : pt I 24 := fun q h => by
  rw [gk_24] at h
  cases h
  exact ⟨0, rfl⟩
set_option maxRecDepth 20000 in
theorem ps_25 {n : Nat} {I : cId} : (pX8 n I)[24]? = some (adN n 25, gw_e (adN n) (dAI I) (s0 25) 25 (.inl (.int, 8))) := rfl
theorem pj_25 {n : Nat} {I : cId} : pj n I 25 := by
  unfold pj
  rw [gk_25]
  exact (w2_a (j := 24) (by decide)).trans ps_25
theorem pt_25 {I : cId} : pt I 25 := fun q h => by
  rw [gk_25] at h
  cases h
  exact ⟨0, rfl⟩
set_option maxRecDepth 20000 in
theorem ps_26 {n : Nat} {I : cId} : (pX8 n I)[25]? = some (adN n 26, gw_e (adN n) (dAI I) (s0 26) 26 (.inr (.inr (1, [some 27, some 32, some 33])))) := rfl
theorem pj_26 {n : Nat} {I : cId} : pj n I 26 := by
  unfold pj
  rw [gk_26]
  exact (w2_a (j := 25) (by decide)).trans ps_26
theorem pt_26 {I : cId} : pt I 26 := fun q h => by
  rw [gk_26] at h
  cases h
  exact trivial
set_option maxRecDepth 20000 in
theorem ps_27 {n : Nat} {I : cId} : (pX8 n I)[26]? = some (adN n 27, gw_e (adN n) (dAI I) (s0 27) 27 (.inr (.inl (.array .int, [28, 29, 30, 31])))) := by
  have e : (fun i => if i < 4 then some (n + 25 + 1 + 1 + i) else none) = (fun i => (([28, 29, 30, 31] : List Nat)[i]?).map (adN n)) := by
    funext i
    by_cases h : i < 4
    · have : i = 0 ∨ i = 1 ∨ i = 2 ∨ i = 3 := by omega
      rcases this with rfl | rfl | rfl | rfl <;> rfl
    · rw [if_neg h, List.getElem?_eq_none (by show 4 ≤ i; omega)]
      rfl
  show some ((n + 26, .inl (I.2.2.2, 4, .inr (.inr (.inr (.inr (fun i => if i < 4 then some (n + 25 + 1 + 1 + i) else none)))))) : Nat × va_E) = _
  rw [e]
  rfl
theorem pj_27 {n : Nat} {I : cId} : pj n I 27 := by
  unfold pj
  rw [gk_27]
  exact (w2_a (j := 26) (by decide)).trans ps_27
theorem pt_27 {I : cId} : pt I 27 := fun q h => by
  rw [gk_27] at h
  cases h
  exact ⟨3, rfl⟩
set_option maxRecDepth 20000 in
theorem ps_28 {n : Nat} {I : cId} : (pX8 n I)[27]? = some (adN n 28, gw_e (adN n) (dAI I) (s0 28) 28 (.inl (.int, 60))) := rfl
theorem pj_28 {n : Nat} {I : cId} : pj n I 28 := by
  unfold pj
  rw [gk_28]
  exact (w2_a (j := 27) (by decide)).trans ps_28
theorem pt_28 {I : cId} : pt I 28 := fun q h => by
  rw [gk_28] at h
  cases h
  exact ⟨0, rfl⟩
set_option maxRecDepth 20000 in
theorem ps_29 {n : Nat} {I : cId} : (pX8 n I)[28]? = some (adN n 29, gw_e (adN n) (dAI I) (s0 29) 29 (.inl (.int, 60))) := rfl
theorem pj_29 {n : Nat} {I : cId} : pj n I 29 := by
  unfold pj
  rw [gk_29]
  exact (w2_a (j := 28) (by decide)).trans ps_29
theorem pt_29 {I : cId} : pt I 29 := fun q h => by
  rw [gk_29] at h
  cases h
  exact ⟨0, rfl⟩
set_option maxRecDepth 20000 in
theorem ps_30 {n : Nat} {I : cId} : (pX8 n I)[29]? = some (adN n 30, gw_e (adN n) (dAI I) (s0 30) 30 (.inl (.int, 60))) := rfl
theorem pj_30 {n : Nat} {I : cId} : pj n I 30 := by
  unfold pj
  rw [gk_30]
  exact (w2_a (j := 29) (by decide)).trans ps_30
theorem pt_30 {I : cId} : pt I 30 := fun q h => by
  rw [gk_30] at h
  cases h
  exact ⟨0, rfl⟩
set_option maxRecDepth 20000 in
theorem ps_31 {n : Nat} {I : cId} : (pX8 n I)[30]? = some (adN n 31, gw_e (adN n) (dAI I) (s0 31) 31 (.inl (.int, 60))) := rfl
theorem pj_31 {n : Nat} {I : cId} : pj n I 31 := by
  unfold pj
  rw [gk_31]
  exact (w2_a (j := 30) (by decide)).trans ps_31
theorem pt_31 {I : cId} : pt I 31 := fun q h => by
  rw [gk_31] at h
  cases h
  exact ⟨0, rfl⟩
set_option maxRecDepth 20000 in
theorem ps_32 {n : Nat} {I : cId} : (pX8 n I)[31]? = some (adN n 32, gw_e (adN n) (dAI I) (s0 32) 32 (.inl (.int, 4))) := rfl
theorem pj_32 {n : Nat} {I : cId} : pj n I 32 := by
  unfold pj
  rw [gk_32]
  exact (w2_a (j := 31) (by decide)).trans ps_32
theorem pt_32 {I : cId} : pt I 32 := fun q h => by
  rw [gk_32] at h
  cases h
  exact ⟨0, rfl⟩
set_option maxRecDepth 20000 in
theorem ps_33 {n : Nat} {I : cId} : (pX8 n I)[32]? = some (adN n 33, gw_e (adN n) (dAI I) (s0 33) 33 (.inl (.int, 4))) := rfl
theorem pj_33 {n : Nat} {I : cId} : pj n I 33 := by
  unfold pj
  rw [gk_33]
  exact (w2_a (j := 32) (by decide)).trans ps_33
theorem pt_33 {I : cId} : pt I 33 := fun q h => by
  rw [gk_33] at h
  cases h
  exact ⟨0, rfl⟩
set_option maxRecDepth 20000 in
theorem ps_34 {n : Nat} {I : cId} : ((n + 49, .inl (I.2.2.1, 11, .inr (.inr (.inr (.inr (fH n 11)))))) :: (n + 50, .inl (I.1, 128, .inl (fun _ => 0))) :: sts n I 11 : va_W)[0]? = some (adN n 34, gw_e (adN n) (dAI I) (s0 34) 34 (.inr (.inl (.object "BreathSold$State", [52, 60, 68, 76, 84, 92, 100, 108, 116, 124, 132])))) := by
  have e : fH n 11 = (fun i => (([52, 60, 68, 76, 84, 92, 100, 108, 116, 124, 132] : List Nat)[i]?).map (adN n)) := by
    funext i
    unfold fH
    by_cases h : i < 11
    · have : i = 0 ∨ i = 1 ∨ i = 2 ∨ i = 3 ∨ i = 4 ∨ i = 5 ∨ i = 6 ∨ i = 7 ∨ i = 8 ∨ i = 9 ∨ i = 10 := by omega
      rcases this with rfl | rfl | rfl | rfl | rfl | rfl | rfl | rfl | rfl | rfl | rfl <;> rfl
    · rw [if_neg h, List.getElem?_eq_none (by show 11 ≤ i; omega)]
      rfl
  rw [e]
  rfl
theorem pj_34 {n : Nat} {I : cId} : pj n I 34 := by
  unfold pj
  rw [gk_34]
  exact (w2_b (j := 0) (by decide)).trans ps_34
theorem pt_34 {I : cId} : pt I 34 := fun q h => by
  rw [gk_34] at h
  cases h
  exact ⟨2, rfl⟩
set_option maxRecDepth 20000 in
theorem ps_35 {n : Nat} {I : cId} : ((n + 49, .inl (I.2.2.1, 11, .inr (.inr (.inr (.inr (fH n 11)))))) :: (n + 50, .inl (I.1, 128, .inl (fun _ => 0))) :: sts n I 11 : va_W)[1]? = some (adN n 35, gw_e (adN n) (dAI I) (s0 35) 35 (.inl (.int, 128))) := rfl
theorem pj_35 {n : Nat} {I : cId} : pj n I 35 := by
  unfold pj
  rw [gk_35]
  exact (w2_b (j := 1) (by decide)).trans ps_35
theorem pt_35 {I : cId} : pt I 35 := fun q h => by
  rw [gk_35] at h
  cases h
  exact ⟨0, rfl⟩
set_option maxRecDepth 20000 in
theorem ps_36 {n : Nat} {I : cId} : (pX8 n I)[33]? = some (adN n 36, gw_e (adN n) (dAI I) (s0 36) 36 (.inr (.inr (3, [some 37, some 38, some 39, some 40, some 41, some 42, some 43, none, none, none, none, none, none])))) := rfl
theorem pj_36 {n : Nat} {I : cId} : pj n I 36 := by
  unfold pj
  rw [gk_36]
  exact (w2_a (j := 33) (by decide)).trans ps_36
theorem pt_36 {I : cId} : pt I 36 := fun q h => by
  rw [gk_36] at h
  cases h
  exact trivial
set_option maxRecDepth 20000 in
theorem ps_37 {n : Nat} {I : cId} : (pX8 n I)[34]? = some (adN n 37, gw_e (adN n) (dAI I) (s0 37) 37 (.inl (.int, 8))) := rfl
theorem pj_37 {n : Nat} {I : cId} : pj n I 37 := by
  unfold pj
  rw [gk_37]
  exact (w2_a (j := 34) (by decide)).trans ps_37
theorem pt_37 {I : cId} : pt I 37 := fun q h => by
  rw [gk_37] at h
  cases h
  exact ⟨0, rfl⟩
set_option maxRecDepth 20000 in
theorem ps_38 {n : Nat} {I : cId} : (pX8 n I)[35]? = some (adN n 38, gw_e (adN n) (dAI I) (s0 38) 38 (.inl (.int, 8))) := rfl
theorem pj_38 {n : Nat} {I : cId} : pj n I 38 := by
  unfold pj
  rw [gk_38]
  exact (w2_a (j := 35) (by decide)).trans ps_38
theorem pt_38 {I : cId} : pt I 38 := fun q h => by
  rw [gk_38] at h
  cases h
  exact ⟨0, rfl⟩
set_option maxRecDepth 20000 in
theorem ps_39 {n : Nat} {I : cId} : (pX8 n I)[36]? = some (adN n 39, gw_e (adN n) (dAI I) (s0 39) 39 (.inl (.int, 8))) := rfl
theorem pj_39 {n : Nat} {I : cId} : pj n I 39 := by
  unfold pj
  rw [gk_39]
  exact (w2_a (j := 36) (by decide)).trans ps_39
theorem pt_39 {I : cId} : pt I 39 := fun q h => by
  rw [gk_39] at h
  cases h
  exact ⟨0, rfl⟩
set_option maxRecDepth 20000 in
theorem ps_40 {n : Nat} {I : cId} : (pX8 n I)[37]? = some (adN n 40, gw_e (adN n) (dAI I) (s0 40) 40 (.inl (.int, 8))) := rfl
theorem pj_40 {n : Nat} {I : cId} : pj n I 40 := by
  unfold pj
  rw [gk_40]
  exact (w2_a (j := 37) (by decide)).trans ps_40
theorem pt_40 {I : cId} : pt I 40 := fun q h => by
  rw [gk_40] at h
  cases h
  exact ⟨0, rfl⟩
set_option maxRecDepth 20000 in
theorem ps_41 {n : Nat} {I : cId} : (pX8 n I)[38]? = some (adN n 41, gw_e (adN n) (dAI I) (s0 41) 41 (.inl (.int, 8))) := rfl
theorem pj_41 {n : Nat} {I : cId} : pj n I 41 := by
  unfold pj
  rw [gk_41]
  exact (w2_a (j := 38) (by decide)).trans ps_41
theorem pt_41 {I : cId} : pt I 41 := fun q h => by
  rw [gk_41] at h
  cases h
  exact ⟨0, rfl⟩
set_option maxRecDepth 20000 in
theorem ps_42 {n : Nat} {I : cId} : (pX8 n I)[39]? = some (adN n 42, gw_e (adN n) (dAI I) (s0 42) 42 (.inl (.int, 8))) := rfl
theorem pj_42 {n : Nat} {I : cId} : pj n I 42 := by
  unfold pj
  rw [gk_42]
  exact (w2_a (j := 39) (by decide)).trans ps_42
theorem pt_42 {I : cId} : pt I 42 := fun q h => by
  rw [gk_42] at h
  cases h
  exact ⟨0, rfl⟩
set_option maxRecDepth 20000 in
theorem ps_43 {n : Nat} {I : cId} : (pX8 n I)[40]? = some (adN n 43, gw_e (adN n) (dAI I) (s0 43) 43 (.inl (.int, 8))) := rfl
theorem pj_43 {n : Nat} {I : cId} : pj n I 43 := by
  unfold pj
  rw [gk_43]
  exact (w2_a (j := 40) (by decide)).trans ps_43
theorem pt_43 {I : cId} : pt I 43 := fun q h => by
  rw [gk_43] at h
  cases h
  exact ⟨0, rfl⟩
set_option maxRecDepth 20000 in
theorem ps_44 {n : Nat} {I : cId} : (pX8 n I)[41]? = some (adN n 44, gw_e (adN n) (dAI I) (s0 44) 44 (.inr (.inr (3, [some 45, some 46, some 47, some 48, some 49, some 50, some 51, none, none, none, none, none, none])))) := rfl
theorem pj_44 {n : Nat} {I : cId} : pj n I 44 := by
  unfold pj
  rw [gk_44]
  exact (w2_a (j := 41) (by decide)).trans ps_44
theorem pt_44 {I : cId} : pt I 44 := fun q h => by
  rw [gk_44] at h
  cases h
  exact trivial
set_option maxRecDepth 20000 in
theorem ps_45 {n : Nat} {I : cId} : (pX8 n I)[42]? = some (adN n 45, gw_e (adN n) (dAI I) (s0 45) 45 (.inl (.int, 8))) := rfl
theorem pj_45 {n : Nat} {I : cId} : pj n I 45 := by
  unfold pj
  rw [gk_45]
  exact (w2_a (j := 42) (by decide)).trans ps_45
theorem pt_45 {I : cId} : pt I 45 := fun q h => by
  rw [gk_45] at h
  cases h
  exact ⟨0, rfl⟩
set_option maxRecDepth 20000 in
theorem ps_46 {n : Nat} {I : cId} : (pX8 n I)[43]? = some (adN n 46, gw_e (adN n) (dAI I) (s0 46) 46 (.inl (.int, 8))) := rfl
theorem pj_46 {n : Nat} {I : cId} : pj n I 46 := by
  unfold pj
  rw [gk_46]
  exact (w2_a (j := 43) (by decide)).trans ps_46
theorem pt_46 {I : cId} : pt I 46 := fun q h => by
  rw [gk_46] at h
  cases h
  exact ⟨0, rfl⟩
set_option maxRecDepth 20000 in
theorem ps_47 {n : Nat} {I : cId} : (pX8 n I)[44]? = some (adN n 47, gw_e (adN n) (dAI I) (s0 47) 47 (.inl (.int, 8))) := rfl
theorem pj_47 {n : Nat} {I : cId} : pj n I 47 := by
  unfold pj
  rw [gk_47]
  exact (w2_a (j := 44) (by decide)).trans ps_47
theorem pt_47 {I : cId} : pt I 47 := fun q h => by
  rw [gk_47] at h
  cases h
  exact ⟨0, rfl⟩
set_option maxRecDepth 20000 in
theorem ps_48 {n : Nat} {I : cId} : (pX8 n I)[45]? = some (adN n 48, gw_e (adN n) (dAI I) (s0 48) 48 (.inl (.int, 8))) := rfl
theorem pj_48 {n : Nat} {I : cId} : pj n I 48 := by
  unfold pj
  rw [gk_48]
  exact (w2_a (j := 45) (by decide)).trans ps_48
theorem pt_48 {I : cId} : pt I 48 := fun q h => by
  rw [gk_48] at h
  cases h
  exact ⟨0, rfl⟩
set_option maxRecDepth 20000 in
theorem ps_49 {n : Nat} {I : cId} : (pX8 n I)[46]? = some (adN n 49, gw_e (adN n) (dAI I) (s0 49) 49 (.inl (.int, 8))) := rfl
theorem pj_49 {n : Nat} {I : cId} : pj n I 49 := by
  unfold pj
  rw [gk_49]
  exact (w2_a (j := 46) (by decide)).trans ps_49
theorem pt_49 {I : cId} : pt I 49 := fun q h => by
  rw [gk_49] at h
  cases h
  exact ⟨0, rfl⟩
set_option maxRecDepth 20000 in
theorem ps_50 {n : Nat} {I : cId} : (pX8 n I)[47]? = some (adN n 50, gw_e (adN n) (dAI I) (s0 50) 50 (.inl (.int, 8))) := rfl
theorem pj_50 {n : Nat} {I : cId} : pj n I 50 := by
  unfold pj
  rw [gk_50]
  exact (w2_a (j := 47) (by decide)).trans ps_50
theorem pt_50 {I : cId} : pt I 50 := fun q h => by
  rw [gk_50] at h
  cases h
  exact ⟨0, rfl⟩
set_option maxRecDepth 20000 in
theorem ps_51 {n : Nat} {I : cId} : (pX8 n I)[48]? = some (adN n 51, gw_e (adN n) (dAI I) (s0 51) 51 (.inl (.int, 8))) := rfl
theorem pj_51 {n : Nat} {I : cId} : pj n I 51 := by
  unfold pj
  rw [gk_51]
  exact (w2_a (j := 48) (by decide)).trans ps_51
theorem pt_51 {I : cId} : pt I 51 := fun q h => by
  rw [gk_51] at h
  cases h
  exact ⟨0, rfl⟩
set_option maxRecDepth 20000 in
theorem ps_52 {n : Nat} {I : cId} : (wX3 (n + (51 + 8 * 0)) I)[0]? = some (adN n 52, gw_e (adN n) (dAI I) (s0 52) 52 (.inr (.inr (3, [some 53, some 54, some 55, some 56, some 57, some 58, some 59, none, none, none, none, none, none])))) := rfl
theorem pj_52 {n : Nat} {I : cId} : pj n I 52 := by
  unfold pj
  rw [gk_52]
  exact (w2_c (i := 0) (j := 0) (by decide) (by decide)).trans ps_52
theorem pt_52 {I : cId} : pt I 52 := fun q h => by
  rw [gk_52] at h
  cases h
  exact trivial
set_option maxRecDepth 20000 in
theorem ps_53 {n : Nat} {I : cId} : (wX3 (n + (51 + 8 * 0)) I)[1]? = some (adN n 53, gw_e (adN n) (dAI I) (s0 53) 53 (.inl (.int, 8))) := rfl
theorem pj_53 {n : Nat} {I : cId} : pj n I 53 := by
  unfold pj
  rw [gk_53]
  exact (w2_c (i := 0) (j := 1) (by decide) (by decide)).trans ps_53
theorem pt_53 {I : cId} : pt I 53 := fun q h => by
  rw [gk_53] at h
  cases h
  exact ⟨0, rfl⟩
set_option maxRecDepth 20000 in
theorem ps_54 {n : Nat} {I : cId} : (wX3 (n + (51 + 8 * 0)) I)[2]? = some (adN n 54, gw_e (adN n) (dAI I) (s0 54) 54 (.inl (.int, 8))) := rfl
theorem pj_54 {n : Nat} {I : cId} : pj n I 54 := by
  unfold pj
  rw [gk_54]
  exact (w2_c (i := 0) (j := 2) (by decide) (by decide)).trans ps_54
theorem pt_54 {I : cId} : pt I 54 := fun q h => by
  rw [gk_54] at h
  cases h
  exact ⟨0, rfl⟩
set_option maxRecDepth 20000 in
theorem ps_55 {n : Nat} {I : cId} : (wX3 (n + (51 + 8 * 0)) I)[3]? = some (adN n 55, gw_e (adN n) (dAI I) (s0 55) 55 (.inl (.int, 8))) := rfl
theorem pj_55 {n : Nat} {I : cId} : pj n I 55 := by
  unfold pj
  rw [gk_55]
  exact (w2_c (i := 0) (j := 3) (by decide) (by decide)).trans ps_55
theorem pt_55 {I : cId} : pt I 55 := fun q h => by
  rw [gk_55] at h
  cases h
  exact ⟨0, rfl⟩
set_option maxRecDepth 20000 in
theorem ps_56 {n : Nat} {I : cId} : (wX3 (n + (51 + 8 * 0)) I)[4]? = some (adN n 56, gw_e (adN n) (dAI I) (s0 56) 56 (.inl (.int, 8))) := rfl
theorem pj_56 {n : Nat} {I : cId} : pj n I 56 := by
  unfold pj
  rw [gk_56]
  exact (w2_c (i := 0) (j := 4) (by decide) (by decide)).trans ps_56
theorem pt_56 {I : cId} : pt I 56 := fun q h => by
  rw [gk_56] at h
  cases h
  exact ⟨0, rfl⟩
set_option maxRecDepth 20000 in
theorem ps_57 {n : Nat} {I : cId} : (wX3 (n + (51 + 8 * 0)) I)[5]? = some (adN n 57, gw_e (adN n) (dAI I) (s0 57) 57 (.inl (.int, 8))) := rfl
theorem pj_57 {n : Nat} {I : cId} : pj n I 57 := by
  unfold pj
  rw [gk_57]
  exact (w2_c (i := 0) (j := 5) (by decide) (by decide)).trans ps_57
theorem pt_57 {I : cId} : pt I 57 := fun q h => by
  rw [gk_57] at h
  cases h
  exact ⟨0, rfl⟩
set_option maxRecDepth 20000 in
theorem ps_58 {n : Nat} {I : cId} : (wX3 (n + (51 + 8 * 0)) I)[6]? = some (adN n 58, gw_e (adN n) (dAI I) (s0 58) 58 (.inl (.int, 8))) := rfl
theorem pj_58 {n : Nat} {I : cId} : pj n I 58 := by
  unfold pj
  rw [gk_58]
  exact (w2_c (i := 0) (j := 6) (by decide) (by decide)).trans ps_58
theorem pt_58 {I : cId} : pt I 58 := fun q h => by
  rw [gk_58] at h
  cases h
  exact ⟨0, rfl⟩
set_option maxRecDepth 20000 in
theorem ps_59 {n : Nat} {I : cId} : (wX3 (n + (51 + 8 * 0)) I)[7]? = some (adN n 59, gw_e (adN n) (dAI I) (s0 59) 59 (.inl (.int, 8))) := rfl
theorem pj_59 {n : Nat} {I : cId} : pj n I 59 := by
  unfold pj
  rw [gk_59]
  exact (w2_c (i := 0) (j := 7) (by decide) (by decide)).trans ps_59
theorem pt_59 {I : cId} : pt I 59 := fun q h => by
  rw [gk_59] at h
  cases h
  exact ⟨0, rfl⟩
set_option maxRecDepth 20000 in
theorem ps_60 {n : Nat} {I : cId} : (wX3 (n + (51 + 8 * 1)) I)[0]? = some (adN n 60, gw_e (adN n) (dAI I) (s0 60) 60 (.inr (.inr (3, [some 61, some 62, some 63, some 64, some 65, some 66, some 67, none, none, none, none, none, none])))) := rfl
theorem pj_60 {n : Nat} {I : cId} : pj n I 60 := by
  unfold pj
  rw [gk_60]
  exact (w2_c (i := 1) (j := 0) (by decide) (by decide)).trans ps_60
theorem pt_60 {I : cId} : pt I 60 := fun q h => by
  rw [gk_60] at h
  cases h
  exact trivial
set_option maxRecDepth 20000 in
theorem ps_61 {n : Nat} {I : cId} : (wX3 (n + (51 + 8 * 1)) I)[1]? = some (adN n 61, gw_e (adN n) (dAI I) (s0 61) 61 (.inl (.int, 8))) := rfl
theorem pj_61 {n : Nat} {I : cId} : pj n I 61 := by
  unfold pj
  rw [gk_61]
  exact (w2_c (i := 1) (j := 1) (by decide) (by decide)).trans ps_61
theorem pt_61 {I : cId} : pt I 61 := fun q h => by
  rw [gk_61] at h
  cases h
  exact ⟨0, rfl⟩
set_option maxRecDepth 20000 in
theorem ps_62 {n : Nat} {I : cId} : (wX3 (n + (51 + 8 * 1)) I)[2]? = some (adN n 62, gw_e (adN n) (dAI I) (s0 62) 62 (.inl (.int, 8))) := rfl
theorem pj_62 {n : Nat} {I : cId} : pj n I 62 := by
  unfold pj
  rw [gk_62]
  exact (w2_c (i := 1) (j := 2) (by decide) (by decide)).trans ps_62
theorem pt_62 {I : cId} : pt I 62 := fun q h => by
  rw [gk_62] at h
  cases h
  exact ⟨0, rfl⟩
set_option maxRecDepth 20000 in
theorem ps_63 {n : Nat} {I : cId} : (wX3 (n + (51 + 8 * 1)) I)[3]? = some (adN n 63, gw_e (adN n) (dAI I) (s0 63) 63 (.inl (.int, 8))) := rfl
theorem pj_63 {n : Nat} {I : cId} : pj n I 63 := by
  unfold pj
  rw [gk_63]
  exact (w2_c (i := 1) (j := 3) (by decide) (by decide)).trans ps_63
theorem pt_63 {I : cId} : pt I 63 := fun q h => by
  rw [gk_63] at h
  cases h
  exact ⟨0, rfl⟩
set_option maxRecDepth 20000 in
theorem ps_64 {n : Nat} {I : cId} : (wX3 (n + (51 + 8 * 1)) I)[4]? = some (adN n 64, gw_e (adN n) (dAI I) (s0 64) 64 (.inl (.int, 8))) := rfl
theorem pj_64 {n : Nat} {I : cId} : pj n I 64 := by
  unfold pj
  rw [gk_64]
  exact (w2_c (i := 1) (j := 4) (by decide) (by decide)).trans ps_64
theorem pt_64 {I : cId} : pt I 64 := fun q h => by
  rw [gk_64] at h
  cases h
  exact ⟨0, rfl⟩
set_option maxRecDepth 20000 in
theorem ps_65 {n : Nat} {I : cId} : (wX3 (n + (51 + 8 * 1)) I)[5]? = some (adN n 65, gw_e (adN n) (dAI I) (s0 65) 65 (.inl (.int, 8))) := rfl
theorem pj_65 {n : Nat} {I : cId} : pj n I 65 := by
  unfold pj
  rw [gk_65]
  exact (w2_c (i := 1) (j := 5) (by decide) (by decide)).trans ps_65
theorem pt_65 {I : cId} : pt I 65 := fun q h => by
  rw [gk_65] at h
  cases h
  exact ⟨0, rfl⟩
set_option maxRecDepth 20000 in
theorem ps_66 {n : Nat} {I : cId} : (wX3 (n + (51 + 8 * 1)) I)[6]? = some (adN n 66, gw_e (adN n) (dAI I) (s0 66) 66 (.inl (.int, 8))) := rfl
theorem pj_66 {n : Nat} {I : cId} : pj n I 66 := by
  unfold pj
  rw [gk_66]
  exact (w2_c (i := 1) (j := 6) (by decide) (by decide)).trans ps_66
theorem pt_66 {I : cId} : pt I 66 := fun q h => by
  rw [gk_66] at h
  cases h
  exact ⟨0, rfl⟩
set_option maxRecDepth 20000 in
theorem ps_67 {n : Nat} {I : cId} : (wX3 (n + (51 + 8 * 1)) I)[7]? = some (adN n 67, gw_e (adN n) (dAI I) (s0 67) 67 (.inl (.int, 8))) := rfl
theorem pj_67 {n : Nat} {I : cId} : pj n I 67 := by
  unfold pj
  rw [gk_67]
  exact (w2_c (i := 1) (j := 7) (by decide) (by decide)).trans ps_67
theorem pt_67 {I : cId} : pt I 67 := fun q h => by
  rw [gk_67] at h
  cases h
  exact ⟨0, rfl⟩
set_option maxRecDepth 20000 in
theorem ps_68 {n : Nat} {I : cId} : (wX3 (n + (51 + 8 * 2)) I)[0]? = some (adN n 68, gw_e (adN n) (dAI I) (s0 68) 68 (.inr (.inr (3, [some 69, some 70, some 71, some 72, some 73, some 74, some 75, none, none, none, none, none, none])))) := rfl
theorem pj_68 {n : Nat} {I : cId} : pj n I 68 := by
  unfold pj
  rw [gk_68]
  exact (w2_c (i := 2) (j := 0) (by decide) (by decide)).trans ps_68
theorem pt_68 {I : cId} : pt I 68 := fun q h => by
  rw [gk_68] at h
  cases h
  exact trivial
set_option maxRecDepth 20000 in
theorem ps_69 {n : Nat} {I : cId} : (wX3 (n + (51 + 8 * 2)) I)[1]? = some (adN n 69, gw_e (adN n) (dAI I) (s0 69) 69 (.inl (.int, 8))) := rfl
theorem pj_69 {n : Nat} {I : cId} : pj n I 69 := by
  unfold pj
  rw [gk_69]
  exact (w2_c (i := 2) (j := 1) (by decide) (by decide)).trans ps_69
theorem pt_69 {I : cId} : pt I 69 := fun q h => by
  rw [gk_69] at h
  cases h
  exact ⟨0, rfl⟩
set_option maxRecDepth 20000 in
theorem ps_70 {n : Nat} {I : cId} : (wX3 (n + (51 + 8 * 2)) I)[2]? = some (adN n 70, gw_e (adN n) (dAI I) (s0 70) 70 (.inl (.int, 8))) := rfl
theorem pj_70 {n : Nat} {I : cId} : pj n I 70 := by
  unfold pj
  rw [gk_70]
  exact (w2_c (i := 2) (j := 2) (by decide) (by decide)).trans ps_70
theorem pt_70 {I : cId} : pt I 70 := fun q h => by
  rw [gk_70] at h
  cases h
  exact ⟨0, rfl⟩
set_option maxRecDepth 20000 in
theorem ps_71 {n : Nat} {I : cId} : (wX3 (n + (51 + 8 * 2)) I)[3]? = some (adN n 71, gw_e (adN n) (dAI I) (s0 71) 71 (.inl (.int, 8))) := rfl
theorem pj_71 {n : Nat} {I : cId} : pj n I 71 := by
  unfold pj
  rw [gk_71]
  exact (w2_c (i := 2) (j := 3) (by decide) (by decide)).trans ps_71
theorem pt_71 {I : cId} : pt I 71 := fun q h => by
  rw [gk_71] at h
  cases h
  exact ⟨0, rfl⟩
set_option maxRecDepth 20000 in
theorem ps_72 {n : Nat} {I : cId} : (wX3 (n + (51 + 8 * 2)) I)[4]? = some (adN n 72, gw_e (adN n) (dAI I) (s0 72) 72 (.inl (.int, 8))) := rfl
theorem pj_72 {n : Nat} {I : cId} : pj n I 72 := by
  unfold pj
  rw [gk_72]
  exact (w2_c (i := 2) (j := 4) (by decide) (by decide)).trans ps_72
theorem pt_72 {I : cId} : pt I 72 := fun q h => by
  rw [gk_72] at h
  cases h
  exact ⟨0, rfl⟩
set_option maxRecDepth 20000 in
theorem ps_73 {n : Nat} {I : cId} : (wX3 (n + (51 + 8 * 2)) I)[5]? = some (adN n 73, gw_e (adN n) (dAI I) (s0 73) 73 (.inl (.int, 8))) := rfl
theorem pj_73 {n : Nat} {I : cId} : pj n I 73 := by
  unfold pj
  rw [gk_73]
  exact (w2_c (i := 2) (j := 5) (by decide) (by decide)).trans ps_73
theorem pt_73 {I : cId} : pt I 73 := fun q h => by
  rw [gk_73] at h
  cases h
  exact ⟨0, rfl⟩
set_option maxRecDepth 20000 in
theorem ps_74 {n : Nat} {I : cId} : (wX3 (n + (51 + 8 * 2)) I)[6]? = some (adN n 74, gw_e (adN n) (dAI I) (s0 74) 74 (.inl (.int, 8))) := rfl
theorem pj_74 {n : Nat} {I : cId} : pj n I 74 := by
  unfold pj
  rw [gk_74]
  exact (w2_c (i := 2) (j := 6) (by decide) (by decide)).trans ps_74
theorem pt_74 {I : cId} : pt I 74 := fun q h => by
  rw [gk_74] at h
  cases h
  exact ⟨0, rfl⟩
set_option maxRecDepth 20000 in
theorem ps_75 {n : Nat} {I : cId} : (wX3 (n + (51 + 8 * 2)) I)[7]? = some (adN n 75, gw_e (adN n) (dAI I) (s0 75) 75 (.inl (.int, 8))) := rfl
theorem pj_75 {n : Nat} {I : cId} : pj n I 75 := by
  unfold pj
  rw [gk_75]
  exact (w2_c (i := 2) (j := 7) (by decide) (by decide)).trans ps_75
theorem pt_75 {I : cId} : pt I 75 := fun q h => by
  rw [gk_75] at h
  cases h
  exact ⟨0, rfl⟩
set_option maxRecDepth 20000 in
theorem ps_76 {n : Nat} {I : cId} : (wX3 (n + (51 + 8 * 3)) I)[0]? = some (adN n 76, gw_e (adN n) (dAI I) (s0 76) 76 (.inr (.inr (3, [some 77, some 78, some 79, some 80, some 81, some 82, some 83, none, none, none, none, none, none])))) := rfl
theorem pj_76 {n : Nat} {I : cId} : pj n I 76 := by
  unfold pj
  rw [gk_76]
  exact (w2_c (i := 3) (j := 0) (by decide) (by decide)).trans ps_76
theorem pt_76 {I : cId} : pt I 76 := fun q h => by
  rw [gk_76] at h
  cases h
  exact trivial
set_option maxRecDepth 20000 in
theorem ps_77 {n : Nat} {I : cId} : (wX3 (n + (51 + 8 * 3)) I)[1]? = some (adN n 77, gw_e (adN n) (dAI I) (s0 77) 77 (.inl (.int, 8))) := rfl
theorem pj_77 {n : Nat} {I : cId} : pj n I 77 := by
  unfold pj
  rw [gk_77]
  exact (w2_c (i := 3) (j := 1) (by decide) (by decide)).trans ps_77
theorem pt_77 {I : cId} : pt I 77 := fun q h => by
  rw [gk_77] at h
  cases h
  exact ⟨0, rfl⟩
set_option maxRecDepth 20000 in
theorem ps_78 {n : Nat} {I : cId} : (wX3 (n + (51 + 8 * 3)) I)[2]? = some (adN n 78, gw_e (adN n) (dAI I) (s0 78) 78 (.inl (.int, 8))) := rfl
theorem pj_78 {n : Nat} {I : cId} : pj n I 78 := by
  unfold pj
  rw [gk_78]
  exact (w2_c (i := 3) (j := 2) (by decide) (by decide)).trans ps_78
theorem pt_78 {I : cId} : pt I 78 := fun q h => by
  rw [gk_78] at h
  cases h
  exact ⟨0, rfl⟩
set_option maxRecDepth 20000 in
theorem ps_79 {n : Nat} {I : cId} : (wX3 (n + (51 + 8 * 3)) I)[3]? = some (adN n 79, gw_e (adN n) (dAI I) (s0 79) 79 (.inl (.int, 8))) := rfl
theorem pj_79 {n : Nat} {I : cId} : pj n I 79 := by
  unfold pj
  rw [gk_79]
  exact (w2_c (i := 3) (j := 3) (by decide) (by decide)).trans ps_79
theorem pt_79 {I : cId} : pt I 79 := fun q h => by
  rw [gk_79] at h
  cases h
  exact ⟨0, rfl⟩
set_option maxRecDepth 20000 in
theorem ps_80 {n : Nat} {I : cId} : (wX3 (n + (51 + 8 * 3)) I)[4]? = some (adN n 80, gw_e (adN n) (dAI I) (s0 80) 80 (.inl (.int, 8))) := rfl
theorem pj_80 {n : Nat} {I : cId} : pj n I 80 := by
  unfold pj
  rw [gk_80]
  exact (w2_c (i := 3) (j := 4) (by decide) (by decide)).trans ps_80
theorem pt_80 {I : cId} : pt I 80 := fun q h => by
  rw [gk_80] at h
  cases h
  exact ⟨0, rfl⟩
set_option maxRecDepth 20000 in
theorem ps_81 {n : Nat} {I : cId} : (wX3 (n + (51 + 8 * 3)) I)[5]? = some (adN n 81, gw_e (adN n) (dAI I) (s0 81) 81 (.inl (.int, 8))) := rfl
theorem pj_81 {n : Nat} {I : cId} : pj n I 81 := by
  unfold pj
  rw [gk_81]
  exact (w2_c (i := 3) (j := 5) (by decide) (by decide)).trans ps_81
theorem pt_81 {I : cId} : pt I 81 := fun q h => by
  rw [gk_81] at h
  cases h
  exact ⟨0, rfl⟩
set_option maxRecDepth 20000 in
theorem ps_82 {n : Nat} {I : cId} : (wX3 (n + (51 + 8 * 3)) I)[6]? = some (adN n 82, gw_e (adN n) (dAI I) (s0 82) 82 (.inl (.int, 8))) := rfl
theorem pj_82 {n : Nat} {I : cId} : pj n I 82 := by
  unfold pj
  rw [gk_82]
  exact (w2_c (i := 3) (j := 6) (by decide) (by decide)).trans ps_82
theorem pt_82 {I : cId} : pt I 82 := fun q h => by
  rw [gk_82] at h
  cases h
  exact ⟨0, rfl⟩
set_option maxRecDepth 20000 in
theorem ps_83 {n : Nat} {I : cId} : (wX3 (n + (51 + 8 * 3)) I)[7]? = some (adN n 83, gw_e (adN n) (dAI I) (s0 83) 83 (.inl (.int, 8))) := rfl
theorem pj_83 {n : Nat} {I : cId} : pj n I 83 := by
  unfold pj
  rw [gk_83]
  exact (w2_c (i := 3) (j := 7) (by decide) (by decide)).trans ps_83
theorem pt_83 {I : cId} : pt I 83 := fun q h => by
  rw [gk_83] at h
  cases h
  exact ⟨0, rfl⟩
set_option maxRecDepth 20000 in
theorem ps_84 {n : Nat} {I : cId} : (wX3 (n + (51 + 8 * 4)) I)[0]? = some (adN n 84, gw_e (adN n) (dAI I) (s0 84) 84 (.inr (.inr (3, [some 85, some 86, some 87, some 88, some 89, some 90, some 91, none, none, none, none, none, none])))) := rfl
theorem pj_84 {n : Nat} {I : cId} : pj n I 84 := by
  unfold pj
  rw [gk_84]
  exact (w2_c (i := 4) (j := 0) (by decide) (by decide)).trans ps_84
theorem pt_84 {I : cId} : pt I 84 := fun q h => by
  rw [gk_84] at h
  cases h
  exact trivial
set_option maxRecDepth 20000 in
theorem ps_85 {n : Nat} {I : cId} : (wX3 (n + (51 + 8 * 4)) I)[1]? = some (adN n 85, gw_e (adN n) (dAI I) (s0 85) 85 (.inl (.int, 8))) := rfl
theorem pj_85 {n : Nat} {I : cId} : pj n I 85 := by
  unfold pj
  rw [gk_85]
  exact (w2_c (i := 4) (j := 1) (by decide) (by decide)).trans ps_85
theorem pt_85 {I : cId} : pt I 85 := fun q h => by
  rw [gk_85] at h
  cases h
  exact ⟨0, rfl⟩
set_option maxRecDepth 20000 in
theorem ps_86 {n : Nat} {I : cId} : (wX3 (n + (51 + 8 * 4)) I)[2]? = some (adN n 86, gw_e (adN n) (dAI I) (s0 86) 86 (.inl (.int, 8))) := rfl
theorem pj_86 {n : Nat} {I : cId} : pj n I 86 := by
  unfold pj
  rw [gk_86]
  exact (w2_c (i := 4) (j := 2) (by decide) (by decide)).trans ps_86
theorem pt_86 {I : cId} : pt I 86 := fun q h => by
  rw [gk_86] at h
  cases h
  exact ⟨0, rfl⟩
set_option maxRecDepth 20000 in
theorem ps_87 {n : Nat} {I : cId} : (wX3 (n + (51 + 8 * 4)) I)[3]? = some (adN n 87, gw_e (adN n) (dAI I) (s0 87) 87 (.inl (.int, 8))) := rfl
theorem pj_87 {n : Nat} {I : cId} : pj n I 87 := by
  unfold pj
  rw [gk_87]
  exact (w2_c (i := 4) (j := 3) (by decide) (by decide)).trans ps_87
theorem pt_87 {I : cId} : pt I 87 := fun q h => by
  rw [gk_87] at h
  cases h
  exact ⟨0, rfl⟩
set_option maxRecDepth 20000 in
theorem ps_88 {n : Nat} {I : cId} : (wX3 (n + (51 + 8 * 4)) I)[4]? = some (adN n 88, gw_e (adN n) (dAI I) (s0 88) 88 (.inl (.int, 8))) := rfl
theorem pj_88 {n : Nat} {I : cId} : pj n I 88 := by
  unfold pj
  rw [gk_88]
  exact (w2_c (i := 4) (j := 4) (by decide) (by decide)).trans ps_88
theorem pt_88 {I : cId} : pt I 88 := fun q h => by
  rw [gk_88] at h
  cases h
  exact ⟨0, rfl⟩
set_option maxRecDepth 20000 in
theorem ps_89 {n : Nat} {I : cId} : (wX3 (n + (51 + 8 * 4)) I)[5]? = some (adN n 89, gw_e (adN n) (dAI I) (s0 89) 89 (.inl (.int, 8))) := rfl
theorem pj_89 {n : Nat} {I : cId} : pj n I 89 := by
  unfold pj
  rw [gk_89]
  exact (w2_c (i := 4) (j := 5) (by decide) (by decide)).trans ps_89
theorem pt_89 {I : cId} : pt I 89 := fun q h => by
  rw [gk_89] at h
  cases h
  exact ⟨0, rfl⟩
set_option maxRecDepth 20000 in
theorem ps_90 {n : Nat} {I : cId} : (wX3 (n + (51 + 8 * 4)) I)[6]? = some (adN n 90, gw_e (adN n) (dAI I) (s0 90) 90 (.inl (.int, 8))) := rfl
theorem pj_90 {n : Nat} {I : cId} : pj n I 90 := by
  unfold pj
  rw [gk_90]
  exact (w2_c (i := 4) (j := 6) (by decide) (by decide)).trans ps_90
theorem pt_90 {I : cId} : pt I 90 := fun q h => by
  rw [gk_90] at h
  cases h
  exact ⟨0, rfl⟩
set_option maxRecDepth 20000 in
theorem ps_91 {n : Nat} {I : cId} : (wX3 (n + (51 + 8 * 4)) I)[7]? = some (adN n 91, gw_e (adN n) (dAI I) (s0 91) 91 (.inl (.int, 8))) := rfl
theorem pj_91 {n : Nat} {I : cId} : pj n I 91 := by
  unfold pj
  rw [gk_91]
  exact (w2_c (i := 4) (j := 7) (by decide) (by decide)).trans ps_91
theorem pt_91 {I : cId} : pt I 91 := fun q h => by
  rw [gk_91] at h
  cases h
  exact ⟨0, rfl⟩
set_option maxRecDepth 20000 in
theorem ps_92 {n : Nat} {I : cId} : (wX3 (n + (51 + 8 * 5)) I)[0]? = some (adN n 92, gw_e (adN n) (dAI I) (s0 92) 92 (.inr (.inr (3, [some 93, some 94, some 95, some 96, some 97, some 98, some 99, none, none, none, none, none, none])))) := rfl
theorem pj_92 {n : Nat} {I : cId} : pj n I 92 := by
  unfold pj
  rw [gk_92]
  exact (w2_c (i := 5) (j := 0) (by decide) (by decide)).trans ps_92
theorem pt_92 {I : cId} : pt I 92 := fun q h => by
  rw [gk_92] at h
  cases h
  exact trivial
set_option maxRecDepth 20000 in
theorem ps_93 {n : Nat} {I : cId} : (wX3 (n + (51 + 8 * 5)) I)[1]? = some (adN n 93, gw_e (adN n) (dAI I) (s0 93) 93 (.inl (.int, 8))) := rfl
theorem pj_93 {n : Nat} {I : cId} : pj n I 93 := by
  unfold pj
  rw [gk_93]
  exact (w2_c (i := 5) (j := 1) (by decide) (by decide)).trans ps_93
theorem pt_93 {I : cId} : pt I 93 := fun q h => by
  rw [gk_93] at h
  cases h
  exact ⟨0, rfl⟩
set_option maxRecDepth 20000 in
theorem ps_94 {n : Nat} {I : cId} : (wX3 (n + (51 + 8 * 5)) I)[2]? = some (adN n 94, gw_e (adN n) (dAI I) (s0 94) 94 (.inl (.int, 8))) := rfl
theorem pj_94 {n : Nat} {I : cId} : pj n I 94 := by
  unfold pj
  rw [gk_94]
  exact (w2_c (i := 5) (j := 2) (by decide) (by decide)).trans ps_94
theorem pt_94 {I : cId} : pt I 94 := fun q h => by
  rw [gk_94] at h
  cases h
  exact ⟨0, rfl⟩
set_option maxRecDepth 20000 in
theorem ps_95 {n : Nat} {I : cId} : (wX3 (n + (51 + 8 * 5)) I)[3]? = some (adN n 95, gw_e (adN n) (dAI I) (s0 95) 95 (.inl (.int, 8))) := rfl
theorem pj_95 {n : Nat} {I : cId} : pj n I 95 := by
  unfold pj
  rw [gk_95]
  exact (w2_c (i := 5) (j := 3) (by decide) (by decide)).trans ps_95
theorem pt_95 {I : cId} : pt I 95 := fun q h => by
  rw [gk_95] at h
  cases h
  exact ⟨0, rfl⟩
set_option maxRecDepth 20000 in
theorem ps_96 {n : Nat} {I : cId} : (wX3 (n + (51 + 8 * 5)) I)[4]? = some (adN n 96, gw_e (adN n) (dAI I) (s0 96) 96 (.inl (.int, 8))) := rfl
theorem pj_96 {n : Nat} {I : cId} : pj n I 96 := by
  unfold pj
  rw [gk_96]
  exact (w2_c (i := 5) (j := 4) (by decide) (by decide)).trans ps_96
theorem pt_96 {I : cId} : pt I 96 := fun q h => by
  rw [gk_96] at h
  cases h
  exact ⟨0, rfl⟩
set_option maxRecDepth 20000 in
theorem ps_97 {n : Nat} {I : cId} : (wX3 (n + (51 + 8 * 5)) I)[5]? = some (adN n 97, gw_e (adN n) (dAI I) (s0 97) 97 (.inl (.int, 8))) := rfl
theorem pj_97 {n : Nat} {I : cId} : pj n I 97 := by
  unfold pj
  rw [gk_97]
  exact (w2_c (i := 5) (j := 5) (by decide) (by decide)).trans ps_97
theorem pt_97 {I : cId} : pt I 97 := fun q h => by
  rw [gk_97] at h
  cases h
  exact ⟨0, rfl⟩
set_option maxRecDepth 20000 in
theorem ps_98 {n : Nat} {I : cId} : (wX3 (n + (51 + 8 * 5)) I)[6]? = some (adN n 98, gw_e (adN n) (dAI I) (s0 98) 98 (.inl (.int, 8))) := rfl
theorem pj_98 {n : Nat} {I : cId} : pj n I 98 := by
  unfold pj
  rw [gk_98]
  exact (w2_c (i := 5) (j := 6) (by decide) (by decide)).trans ps_98
theorem pt_98 {I : cId} : pt I 98 := fun q h => by
  rw [gk_98] at h
  cases h
  exact ⟨0, rfl⟩
set_option maxRecDepth 20000 in
theorem ps_99 {n : Nat} {I : cId} : (wX3 (n + (51 + 8 * 5)) I)[7]? = some (adN n 99, gw_e (adN n) (dAI I) (s0 99) 99 (.inl (.int, 8))) := rfl
theorem pj_99 {n : Nat} {I : cId} : pj n I 99 := by
  unfold pj
  rw [gk_99]
  exact (w2_c (i := 5) (j := 7) (by decide) (by decide)).trans ps_99
theorem pt_99 {I : cId} : pt I 99 := fun q h => by
  rw [gk_99] at h
  cases h
  exact ⟨0, rfl⟩
set_option maxRecDepth 20000 in
theorem ps_100 {n : Nat} {I : cId} : (wX3 (n + (51 + 8 * 6)) I)[0]? = some (adN n 100, gw_e (adN n) (dAI I) (s0 100) 100 (.inr (.inr (3, [some 101, some 102, some 103, some 104, some 105, some 106, some 107, none, none, none, none, none, none])))) := rfl
theorem pj_100 {n : Nat} {I : cId} : pj n I 100 := by
  unfold pj
  rw [gk_100]
  exact (w2_c (i := 6) (j := 0) (by decide) (by decide)).trans ps_100
theorem pt_100 {I : cId} : pt I 100 := fun q h => by
  rw [gk_100] at h
  cases h
  exact trivial
set_option maxRecDepth 20000 in
theorem ps_101 {n : Nat} {I : cId} : (wX3 (n + (51 + 8 * 6)) I)[1]? = some (adN n 101, gw_e (adN n) (dAI I) (s0 101) 101 (.inl (.int, 8))) := rfl
theorem pj_101 {n : Nat} {I : cId} : pj n I 101 := by
  unfold pj
  rw [gk_101]
  exact (w2_c (i := 6) (j := 1) (by decide) (by decide)).trans ps_101
theorem pt_101 {I : cId} : pt I 101 := fun q h => by
  rw [gk_101] at h
  cases h
  exact ⟨0, rfl⟩
set_option maxRecDepth 20000 in
theorem ps_102 {n : Nat} {I : cId} : (wX3 (n + (51 + 8 * 6)) I)[2]? = some (adN n 102, gw_e (adN n) (dAI I) (s0 102) 102 (.inl (.int, 8))) := rfl
theorem pj_102 {n : Nat} {I : cId} : pj n I 102 := by
  unfold pj
  rw [gk_102]
  exact (w2_c (i := 6) (j := 2) (by decide) (by decide)).trans ps_102
theorem pt_102 {I : cId} : pt I 102 := fun q h => by
  rw [gk_102] at h
  cases h
  exact ⟨0, rfl⟩
set_option maxRecDepth 20000 in
theorem ps_103 {n : Nat} {I : cId} : (wX3 (n + (51 + 8 * 6)) I)[3]? = some (adN n 103, gw_e (adN n) (dAI I) (s0 103) 103 (.inl (.int, 8))) := rfl
theorem pj_103 {n : Nat} {I : cId} : pj n I 103 := by
  unfold pj
  rw [gk_103]
  exact (w2_c (i := 6) (j := 3) (by decide) (by decide)).trans ps_103
theorem pt_103 {I : cId} : pt I 103 := fun q h => by
  rw [gk_103] at h
  cases h
  exact ⟨0, rfl⟩
set_option maxRecDepth 20000 in
theorem ps_104 {n : Nat} {I : cId} : (wX3 (n + (51 + 8 * 6)) I)[4]? = some (adN n 104, gw_e (adN n) (dAI I) (s0 104) 104 (.inl (.int, 8))) := rfl
theorem pj_104 {n : Nat} {I : cId} : pj n I 104 := by
  unfold pj
  rw [gk_104]
  exact (w2_c (i := 6) (j := 4) (by decide) (by decide)).trans ps_104
theorem pt_104 {I : cId} : pt I 104 := fun q h => by
  rw [gk_104] at h
  cases h
  exact ⟨0, rfl⟩
set_option maxRecDepth 20000 in
theorem ps_105 {n : Nat} {I : cId} : (wX3 (n + (51 + 8 * 6)) I)[5]? = some (adN n 105, gw_e (adN n) (dAI I) (s0 105) 105 (.inl (.int, 8))) := rfl
theorem pj_105 {n : Nat} {I : cId} : pj n I 105 := by
  unfold pj
  rw [gk_105]
  exact (w2_c (i := 6) (j := 5) (by decide) (by decide)).trans ps_105
theorem pt_105 {I : cId} : pt I 105 := fun q h => by
  rw [gk_105] at h
  cases h
  exact ⟨0, rfl⟩
set_option maxRecDepth 20000 in
theorem ps_106 {n : Nat} {I : cId} : (wX3 (n + (51 + 8 * 6)) I)[6]? = some (adN n 106, gw_e (adN n) (dAI I) (s0 106) 106 (.inl (.int, 8))) := rfl
theorem pj_106 {n : Nat} {I : cId} : pj n I 106 := by
  unfold pj
  rw [gk_106]
  exact (w2_c (i := 6) (j := 6) (by decide) (by decide)).trans ps_106
theorem pt_106 {I : cId} : pt I 106 := fun q h => by
  rw [gk_106] at h
  cases h
  exact ⟨0, rfl⟩
set_option maxRecDepth 20000 in
theorem ps_107 {n : Nat} {I : cId} : (wX3 (n + (51 + 8 * 6)) I)[7]? = some (adN n 107, gw_e (adN n) (dAI I) (s0 107) 107 (.inl (.int, 8))) := rfl
theorem pj_107 {n : Nat} {I : cId} : pj n I 107 := by
  unfold pj
  rw [gk_107]
  exact (w2_c (i := 6) (j := 7) (by decide) (by decide)).trans ps_107
theorem pt_107 {I : cId} : pt I 107 := fun q h => by
  rw [gk_107] at h
  cases h
  exact ⟨0, rfl⟩
set_option maxRecDepth 20000 in
theorem ps_108 {n : Nat} {I : cId} : (wX3 (n + (51 + 8 * 7)) I)[0]? = some (adN n 108, gw_e (adN n) (dAI I) (s0 108) 108 (.inr (.inr (3, [some 109, some 110, some 111, some 112, some 113, some 114, some 115, none, none, none, none, none, none])))) := rfl
theorem pj_108 {n : Nat} {I : cId} : pj n I 108 := by
  unfold pj
  rw [gk_108]
  exact (w2_c (i := 7) (j := 0) (by decide) (by decide)).trans ps_108
theorem pt_108 {I : cId} : pt I 108 := fun q h => by
  rw [gk_108] at h
  cases h
  exact trivial
set_option maxRecDepth 20000 in
theorem ps_109 {n : Nat} {I : cId} : (wX3 (n + (51 + 8 * 7)) I)[1]? = some (adN n 109, gw_e (adN n) (dAI I) (s0 109) 109 (.inl (.int, 8))) := rfl
theorem pj_109 {n : Nat} {I : cId} : pj n I 109 := by
  unfold pj
  rw [gk_109]
  exact (w2_c (i := 7) (j := 1) (by decide) (by decide)).trans ps_109
theorem pt_109 {I : cId} : pt I 109 := fun q h => by
  rw [gk_109] at h
  cases h
  exact ⟨0, rfl⟩
set_option maxRecDepth 20000 in
theorem ps_110 {n : Nat} {I : cId} : (wX3 (n + (51 + 8 * 7)) I)[2]? = some (adN n 110, gw_e (adN n) (dAI I) (s0 110) 110 (.inl (.int, 8))) := rfl
theorem pj_110 {n : Nat} {I : cId} : pj n I 110 := by
  unfold pj
  rw [gk_110]
  exact (w2_c (i := 7) (j := 2) (by decide) (by decide)).trans ps_110
theorem pt_110 {I : cId} : pt I 110 := fun q h => by
  rw [gk_110] at h
  cases h
  exact ⟨0, rfl⟩
set_option maxRecDepth 20000 in
theorem ps_111 {n : Nat} {I : cId} : (wX3 (n + (51 + 8 * 7)) I)[3]? = some (adN n 111, gw_e (adN n) (dAI I) (s0 111) 111 (.inl (.int, 8))) := rfl
theorem pj_111 {n : Nat} {I : cId} : pj n I 111 := by
  unfold pj
  rw [gk_111]
  exact (w2_c (i := 7) (j := 3) (by decide) (by decide)).trans ps_111
theorem pt_111 {I : cId} : pt I 111 := fun q h => by
  rw [gk_111] at h
  cases h
  exact ⟨0, rfl⟩
set_option maxRecDepth 20000 in
theorem ps_112 {n : Nat} {I : cId} : (wX3 (n + (51 + 8 * 7)) I)[4]? = some (adN n 112, gw_e (adN n) (dAI I) (s0 112) 112 (.inl (.int, 8))) := rfl
theorem pj_112 {n : Nat} {I : cId} : pj n I 112 := by
  unfold pj
  rw [gk_112]
  exact (w2_c (i := 7) (j := 4) (by decide) (by decide)).trans ps_112
theorem pt_112 {I : cId} : pt I 112 := fun q h => by
  rw [gk_112] at h
  cases h
  exact ⟨0, rfl⟩
set_option maxRecDepth 20000 in
theorem ps_113 {n : Nat} {I : cId} : (wX3 (n + (51 + 8 * 7)) I)[5]? = some (adN n 113, gw_e (adN n) (dAI I) (s0 113) 113 (.inl (.int, 8))) := rfl
theorem pj_113 {n : Nat} {I : cId} : pj n I 113 := by
  unfold pj
  rw [gk_113]
  exact (w2_c (i := 7) (j := 5) (by decide) (by decide)).trans ps_113
theorem pt_113 {I : cId} : pt I 113 := fun q h => by
  rw [gk_113] at h
  cases h
  exact ⟨0, rfl⟩
set_option maxRecDepth 20000 in
theorem ps_114 {n : Nat} {I : cId} : (wX3 (n + (51 + 8 * 7)) I)[6]? = some (adN n 114, gw_e (adN n) (dAI I) (s0 114) 114 (.inl (.int, 8))) := rfl
theorem pj_114 {n : Nat} {I : cId} : pj n I 114 := by
  unfold pj
  rw [gk_114]
  exact (w2_c (i := 7) (j := 6) (by decide) (by decide)).trans ps_114
theorem pt_114 {I : cId} : pt I 114 := fun q h => by
  rw [gk_114] at h
  cases h
  exact ⟨0, rfl⟩
set_option maxRecDepth 20000 in
theorem ps_115 {n : Nat} {I : cId} : (wX3 (n + (51 + 8 * 7)) I)[7]? = some (adN n 115, gw_e (adN n) (dAI I) (s0 115) 115 (.inl (.int, 8))) := rfl
theorem pj_115 {n : Nat} {I : cId} : pj n I 115 := by
  unfold pj
  rw [gk_115]
  exact (w2_c (i := 7) (j := 7) (by decide) (by decide)).trans ps_115
theorem pt_115 {I : cId} : pt I 115 := fun q h => by
  rw [gk_115] at h
  cases h
  exact ⟨0, rfl⟩
set_option maxRecDepth 20000 in
theorem ps_116 {n : Nat} {I : cId} : (wX3 (n + (51 + 8 * 8)) I)[0]? = some (adN n 116, gw_e (adN n) (dAI I) (s0 116) 116 (.inr (.inr (3, [some 117, some 118, some 119, some 120, some 121, some 122, some 123, none, none, none, none, none, none])))) := rfl
theorem pj_116 {n : Nat} {I : cId} : pj n I 116 := by
  unfold pj
  rw [gk_116]
  exact (w2_c (i := 8) (j := 0) (by decide) (by decide)).trans ps_116
theorem pt_116 {I : cId} : pt I 116 := fun q h => by
  rw [gk_116] at h
  cases h
  exact trivial
set_option maxRecDepth 20000 in
theorem ps_117 {n : Nat} {I : cId} : (wX3 (n + (51 + 8 * 8)) I)[1]? = some (adN n 117, gw_e (adN n) (dAI I) (s0 117) 117 (.inl (.int, 8))) := rfl
theorem pj_117 {n : Nat} {I : cId} : pj n I 117 := by
  unfold pj
  rw [gk_117]
  exact (w2_c (i := 8) (j := 1) (by decide) (by decide)).trans ps_117
theorem pt_117 {I : cId} : pt I 117 := fun q h => by
  rw [gk_117] at h
  cases h
  exact ⟨0, rfl⟩
set_option maxRecDepth 20000 in
theorem ps_118 {n : Nat} {I : cId} : (wX3 (n + (51 + 8 * 8)) I)[2]? = some (adN n 118, gw_e (adN n) (dAI I) (s0 118) 118 (.inl (.int, 8))) := rfl
theorem pj_118 {n : Nat} {I : cId} : pj n I 118 := by
  unfold pj
  rw [gk_118]
  exact (w2_c (i := 8) (j := 2) (by decide) (by decide)).trans ps_118
theorem pt_118 {I : cId} : pt I 118 := fun q h => by
  rw [gk_118] at h
  cases h
  exact ⟨0, rfl⟩
set_option maxRecDepth 20000 in
theorem ps_119 {n : Nat} {I : cId} : (wX3 (n + (51 + 8 * 8)) I)[3]? = some (adN n 119, gw_e (adN n) (dAI I) (s0 119) 119 (.inl (.int, 8))) := rfl
theorem pj_119 {n : Nat} {I : cId} : pj n I 119 := by
  unfold pj
  rw [gk_119]
  exact (w2_c (i := 8) (j := 3) (by decide) (by decide)).trans ps_119
theorem pt_119 {I : cId} : pt I 119 := fun q h => by
  rw [gk_119] at h
  cases h
  exact ⟨0, rfl⟩
set_option maxRecDepth 20000 in
theorem ps_120 {n : Nat} {I : cId} : (wX3 (n + (51 + 8 * 8)) I)[4]? = some (adN n 120, gw_e (adN n) (dAI I) (s0 120) 120 (.inl (.int, 8))) := rfl
theorem pj_120 {n : Nat} {I : cId} : pj n I 120 := by
  unfold pj
  rw [gk_120]
  exact (w2_c (i := 8) (j := 4) (by decide) (by decide)).trans ps_120
theorem pt_120 {I : cId} : pt I 120 := fun q h => by
  rw [gk_120] at h
  cases h
  exact ⟨0, rfl⟩
set_option maxRecDepth 20000 in
theorem ps_121 {n : Nat} {I : cId} : (wX3 (n + (51 + 8 * 8)) I)[5]? = some (adN n 121, gw_e (adN n) (dAI I) (s0 121) 121 (.inl (.int, 8))) := rfl
theorem pj_121 {n : Nat} {I : cId} : pj n I 121 := by
  unfold pj
  rw [gk_121]
  exact (w2_c (i := 8) (j := 5) (by decide) (by decide)).trans ps_121
theorem pt_121 {I : cId} : pt I 121 := fun q h => by
  rw [gk_121] at h
  cases h
  exact ⟨0, rfl⟩
set_option maxRecDepth 20000 in
theorem ps_122 {n : Nat} {I : cId} : (wX3 (n + (51 + 8 * 8)) I)[6]? = some (adN n 122, gw_e (adN n) (dAI I) (s0 122) 122 (.inl (.int, 8))) := rfl
theorem pj_122 {n : Nat} {I : cId} : pj n I 122 := by
  unfold pj
  rw [gk_122]
  exact (w2_c (i := 8) (j := 6) (by decide) (by decide)).trans ps_122
theorem pt_122 {I : cId} : pt I 122 := fun q h => by
  rw [gk_122] at h
  cases h
  exact ⟨0, rfl⟩
set_option maxRecDepth 20000 in
theorem ps_123 {n : Nat} {I : cId} : (wX3 (n + (51 + 8 * 8)) I)[7]? = some (adN n 123, gw_e (adN n) (dAI I) (s0 123) 123 (.inl (.int, 8))) := rfl
theorem pj_123 {n : Nat} {I : cId} : pj n I 123 := by
  unfold pj
  rw [gk_123]
  exact (w2_c (i := 8) (j := 7) (by decide) (by decide)).trans ps_123
theorem pt_123 {I : cId} : pt I 123 := fun q h => by
  rw [gk_123] at h
  cases h
  exact ⟨0, rfl⟩
set_option maxRecDepth 20000 in
theorem ps_124 {n : Nat} {I : cId} : (wX3 (n + (51 + 8 * 9)) I)[0]? = some (adN n 124, gw_e (adN n) (dAI I) (s0 124) 124 (.inr (.inr (3, [some 125, some 126, some 127, some 128, some 129, some 130, some 131, none, none, none, none, none, none])))) := rfl
theorem pj_124 {n : Nat} {I : cId} : pj n I 124 := by
  unfold pj
  rw [gk_124]
  exact (w2_c (i := 9) (j := 0) (by decide) (by decide)).trans ps_124
theorem pt_124 {I : cId} : pt I 124 := fun q h => by
  rw [gk_124] at h
  cases h
  exact trivial
set_option maxRecDepth 20000 in
theorem ps_125 {n : Nat} {I : cId} : (wX3 (n + (51 + 8 * 9)) I)[1]? = some (adN n 125, gw_e (adN n) (dAI I) (s0 125) 125 (.inl (.int, 8))) := rfl
theorem pj_125 {n : Nat} {I : cId} : pj n I 125 := by
  unfold pj
  rw [gk_125]
  exact (w2_c (i := 9) (j := 1) (by decide) (by decide)).trans ps_125
theorem pt_125 {I : cId} : pt I 125 := fun q h => by
  rw [gk_125] at h
  cases h
  exact ⟨0, rfl⟩
set_option maxRecDepth 20000 in
theorem ps_126 {n : Nat} {I : cId} : (wX3 (n + (51 + 8 * 9)) I)[2]? = some (adN n 126, gw_e (adN n) (dAI I) (s0 126) 126 (.inl (.int, 8))) := rfl
theorem pj_126 {n : Nat} {I : cId} : pj n I 126 := by
  unfold pj
  rw [gk_126]
  exact (w2_c (i := 9) (j := 2) (by decide) (by decide)).trans ps_126
theorem pt_126 {I : cId} : pt I 126 := fun q h => by
  rw [gk_126] at h
  cases h
  exact ⟨0, rfl⟩
set_option maxRecDepth 20000 in
theorem ps_127 {n : Nat} {I : cId} : (wX3 (n + (51 + 8 * 9)) I)[3]? = some (adN n 127, gw_e (adN n) (dAI I) (s0 127) 127 (.inl (.int, 8))) := rfl
theorem pj_127 {n : Nat} {I : cId} : pj n I 127 := by
  unfold pj
  rw [gk_127]
  exact (w2_c (i := 9) (j := 3) (by decide) (by decide)).trans ps_127
theorem pt_127 {I : cId} : pt I 127 := fun q h => by
  rw [gk_127] at h
  cases h
  exact ⟨0, rfl⟩
set_option maxRecDepth 20000 in
theorem ps_128 {n : Nat} {I : cId} : (wX3 (n + (51 + 8 * 9)) I)[4]? = some (adN n 128, gw_e (adN n) (dAI I) (s0 128) 128 (.inl (.int, 8))) := rfl
theorem pj_128 {n : Nat} {I : cId} : pj n I 128 := by
  unfold pj
  rw [gk_128]
  exact (w2_c (i := 9) (j := 4) (by decide) (by decide)).trans ps_128
theorem pt_128 {I : cId} : pt I 128 := fun q h => by
  rw [gk_128] at h
  cases h
  exact ⟨0, rfl⟩
set_option maxRecDepth 20000 in
theorem ps_129 {n : Nat} {I : cId} : (wX3 (n + (51 + 8 * 9)) I)[5]? = some (adN n 129, gw_e (adN n) (dAI I) (s0 129) 129 (.inl (.int, 8))) := rfl
theorem pj_129 {n : Nat} {I : cId} : pj n I 129 := by
  unfold pj
  rw [gk_129]
  exact (w2_c (i := 9) (j := 5) (by decide) (by decide)).trans ps_129
theorem pt_129 {I : cId} : pt I 129 := fun q h => by
  rw [gk_129] at h
  cases h
  exact ⟨0, rfl⟩
set_option maxRecDepth 20000 in
theorem ps_130 {n : Nat} {I : cId} : (wX3 (n + (51 + 8 * 9)) I)[6]? = some (adN n 130, gw_e (adN n) (dAI I) (s0 130) 130 (.inl (.int, 8))) := rfl
theorem pj_130 {n : Nat} {I : cId} : pj n I 130 := by
  unfold pj
  rw [gk_130]
  exact (w2_c (i := 9) (j := 6) (by decide) (by decide)).trans ps_130
theorem pt_130 {I : cId} : pt I 130 := fun q h => by
  rw [gk_130] at h
  cases h
  exact ⟨0, rfl⟩
set_option maxRecDepth 20000 in
theorem ps_131 {n : Nat} {I : cId} : (wX3 (n + (51 + 8 * 9)) I)[7]? = some (adN n 131, gw_e (adN n) (dAI I) (s0 131) 131 (.inl (.int, 8))) := rfl
theorem pj_131 {n : Nat} {I : cId} : pj n I 131 := by
  unfold pj
  rw [gk_131]
  exact (w2_c (i := 9) (j := 7) (by decide) (by decide)).trans ps_131
theorem pt_131 {I : cId} : pt I 131 := fun q h => by
  rw [gk_131] at h
  cases h
  exact ⟨0, rfl⟩
set_option maxRecDepth 20000 in
theorem ps_132 {n : Nat} {I : cId} : (wX3 (n + (51 + 8 * 10)) I)[0]? = some (adN n 132, gw_e (adN n) (dAI I) (s0 132) 132 (.inr (.inr (3, [some 133, some 134, some 135, some 136, some 137, some 138, some 139, none, none, none, none, none, none])))) := rfl
theorem pj_132 {n : Nat} {I : cId} : pj n I 132 := by
  unfold pj
  rw [gk_132]
  exact (w2_c (i := 10) (j := 0) (by decide) (by decide)).trans ps_132
theorem pt_132 {I : cId} : pt I 132 := fun q h => by
  rw [gk_132] at h
  cases h
  exact trivial
set_option maxRecDepth 20000 in
theorem ps_133 {n : Nat} {I : cId} : (wX3 (n + (51 + 8 * 10)) I)[1]? = some (adN n 133, gw_e (adN n) (dAI I) (s0 133) 133 (.inl (.int, 8))) := rfl
theorem pj_133 {n : Nat} {I : cId} : pj n I 133 := by
  unfold pj
  rw [gk_133]
  exact (w2_c (i := 10) (j := 1) (by decide) (by decide)).trans ps_133
theorem pt_133 {I : cId} : pt I 133 := fun q h => by
  rw [gk_133] at h
  cases h
  exact ⟨0, rfl⟩
set_option maxRecDepth 20000 in
theorem ps_134 {n : Nat} {I : cId} : (wX3 (n + (51 + 8 * 10)) I)[2]? = some (adN n 134, gw_e (adN n) (dAI I) (s0 134) 134 (.inl (.int, 8))) := rfl
theorem pj_134 {n : Nat} {I : cId} : pj n I 134 := by
  unfold pj
  rw [gk_134]
  exact (w2_c (i := 10) (j := 2) (by decide) (by decide)).trans ps_134
theorem pt_134 {I : cId} : pt I 134 := fun q h => by
  rw [gk_134] at h
  cases h
  exact ⟨0, rfl⟩
set_option maxRecDepth 20000 in
theorem ps_135 {n : Nat} {I : cId} : (wX3 (n + (51 + 8 * 10)) I)[3]? = some (adN n 135, gw_e (adN n) (dAI I) (s0 135) 135 (.inl (.int, 8))) := rfl
theorem pj_135 {n : Nat} {I : cId} : pj n I 135 := by
  unfold pj
  rw [gk_135]
  exact (w2_c (i := 10) (j := 3) (by decide) (by decide)).trans ps_135
theorem pt_135 {I : cId} : pt I 135 := fun q h => by
  rw [gk_135] at h
  cases h
  exact ⟨0, rfl⟩
set_option maxRecDepth 20000 in
theorem ps_136 {n : Nat} {I : cId} : (wX3 (n + (51 + 8 * 10)) I)[4]? = some (adN n 136, gw_e (adN n) (dAI I) (s0 136) 136 (.inl (.int, 8))) := rfl
theorem pj_136 {n : Nat} {I : cId} : pj n I 136 := by
  unfold pj
  rw [gk_136]
  exact (w2_c (i := 10) (j := 4) (by decide) (by decide)).trans ps_136
theorem pt_136 {I : cId} : pt I 136 := fun q h => by
  rw [gk_136] at h
  cases h
  exact ⟨0, rfl⟩
set_option maxRecDepth 20000 in
theorem ps_137 {n : Nat} {I : cId} : (wX3 (n + (51 + 8 * 10)) I)[5]? = some (adN n 137, gw_e (adN n) (dAI I) (s0 137) 137 (.inl (.int, 8))) := rfl
theorem pj_137 {n : Nat} {I : cId} : pj n I 137 := by
  unfold pj
  rw [gk_137]
  exact (w2_c (i := 10) (j := 5) (by decide) (by decide)).trans ps_137
theorem pt_137 {I : cId} : pt I 137 := fun q h => by
  rw [gk_137] at h
  cases h
  exact ⟨0, rfl⟩
set_option maxRecDepth 20000 in
theorem ps_138 {n : Nat} {I : cId} : (wX3 (n + (51 + 8 * 10)) I)[6]? = some (adN n 138, gw_e (adN n) (dAI I) (s0 138) 138 (.inl (.int, 8))) := rfl
theorem pj_138 {n : Nat} {I : cId} : pj n I 138 := by
  unfold pj
  rw [gk_138]
  exact (w2_c (i := 10) (j := 6) (by decide) (by decide)).trans ps_138
theorem pt_138 {I : cId} : pt I 138 := fun q h => by
  rw [gk_138] at h
  cases h
  exact ⟨0, rfl⟩
set_option maxRecDepth 20000 in
theorem ps_139 {n : Nat} {I : cId} : (wX3 (n + (51 + 8 * 10)) I)[7]? = some (adN n 139, gw_e (adN n) (dAI I) (s0 139) 139 (.inl (.int, 8))) := rfl
theorem pj_139 {n : Nat} {I : cId} : pj n I 139 := by
  unfold pj
  rw [gk_139]
  exact (w2_c (i := 10) (j := 7) (by decide) (by decide)).trans ps_139
theorem pt_139 {I : cId} : pt I 139 := fun q h => by
  rw [gk_139] at h
  cases h
  exact ⟨0, rfl⟩
set_option maxRecDepth 20000 in
theorem ps_140 {n : Nat} {I : cId} : (wX9 (n + 139) I)[1]? = some (adN n 140, gw_e (adN n) (dAI I) (s0 140) 140 (.inl (.int, 2))) := rfl
theorem pj_140 {n : Nat} {I : cId} : pj n I 140 := by
  unfold pj
  rw [gk_140]
  exact (w2_d (j := 1)).trans ps_140
theorem pt_140 {I : cId} : pt I 140 := fun q h => by
  rw [gk_140] at h
  cases h
  exact ⟨0, rfl⟩
set_option maxRecDepth 20000 in
theorem ps_141 {n : Nat} {I : cId} : (wX9 (n + 139) I)[2]? = some (adN n 141, gw_e (adN n) (dAI I) (s0 141) 141 (.inl (.int, 94))) := rfl
theorem pj_141 {n : Nat} {I : cId} : pj n I 141 := by
  unfold pj
  rw [gk_141]
  exact (w2_d (j := 2)).trans ps_141
theorem pt_141 {I : cId} : pt I 141 := fun q h => by
  rw [gk_141] at h
  cases h
  exact ⟨0, rfl⟩
set_option maxRecDepth 20000 in
theorem ps_142 {n : Nat} {I : cId} : (wX9 (n + 139) I)[3]? = some (adN n 142, gw_e (adN n) (dAI I) (s0 142) 142 (.inl (.int, 9))) := rfl
theorem pj_142 {n : Nat} {I : cId} : pj n I 142 := by
  unfold pj
  rw [gk_142]
  exact (w2_d (j := 3)).trans ps_142
theorem pt_142 {I : cId} : pt I 142 := fun q h => by
  rw [gk_142] at h
  cases h
  exact ⟨0, rfl⟩
set_option maxRecDepth 20000 in
theorem ps_143 {n : Nat} {I : cId} : (wX9 (n + 139) I)[4]? = some (adN n 143, gw_e (adN n) (dAI I) (s0 143) 143 (.inl (.int, 9))) := rfl
theorem pj_143 {n : Nat} {I : cId} : pj n I 143 := by
  unfold pj
  rw [gk_143]
  exact (w2_d (j := 4)).trans ps_143
theorem pt_143 {I : cId} : pt I 143 := fun q h => by
  rw [gk_143] at h
  cases h
  exact ⟨0, rfl⟩
set_option maxRecDepth 20000 in
theorem ps_144 {n : Nat} {I : cId} : (wX9 (n + 139) I)[5]? = some (adN n 144, gw_e (adN n) (dAI I) (s0 144) 144 (.inl (.int, 9))) := rfl
theorem pj_144 {n : Nat} {I : cId} : pj n I 144 := by
  unfold pj
  rw [gk_144]
  exact (w2_d (j := 5)).trans ps_144
theorem pt_144 {I : cId} : pt I 144 := fun q h => by
  rw [gk_144] at h
  cases h
  exact ⟨0, rfl⟩
set_option maxRecDepth 20000 in
theorem ps_145 {n : Nat} {I : cId} : (wX9 (n + 139) I)[6]? = some (adN n 145, gw_e (adN n) (dAI I) (s0 145) 145 (.inl (.int, 9))) := rfl
theorem pj_145 {n : Nat} {I : cId} : pj n I 145 := by
  unfold pj
  rw [gk_145]
  exact (w2_d (j := 6)).trans ps_145
theorem pt_145 {I : cId} : pt I 145 := fun q h => by
  rw [gk_145] at h
  cases h
  exact ⟨0, rfl⟩
set_option maxRecDepth 20000 in
theorem ps_146 {n : Nat} {I : cId} : (wX9 (n + 139) I)[7]? = some (adN n 146, gw_e (adN n) (dAI I) (s0 146) 146 (.inl (.int, 8))) := rfl
theorem pj_146 {n : Nat} {I : cId} : pj n I 146 := by
  unfold pj
  rw [gk_146]
  exact (w2_d (j := 7)).trans ps_146
theorem pt_146 {I : cId} : pt I 146 := fun q h => by
  rw [gk_146] at h
  cases h
  exact ⟨0, rfl⟩
set_option maxRecDepth 20000 in
theorem ps_147 {n : Nat} {I : cId} : (wX9 (n + 139) I)[8]? = some (adN n 147, gw_e (adN n) (dAI I) (s0 147) 147 (.inl (.int, 8))) := rfl
theorem pj_147 {n : Nat} {I : cId} : pj n I 147 := by
  unfold pj
  rw [gk_147]
  exact (w2_d (j := 8)).trans ps_147
theorem pt_147 {I : cId} : pt I 147 := fun q h => by
  rw [gk_147] at h
  cases h
  exact ⟨0, rfl⟩
set_option maxRecDepth 20000 in
theorem ps_148 {n : Nat} {I : cId} : (wX9 (n + 139) I)[9]? = some (adN n 148, gw_e (adN n) (dAI I) (s0 148) 148 (.inl (.int, 16))) := rfl
theorem pj_148 {n : Nat} {I : cId} : pj n I 148 := by
  unfold pj
  rw [gk_148]
  exact (w2_d (j := 9)).trans ps_148
theorem pt_148 {I : cId} : pt I 148 := fun q h => by
  rw [gk_148] at h
  cases h
  exact ⟨0, rfl⟩
set_option maxRecDepth 20000 in
theorem ps_149 {n : Nat} {I : cId} : (wX9 (n + 139) I)[10]? = some (adN n 149, gw_e (adN n) (dAI I) (s0 149) 149 (.inl (.int, 16))) := rfl
theorem pj_149 {n : Nat} {I : cId} : pj n I 149 := by
  unfold pj
  rw [gk_149]
  exact (w2_d (j := 10)).trans ps_149
theorem pt_149 {I : cId} : pt I 149 := fun q h => by
  rw [gk_149] at h
  cases h
  exact ⟨0, rfl⟩
set_option maxRecDepth 20000 in
theorem ps_150 {n : Nat} {I : cId} : (wX9 (n + 139) I)[11]? = some (adN n 150, gw_e (adN n) (dAI I) (s0 150) 150 (.inl (.int, 16))) := rfl
theorem pj_150 {n : Nat} {I : cId} : pj n I 150 := by
  unfold pj
  rw [gk_150]
  exact (w2_d (j := 11)).trans ps_150
theorem pt_150 {I : cId} : pt I 150 := fun q h => by
  rw [gk_150] at h
  cases h
  exact ⟨0, rfl⟩
set_option maxRecDepth 20000 in
theorem ps_151 {n : Nat} {I : cId} : (wX9 (n + 139) I)[12]? = some (adN n 151, gw_e (adN n) (dAI I) (s0 151) 151 (.inl (.int, 16))) := rfl
theorem pj_151 {n : Nat} {I : cId} : pj n I 151 := by
  unfold pj
  rw [gk_151]
  exact (w2_d (j := 12)).trans ps_151
theorem pt_151 {I : cId} : pt I 151 := fun q h => by
  rw [gk_151] at h
  cases h
  exact ⟨0, rfl⟩
set_option maxRecDepth 20000 in
theorem ps_152 {n : Nat} {I : cId} : (wX9 (n + 139) I)[13]? = some (adN n 152, gw_e (adN n) (dAI I) (s0 152) 152 (.inl (.int, 3))) := rfl
theorem pj_152 {n : Nat} {I : cId} : pj n I 152 := by
  unfold pj
  rw [gk_152]
  exact (w2_d (j := 13)).trans ps_152
theorem pt_152 {I : cId} : pt I 152 := fun q h => by
  rw [gk_152] at h
  cases h
  exact ⟨0, rfl⟩
set_option maxRecDepth 20000 in
theorem ps_153 {n : Nat} {I : cId} : (wX9 (n + 139) I)[14]? = some (adN n 153, gw_e (adN n) (dAI I) (s0 153) 153 (.inl (.int, 40))) := rfl
theorem pj_153 {n : Nat} {I : cId} : pj n I 153 := by
  unfold pj
  rw [gk_153]
  exact (w2_d (j := 14)).trans ps_153
theorem pt_153 {I : cId} : pt I 153 := fun q h => by
  rw [gk_153] at h
  cases h
  exact ⟨0, rfl⟩
set_option maxRecDepth 20000 in
theorem ps_154 {n : Nat} {I : cId} : (wX9 (n + 139) I)[15]? = some (adN n 154, gw_e (adN n) (dAI I) (s0 154) 154 (.inl (.int, 40))) := rfl
theorem pj_154 {n : Nat} {I : cId} : pj n I 154 := by
  unfold pj
  rw [gk_154]
  exact (w2_d (j := 15)).trans ps_154
theorem pt_154 {I : cId} : pt I 154 := fun q h => by
  rw [gk_154] at h
  cases h
  exact ⟨0, rfl⟩
set_option maxRecDepth 20000 in
theorem ps_155 {n : Nat} {I : cId} : (wX9 (n + 139) I)[16]? = some (adN n 155, gw_e (adN n) (dAI I) (s0 155) 155 (.inl (.int, 64))) := rfl
theorem pj_155 {n : Nat} {I : cId} : pj n I 155 := by
  unfold pj
  rw [gk_155]
  exact (w2_d (j := 16)).trans ps_155
theorem pt_155 {I : cId} : pt I 155 := fun q h => by
  rw [gk_155] at h
  cases h
  exact ⟨0, rfl⟩
set_option maxRecDepth 20000 in
theorem ps_156 {n : Nat} {I : cId} : (wX9 (n + 139) I)[17]? = some (adN n 156, gw_e (adN n) (dAI I) (s0 156) 156 (.inl (.int, 8))) := rfl
theorem pj_156 {n : Nat} {I : cId} : pj n I 156 := by
  unfold pj
  rw [gk_156]
  exact (w2_d (j := 17)).trans ps_156
theorem pt_156 {I : cId} : pt I 156 := fun q h => by
  rw [gk_156] at h
  cases h
  exact ⟨0, rfl⟩
set_option maxRecDepth 20000 in
theorem ps_157 {n : Nat} {I : cId} : (wX9 (n + 139) I)[18]? = some (adN n 157, gw_e (adN n) (dAI I) (s0 157) 157 (.inl (.int, 8))) := rfl
theorem pj_157 {n : Nat} {I : cId} : pj n I 157 := by
  unfold pj
  rw [gk_157]
  exact (w2_d (j := 18)).trans ps_157
theorem pt_157 {I : cId} : pt I 157 := fun q h => by
  rw [gk_157] at h
  cases h
  exact ⟨0, rfl⟩
set_option maxRecDepth 20000 in
theorem ps_158 {n : Nat} {I : cId} : (wX9 (n + 139) I)[19]? = some (adN n 158, gw_e (adN n) (dAI I) (s0 158) 158 (.inl (.boolean, 8))) := rfl
theorem pj_158 {n : Nat} {I : cId} : pj n I 158 := by
  unfold pj
  rw [gk_158]
  exact (w2_d (j := 19)).trans ps_158
theorem pt_158 {I : cId} : pt I 158 := fun q h => by
  rw [gk_158] at h
  cases h
  exact ⟨1, rfl⟩
set_option maxRecDepth 20000 in
theorem ps_159 {n : Nat} {I : cId} : (wX9 (n + 139) I)[20]? = some (adN n 159, gw_e (adN n) (dAI I) (s0 159) 159 (.inl (.boolean, 40))) := rfl
theorem pj_159 {n : Nat} {I : cId} : pj n I 159 := by
  unfold pj
  rw [gk_159]
  exact (w2_d (j := 20)).trans ps_159
theorem pt_159 {I : cId} : pt I 159 := fun q h => by
  rw [gk_159] at h
  cases h
  exact ⟨1, rfl⟩
set_option maxRecDepth 20000 in
theorem ps_160 {n : Nat} {I : cId} : (wX9 (n + 139) I)[21]? = some (adN n 160, gw_e (adN n) (dAI I) (s0 160) 160 (.inl (.boolean, 16))) := rfl
theorem pj_160 {n : Nat} {I : cId} : pj n I 160 := by
  unfold pj
  rw [gk_160]
  exact (w2_d (j := 21)).trans ps_160
theorem pt_160 {I : cId} : pt I 160 := fun q h => by
  rw [gk_160] at h
  cases h
  exact ⟨1, rfl⟩
set_option maxRecDepth 20000 in
theorem ps_161 {n : Nat} {I : cId} : (wX9 (n + 139) I)[22]? = some (adN n 161, gw_e (adN n) (dAI I) (s0 161) 161 (.inl (.int, 8))) := rfl
theorem pj_161 {n : Nat} {I : cId} : pj n I 161 := by
  unfold pj
  rw [gk_161]
  exact (w2_d (j := 22)).trans ps_161
theorem pt_161 {I : cId} : pt I 161 := fun q h => by
  rw [gk_161] at h
  cases h
  exact ⟨0, rfl⟩
set_option maxRecDepth 20000 in
theorem ps_162 {n : Nat} {I : cId} : (wX9 (n + 139) I)[23]? = some (adN n 162, gw_e (adN n) (dAI I) (s0 162) 162 (.inl (.int, 8))) := rfl
theorem pj_162 {n : Nat} {I : cId} : pj n I 162 := by
  unfold pj
  rw [gk_162]
  exact (w2_d (j := 23)).trans ps_162
theorem pt_162 {I : cId} : pt I 162 := fun q h => by
  rw [gk_162] at h
  cases h
  exact ⟨0, rfl⟩
set_option maxRecDepth 20000 in
theorem ps_163 {n : Nat} {I : cId} : (wX9 (n + 139) I)[24]? = some (adN n 163, gw_e (adN n) (dAI I) (s0 163) 163 (.inl (.int, 2304))) := rfl
theorem pj_163 {n : Nat} {I : cId} : pj n I 163 := by
  unfold pj
  rw [gk_163]
  exact (w2_d (j := 24)).trans ps_163
theorem pt_163 {I : cId} : pt I 163 := fun q h => by
  rw [gk_163] at h
  cases h
  exact ⟨0, rfl⟩
set_option maxRecDepth 20000 in
theorem ps_164 {n : Nat} {I : cId} : (wX9 (n + 139) I)[25]? = some (adN n 164, gw_e (adN n) (dAI I) (s0 164) 164 (.inl (.int, 8))) := rfl
theorem pj_164 {n : Nat} {I : cId} : pj n I 164 := by
  unfold pj
  rw [gk_164]
  exact (w2_d (j := 25)).trans ps_164
theorem pt_164 {I : cId} : pt I 164 := fun q h => by
  rw [gk_164] at h
  cases h
  exact ⟨0, rfl⟩
set_option maxRecDepth 20000 in
theorem ps_165 {n : Nat} {I : cId} : (wX9 (n + 139) I)[26]? = some (adN n 165, gw_e (adN n) (dAI I) (s0 165) 165 (.inl (.int, 8))) := rfl
theorem pj_165 {n : Nat} {I : cId} : pj n I 165 := by
  unfold pj
  rw [gk_165]
  exact (w2_d (j := 26)).trans ps_165
theorem pt_165 {I : cId} : pt I 165 := fun q h => by
  rw [gk_165] at h
  cases h
  exact ⟨0, rfl⟩
set_option maxRecDepth 20000 in
theorem ps_166 {n : Nat} {I : cId} : (wX9 (n + 139) I)[27]? = some (adN n 166, gw_e (adN n) (dAI I) (s0 166) 166 (.inl (.int, 8))) := rfl
theorem pj_166 {n : Nat} {I : cId} : pj n I 166 := by
  unfold pj
  rw [gk_166]
  exact (w2_d (j := 27)).trans ps_166
theorem pt_166 {I : cId} : pt I 166 := fun q h => by
  rw [gk_166] at h
  cases h
  exact ⟨0, rfl⟩
set_option maxRecDepth 20000 in
theorem ps_167 {n : Nat} {I : cId} : (wX9 (n + 139) I)[28]? = some (adN n 167, gw_e (adN n) (dAI I) (s0 167) 167 (.inl (.int, 128))) := rfl
theorem pj_167 {n : Nat} {I : cId} : pj n I 167 := by
  unfold pj
  rw [gk_167]
  exact (w2_d (j := 28)).trans ps_167
theorem pt_167 {I : cId} : pt I 167 := fun q h => by
  rw [gk_167] at h
  cases h
  exact ⟨0, rfl⟩
set_option maxRecDepth 20000 in
theorem ps_168 {n : Nat} {I : cId} : (wX9 (n + 139) I)[29]? = some (adN n 168, gw_e (adN n) (dAI I) (s0 168) 168 (.inl (.boolean, 4))) := rfl
theorem pj_168 {n : Nat} {I : cId} : pj n I 168 := by
  unfold pj
  rw [gk_168]
  exact (w2_d (j := 29)).trans ps_168
theorem pt_168 {I : cId} : pt I 168 := fun q h => by
  rw [gk_168] at h
  cases h
  exact ⟨1, rfl⟩
set_option maxRecDepth 20000 in
theorem ps_169 {n : Nat} {I : cId} : (wX9 (n + 139) I)[30]? = some (adN n 169, gw_e (adN n) (dAI I) (s0 169) 169 (.inl (.int, 4))) := rfl
theorem pj_169 {n : Nat} {I : cId} : pj n I 169 := by
  unfold pj
  rw [gk_169]
  exact (w2_d (j := 30)).trans ps_169
theorem pt_169 {I : cId} : pt I 169 := fun q h => by
  rw [gk_169] at h
  cases h
  exact ⟨0, rfl⟩
set_option maxRecDepth 20000 in
theorem ps_170 {n : Nat} {I : cId} : (wX9 (n + 139) I)[31]? = some (adN n 170, gw_e (adN n) (dAI I) (s0 170) 170 (.inl (.int, 4))) := rfl
theorem pj_170 {n : Nat} {I : cId} : pj n I 170 := by
  unfold pj
  rw [gk_170]
  exact (w2_d (j := 31)).trans ps_170
theorem pt_170 {I : cId} : pt I 170 := fun q h => by
  rw [gk_170] at h
  cases h
  exact ⟨0, rfl⟩
set_option maxRecDepth 20000 in
theorem ps_171 {n : Nat} {I : cId} : (wX9 (n + 139) I)[32]? = some (adN n 171, gw_e (adN n) (dAI I) (s0 171) 171 (.inl (.int, 240))) := rfl
theorem pj_171 {n : Nat} {I : cId} : pj n I 171 := by
  unfold pj
  rw [gk_171]
  exact (w2_d (j := 32)).trans ps_171
theorem pt_171 {I : cId} : pt I 171 := fun q h => by
  rw [gk_171] at h
  cases h
  exact ⟨0, rfl⟩
set_option maxRecDepth 20000 in
theorem ps_172 {n : Nat} {I : cId} : (wX9 (n + 139) I)[33]? = some (adN n 172, gw_e (adN n) (dAI I) (s0 172) 172 (.inl (.int, 60))) := rfl
theorem pj_172 {n : Nat} {I : cId} : pj n I 172 := by
  unfold pj
  rw [gk_172]
  exact (w2_d (j := 33)).trans ps_172
theorem pt_172 {I : cId} : pt I 172 := fun q h => by
  rw [gk_172] at h
  cases h
  exact ⟨0, rfl⟩
theorem pa_0 {n : Nat} {I : cId} : ∀ j, j < 1 → pj n I j ∧ pt I j := fun j h => by
  have : j = 0 := by omega
  subst this
  exact ⟨pj_0, pt_0⟩
theorem pa_1 {n : Nat} {I : cId} : ∀ j, j < 2 → pj n I j ∧ pt I j := fun j h => (Nat.lt_succ_iff_lt_or_eq.mp h).elim (pa_0 j) (fun e => e ▸ ⟨pj_1, pt_1⟩)
theorem pa_2 {n : Nat} {I : cId} : ∀ j, j < 3 → pj n I j ∧ pt I j := fun j h => (Nat.lt_succ_iff_lt_or_eq.mp h).elim (pa_1 j) (fun e => e ▸ ⟨pj_2, pt_2⟩)
theorem pa_3 {n : Nat} {I : cId} : ∀ j, j < 4 → pj n I j ∧ pt I j := fun j h => (Nat.lt_succ_iff_lt_or_eq.mp h).elim (pa_2 j) (fun e => e ▸ ⟨pj_3, pt_3⟩)
theorem pa_4 {n : Nat} {I : cId} : ∀ j, j < 5 → pj n I j ∧ pt I j := fun j h => (Nat.lt_succ_iff_lt_or_eq.mp h).elim (pa_3 j) (fun e => e ▸ ⟨pj_4, pt_4⟩)
theorem pa_5 {n : Nat} {I : cId} : ∀ j, j < 6 → pj n I j ∧ pt I j := fun j h => (Nat.lt_succ_iff_lt_or_eq.mp h).elim (pa_4 j) (fun e => e ▸ ⟨pj_5, pt_5⟩)
theorem pa_6 {n : Nat} {I : cId} : ∀ j, j < 7 → pj n I j ∧ pt I j := fun j h => (Nat.lt_succ_iff_lt_or_eq.mp h).elim (pa_5 j) (fun e => e ▸ ⟨pj_6, pt_6⟩)
theorem pa_7 {n : Nat} {I : cId} : ∀ j, j < 8 → pj n I j ∧ pt I j := fun j h => (Nat.lt_succ_iff_lt_or_eq.mp h).elim (pa_6 j) (fun e => e ▸ ⟨pj_7, pt_7⟩)
theorem pa_8 {n : Nat} {I : cId} : ∀ j, j < 9 → pj n I j ∧ pt I j := fun j h => (Nat.lt_succ_iff_lt_or_eq.mp h).elim (pa_7 j) (fun e => e ▸ ⟨pj_8, pt_8⟩)
theorem pa_9 {n : Nat} {I : cId} : ∀ j, j < 10 → pj n I j ∧ pt I j := fun j h => (Nat.lt_succ_iff_lt_or_eq.mp h).elim (pa_8 j) (fun e => e ▸ ⟨pj_9, pt_9⟩)
theorem pa_10 {n : Nat} {I : cId} : ∀ j, j < 11 → pj n I j ∧ pt I j := fun j h => (Nat.lt_succ_iff_lt_or_eq.mp h).elim (pa_9 j) (fun e => e ▸ ⟨pj_10, pt_10⟩)
theorem pa_11 {n : Nat} {I : cId} : ∀ j, j < 12 → pj n I j ∧ pt I j := fun j h => (Nat.lt_succ_iff_lt_or_eq.mp h).elim (pa_10 j) (fun e => e ▸ ⟨pj_11, pt_11⟩)
theorem pa_12 {n : Nat} {I : cId} : ∀ j, j < 13 → pj n I j ∧ pt I j := fun j h => (Nat.lt_succ_iff_lt_or_eq.mp h).elim (pa_11 j) (fun e => e ▸ ⟨pj_12, pt_12⟩)
theorem pa_13 {n : Nat} {I : cId} : ∀ j, j < 14 → pj n I j ∧ pt I j := fun j h => (Nat.lt_succ_iff_lt_or_eq.mp h).elim (pa_12 j) (fun e => e ▸ ⟨pj_13, pt_13⟩)
theorem pa_14 {n : Nat} {I : cId} : ∀ j, j < 15 → pj n I j ∧ pt I j := fun j h => (Nat.lt_succ_iff_lt_or_eq.mp h).elim (pa_13 j) (fun e => e ▸ ⟨pj_14, pt_14⟩)
theorem pa_15 {n : Nat} {I : cId} : ∀ j, j < 16 → pj n I j ∧ pt I j := fun j h => (Nat.lt_succ_iff_lt_or_eq.mp h).elim (pa_14 j) (fun e => e ▸ ⟨pj_15, pt_15⟩)
theorem pa_16 {n : Nat} {I : cId} : ∀ j, j < 17 → pj n I j ∧ pt I j := fun j h => (Nat.lt_succ_iff_lt_or_eq.mp h).elim (pa_15 j) (fun e => e ▸ ⟨pj_16, pt_16⟩)
theorem pa_17 {n : Nat} {I : cId} : ∀ j, j < 18 → pj n I j ∧ pt I j := fun j h => (Nat.lt_succ_iff_lt_or_eq.mp h).elim (pa_16 j) (fun e => e ▸ ⟨pj_17, pt_17⟩)
theorem pa_18 {n : Nat} {I : cId} : ∀ j, j < 19 → pj n I j ∧ pt I j := fun j h => (Nat.lt_succ_iff_lt_or_eq.mp h).elim (pa_17 j) (fun e => e ▸ ⟨pj_18, pt_18⟩)
theorem pa_19 {n : Nat} {I : cId} : ∀ j, j < 20 → pj n I j ∧ pt I j := fun j h => (Nat.lt_succ_iff_lt_or_eq.mp h).elim (pa_18 j) (fun e => e ▸ ⟨pj_19, pt_19⟩)
theorem pa_20 {n : Nat} {I : cId} : ∀ j, j < 21 → pj n I j ∧ pt I j := fun j h => (Nat.lt_succ_iff_lt_or_eq.mp h).elim (pa_19 j) (fun e => e ▸ ⟨pj_20, pt_20⟩)
theorem pa_21 {n : Nat} {I : cId} : ∀ j, j < 22 → pj n I j ∧ pt I j := fun j h => (Nat.lt_succ_iff_lt_or_eq.mp h).elim (pa_20 j) (fun e => e ▸ ⟨pj_21, pt_21⟩)
theorem pa_22 {n : Nat} {I : cId} : ∀ j, j < 23 → pj n I j ∧ pt I j := fun j h => (Nat.lt_succ_iff_lt_or_eq.mp h).elim (pa_21 j) (fun e => e ▸ ⟨pj_22, pt_22⟩)
theorem pa_23 {n : Nat} {I : cId} : ∀ j, j < 24 → pj n I j ∧ pt I j := fun j h => (Nat.lt_succ_iff_lt_or_eq.mp h).elim (pa_22 j) (fun e => e ▸ ⟨pj_23, pt_23⟩)
theorem pa_24 {n : Nat} {I : cId} : ∀ j, j < 25 → pj n I j ∧ pt I j := fun j h => (Nat.lt_succ_iff_lt_or_eq.mp h).elim (pa_23 j) (fun e => e ▸ ⟨pj_24, pt_24⟩)
theorem pa_25 {n : Nat} {I : cId} : ∀ j, j < 26 → pj n I j ∧ pt I j := fun j h => (Nat.lt_succ_iff_lt_or_eq.mp h).elim (pa_24 j) (fun e => e ▸ ⟨pj_25, pt_25⟩)
theorem pa_26 {n : Nat} {I : cId} : ∀ j, j < 27 → pj n I j ∧ pt I j := fun j h => (Nat.lt_succ_iff_lt_or_eq.mp h).elim (pa_25 j) (fun e => e ▸ ⟨pj_26, pt_26⟩)
theorem pa_27 {n : Nat} {I : cId} : ∀ j, j < 28 → pj n I j ∧ pt I j := fun j h => (Nat.lt_succ_iff_lt_or_eq.mp h).elim (pa_26 j) (fun e => e ▸ ⟨pj_27, pt_27⟩)
theorem pa_28 {n : Nat} {I : cId} : ∀ j, j < 29 → pj n I j ∧ pt I j := fun j h => (Nat.lt_succ_iff_lt_or_eq.mp h).elim (pa_27 j) (fun e => e ▸ ⟨pj_28, pt_28⟩)
theorem pa_29 {n : Nat} {I : cId} : ∀ j, j < 30 → pj n I j ∧ pt I j := fun j h => (Nat.lt_succ_iff_lt_or_eq.mp h).elim (pa_28 j) (fun e => e ▸ ⟨pj_29, pt_29⟩)
theorem pa_30 {n : Nat} {I : cId} : ∀ j, j < 31 → pj n I j ∧ pt I j := fun j h => (Nat.lt_succ_iff_lt_or_eq.mp h).elim (pa_29 j) (fun e => e ▸ ⟨pj_30, pt_30⟩)
theorem pa_31 {n : Nat} {I : cId} : ∀ j, j < 32 → pj n I j ∧ pt I j := fun j h => (Nat.lt_succ_iff_lt_or_eq.mp h).elim (pa_30 j) (fun e => e ▸ ⟨pj_31, pt_31⟩)
theorem pa_32 {n : Nat} {I : cId} : ∀ j, j < 33 → pj n I j ∧ pt I j := fun j h => (Nat.lt_succ_iff_lt_or_eq.mp h).elim (pa_31 j) (fun e => e ▸ ⟨pj_32, pt_32⟩)
theorem pa_33 {n : Nat} {I : cId} : ∀ j, j < 34 → pj n I j ∧ pt I j := fun j h => (Nat.lt_succ_iff_lt_or_eq.mp h).elim (pa_32 j) (fun e => e ▸ ⟨pj_33, pt_33⟩)
theorem pa_34 {n : Nat} {I : cId} : ∀ j, j < 35 → pj n I j ∧ pt I j := fun j h => (Nat.lt_succ_iff_lt_or_eq.mp h).elim (pa_33 j) (fun e => e ▸ ⟨pj_34, pt_34⟩)
theorem pa_35 {n : Nat} {I : cId} : ∀ j, j < 36 → pj n I j ∧ pt I j := fun j h => (Nat.lt_succ_iff_lt_or_eq.mp h).elim (pa_34 j) (fun e => e ▸ ⟨pj_35, pt_35⟩)
theorem pa_36 {n : Nat} {I : cId} : ∀ j, j < 37 → pj n I j ∧ pt I j := fun j h => (Nat.lt_succ_iff_lt_or_eq.mp h).elim (pa_35 j) (fun e => e ▸ ⟨pj_36, pt_36⟩)
theorem pa_37 {n : Nat} {I : cId} : ∀ j, j < 38 → pj n I j ∧ pt I j := fun j h => (Nat.lt_succ_iff_lt_or_eq.mp h).elim (pa_36 j) (fun e => e ▸ ⟨pj_37, pt_37⟩)
theorem pa_38 {n : Nat} {I : cId} : ∀ j, j < 39 → pj n I j ∧ pt I j := fun j h => (Nat.lt_succ_iff_lt_or_eq.mp h).elim (pa_37 j) (fun e => e ▸ ⟨pj_38, pt_38⟩)
theorem pa_39 {n : Nat} {I : cId} : ∀ j, j < 40 → pj n I j ∧ pt I j := fun j h => (Nat.lt_succ_iff_lt_or_eq.mp h).elim (pa_38 j) (fun e => e ▸ ⟨pj_39, pt_39⟩)
theorem pa_40 {n : Nat} {I : cId} : ∀ j, j < 41 → pj n I j ∧ pt I j := fun j h => (Nat.lt_succ_iff_lt_or_eq.mp h).elim (pa_39 j) (fun e => e ▸ ⟨pj_40, pt_40⟩)
theorem pa_41 {n : Nat} {I : cId} : ∀ j, j < 42 → pj n I j ∧ pt I j := fun j h => (Nat.lt_succ_iff_lt_or_eq.mp h).elim (pa_40 j) (fun e => e ▸ ⟨pj_41, pt_41⟩)
theorem pa_42 {n : Nat} {I : cId} : ∀ j, j < 43 → pj n I j ∧ pt I j := fun j h => (Nat.lt_succ_iff_lt_or_eq.mp h).elim (pa_41 j) (fun e => e ▸ ⟨pj_42, pt_42⟩)
theorem pa_43 {n : Nat} {I : cId} : ∀ j, j < 44 → pj n I j ∧ pt I j := fun j h => (Nat.lt_succ_iff_lt_or_eq.mp h).elim (pa_42 j) (fun e => e ▸ ⟨pj_43, pt_43⟩)
theorem pa_44 {n : Nat} {I : cId} : ∀ j, j < 45 → pj n I j ∧ pt I j := fun j h => (Nat.lt_succ_iff_lt_or_eq.mp h).elim (pa_43 j) (fun e => e ▸ ⟨pj_44, pt_44⟩)
theorem pa_45 {n : Nat} {I : cId} : ∀ j, j < 46 → pj n I j ∧ pt I j := fun j h => (Nat.lt_succ_iff_lt_or_eq.mp h).elim (pa_44 j) (fun e => e ▸ ⟨pj_45, pt_45⟩)
theorem pa_46 {n : Nat} {I : cId} : ∀ j, j < 47 → pj n I j ∧ pt I j := fun j h => (Nat.lt_succ_iff_lt_or_eq.mp h).elim (pa_45 j) (fun e => e ▸ ⟨pj_46, pt_46⟩)
theorem pa_47 {n : Nat} {I : cId} : ∀ j, j < 48 → pj n I j ∧ pt I j := fun j h => (Nat.lt_succ_iff_lt_or_eq.mp h).elim (pa_46 j) (fun e => e ▸ ⟨pj_47, pt_47⟩)
theorem pa_48 {n : Nat} {I : cId} : ∀ j, j < 49 → pj n I j ∧ pt I j := fun j h => (Nat.lt_succ_iff_lt_or_eq.mp h).elim (pa_47 j) (fun e => e ▸ ⟨pj_48, pt_48⟩)
theorem pa_49 {n : Nat} {I : cId} : ∀ j, j < 50 → pj n I j ∧ pt I j := fun j h => (Nat.lt_succ_iff_lt_or_eq.mp h).elim (pa_48 j) (fun e => e ▸ ⟨pj_49, pt_49⟩)
theorem pa_50 {n : Nat} {I : cId} : ∀ j, j < 51 → pj n I j ∧ pt I j := fun j h => (Nat.lt_succ_iff_lt_or_eq.mp h).elim (pa_49 j) (fun e => e ▸ ⟨pj_50, pt_50⟩)
theorem pa_51 {n : Nat} {I : cId} : ∀ j, j < 52 → pj n I j ∧ pt I j := fun j h => (Nat.lt_succ_iff_lt_or_eq.mp h).elim (pa_50 j) (fun e => e ▸ ⟨pj_51, pt_51⟩)
theorem pa_52 {n : Nat} {I : cId} : ∀ j, j < 53 → pj n I j ∧ pt I j := fun j h => (Nat.lt_succ_iff_lt_or_eq.mp h).elim (pa_51 j) (fun e => e ▸ ⟨pj_52, pt_52⟩)
theorem pa_53 {n : Nat} {I : cId} : ∀ j, j < 54 → pj n I j ∧ pt I j := fun j h => (Nat.lt_succ_iff_lt_or_eq.mp h).elim (pa_52 j) (fun e => e ▸ ⟨pj_53, pt_53⟩)
theorem pa_54 {n : Nat} {I : cId} : ∀ j, j < 55 → pj n I j ∧ pt I j := fun j h => (Nat.lt_succ_iff_lt_or_eq.mp h).elim (pa_53 j) (fun e => e ▸ ⟨pj_54, pt_54⟩)
theorem pa_55 {n : Nat} {I : cId} : ∀ j, j < 56 → pj n I j ∧ pt I j := fun j h => (Nat.lt_succ_iff_lt_or_eq.mp h).elim (pa_54 j) (fun e => e ▸ ⟨pj_55, pt_55⟩)
theorem pa_56 {n : Nat} {I : cId} : ∀ j, j < 57 → pj n I j ∧ pt I j := fun j h => (Nat.lt_succ_iff_lt_or_eq.mp h).elim (pa_55 j) (fun e => e ▸ ⟨pj_56, pt_56⟩)
theorem pa_57 {n : Nat} {I : cId} : ∀ j, j < 58 → pj n I j ∧ pt I j := fun j h => (Nat.lt_succ_iff_lt_or_eq.mp h).elim (pa_56 j) (fun e => e ▸ ⟨pj_57, pt_57⟩)
theorem pa_58 {n : Nat} {I : cId} : ∀ j, j < 59 → pj n I j ∧ pt I j := fun j h => (Nat.lt_succ_iff_lt_or_eq.mp h).elim (pa_57 j) (fun e => e ▸ ⟨pj_58, pt_58⟩)
theorem pa_59 {n : Nat} {I : cId} : ∀ j, j < 60 → pj n I j ∧ pt I j := fun j h => (Nat.lt_succ_iff_lt_or_eq.mp h).elim (pa_58 j) (fun e => e ▸ ⟨pj_59, pt_59⟩)
theorem pa_60 {n : Nat} {I : cId} : ∀ j, j < 61 → pj n I j ∧ pt I j := fun j h => (Nat.lt_succ_iff_lt_or_eq.mp h).elim (pa_59 j) (fun e => e ▸ ⟨pj_60, pt_60⟩)
theorem pa_61 {n : Nat} {I : cId} : ∀ j, j < 62 → pj n I j ∧ pt I j := fun j h => (Nat.lt_succ_iff_lt_or_eq.mp h).elim (pa_60 j) (fun e => e ▸ ⟨pj_61, pt_61⟩)
theorem pa_62 {n : Nat} {I : cId} : ∀ j, j < 63 → pj n I j ∧ pt I j := fun j h => (Nat.lt_succ_iff_lt_or_eq.mp h).elim (pa_61 j) (fun e => e ▸ ⟨pj_62, pt_62⟩)
theorem pa_63 {n : Nat} {I : cId} : ∀ j, j < 64 → pj n I j ∧ pt I j := fun j h => (Nat.lt_succ_iff_lt_or_eq.mp h).elim (pa_62 j) (fun e => e ▸ ⟨pj_63, pt_63⟩)
theorem pa_64 {n : Nat} {I : cId} : ∀ j, j < 65 → pj n I j ∧ pt I j := fun j h => (Nat.lt_succ_iff_lt_or_eq.mp h).elim (pa_63 j) (fun e => e ▸ ⟨pj_64, pt_64⟩)
theorem pa_65 {n : Nat} {I : cId} : ∀ j, j < 66 → pj n I j ∧ pt I j := fun j h => (Nat.lt_succ_iff_lt_or_eq.mp h).elim (pa_64 j) (fun e => e ▸ ⟨pj_65, pt_65⟩)
theorem pa_66 {n : Nat} {I : cId} : ∀ j, j < 67 → pj n I j ∧ pt I j := fun j h => (Nat.lt_succ_iff_lt_or_eq.mp h).elim (pa_65 j) (fun e => e ▸ ⟨pj_66, pt_66⟩)
theorem pa_67 {n : Nat} {I : cId} : ∀ j, j < 68 → pj n I j ∧ pt I j := fun j h => (Nat.lt_succ_iff_lt_or_eq.mp h).elim (pa_66 j) (fun e => e ▸ ⟨pj_67, pt_67⟩)
theorem pa_68 {n : Nat} {I : cId} : ∀ j, j < 69 → pj n I j ∧ pt I j := fun j h => (Nat.lt_succ_iff_lt_or_eq.mp h).elim (pa_67 j) (fun e => e ▸ ⟨pj_68, pt_68⟩)
theorem pa_69 {n : Nat} {I : cId} : ∀ j, j < 70 → pj n I j ∧ pt I j := fun j h => (Nat.lt_succ_iff_lt_or_eq.mp h).elim (pa_68 j) (fun e => e ▸ ⟨pj_69, pt_69⟩)
theorem pa_70 {n : Nat} {I : cId} : ∀ j, j < 71 → pj n I j ∧ pt I j := fun j h => (Nat.lt_succ_iff_lt_or_eq.mp h).elim (pa_69 j) (fun e => e ▸ ⟨pj_70, pt_70⟩)
theorem pa_71 {n : Nat} {I : cId} : ∀ j, j < 72 → pj n I j ∧ pt I j := fun j h => (Nat.lt_succ_iff_lt_or_eq.mp h).elim (pa_70 j) (fun e => e ▸ ⟨pj_71, pt_71⟩)
theorem pa_72 {n : Nat} {I : cId} : ∀ j, j < 73 → pj n I j ∧ pt I j := fun j h => (Nat.lt_succ_iff_lt_or_eq.mp h).elim (pa_71 j) (fun e => e ▸ ⟨pj_72, pt_72⟩)
theorem pa_73 {n : Nat} {I : cId} : ∀ j, j < 74 → pj n I j ∧ pt I j := fun j h => (Nat.lt_succ_iff_lt_or_eq.mp h).elim (pa_72 j) (fun e => e ▸ ⟨pj_73, pt_73⟩)
theorem pa_74 {n : Nat} {I : cId} : ∀ j, j < 75 → pj n I j ∧ pt I j := fun j h => (Nat.lt_succ_iff_lt_or_eq.mp h).elim (pa_73 j) (fun e => e ▸ ⟨pj_74, pt_74⟩)
theorem pa_75 {n : Nat} {I : cId} : ∀ j, j < 76 → pj n I j ∧ pt I j := fun j h => (Nat.lt_succ_iff_lt_or_eq.mp h).elim (pa_74 j) (fun e => e ▸ ⟨pj_75, pt_75⟩)
theorem pa_76 {n : Nat} {I : cId} : ∀ j, j < 77 → pj n I j ∧ pt I j := fun j h => (Nat.lt_succ_iff_lt_or_eq.mp h).elim (pa_75 j) (fun e => e ▸ ⟨pj_76, pt_76⟩)
theorem pa_77 {n : Nat} {I : cId} : ∀ j, j < 78 → pj n I j ∧ pt I j := fun j h => (Nat.lt_succ_iff_lt_or_eq.mp h).elim (pa_76 j) (fun e => e ▸ ⟨pj_77, pt_77⟩)
theorem pa_78 {n : Nat} {I : cId} : ∀ j, j < 79 → pj n I j ∧ pt I j := fun j h => (Nat.lt_succ_iff_lt_or_eq.mp h).elim (pa_77 j) (fun e => e ▸ ⟨pj_78, pt_78⟩)
theorem pa_79 {n : Nat} {I : cId} : ∀ j, j < 80 → pj n I j ∧ pt I j := fun j h => (Nat.lt_succ_iff_lt_or_eq.mp h).elim (pa_78 j) (fun e => e ▸ ⟨pj_79, pt_79⟩)
theorem pa_80 {n : Nat} {I : cId} : ∀ j, j < 81 → pj n I j ∧ pt I j := fun j h => (Nat.lt_succ_iff_lt_or_eq.mp h).elim (pa_79 j) (fun e => e ▸ ⟨pj_80, pt_80⟩)
theorem pa_81 {n : Nat} {I : cId} : ∀ j, j < 82 → pj n I j ∧ pt I j := fun j h => (Nat.lt_succ_iff_lt_or_eq.mp h).elim (pa_80 j) (fun e => e ▸ ⟨pj_81, pt_81⟩)
theorem pa_82 {n : Nat} {I : cId} : ∀ j, j < 83 → pj n I j ∧ pt I j := fun j h => (Nat.lt_succ_iff_lt_or_eq.mp h).elim (pa_81 j) (fun e => e ▸ ⟨pj_82, pt_82⟩)
theorem pa_83 {n : Nat} {I : cId} : ∀ j, j < 84 → pj n I j ∧ pt I j := fun j h => (Nat.lt_succ_iff_lt_or_eq.mp h).elim (pa_82 j) (fun e => e ▸ ⟨pj_83, pt_83⟩)
theorem pa_84 {n : Nat} {I : cId} : ∀ j, j < 85 → pj n I j ∧ pt I j := fun j h => (Nat.lt_succ_iff_lt_or_eq.mp h).elim (pa_83 j) (fun e => e ▸ ⟨pj_84, pt_84⟩)
theorem pa_85 {n : Nat} {I : cId} : ∀ j, j < 86 → pj n I j ∧ pt I j := fun j h => (Nat.lt_succ_iff_lt_or_eq.mp h).elim (pa_84 j) (fun e => e ▸ ⟨pj_85, pt_85⟩)
theorem pa_86 {n : Nat} {I : cId} : ∀ j, j < 87 → pj n I j ∧ pt I j := fun j h => (Nat.lt_succ_iff_lt_or_eq.mp h).elim (pa_85 j) (fun e => e ▸ ⟨pj_86, pt_86⟩)
theorem pa_87 {n : Nat} {I : cId} : ∀ j, j < 88 → pj n I j ∧ pt I j := fun j h => (Nat.lt_succ_iff_lt_or_eq.mp h).elim (pa_86 j) (fun e => e ▸ ⟨pj_87, pt_87⟩)
theorem pa_88 {n : Nat} {I : cId} : ∀ j, j < 89 → pj n I j ∧ pt I j := fun j h => (Nat.lt_succ_iff_lt_or_eq.mp h).elim (pa_87 j) (fun e => e ▸ ⟨pj_88, pt_88⟩)
theorem pa_89 {n : Nat} {I : cId} : ∀ j, j < 90 → pj n I j ∧ pt I j := fun j h => (Nat.lt_succ_iff_lt_or_eq.mp h).elim (pa_88 j) (fun e => e ▸ ⟨pj_89, pt_89⟩)
theorem pa_90 {n : Nat} {I : cId} : ∀ j, j < 91 → pj n I j ∧ pt I j := fun j h => (Nat.lt_succ_iff_lt_or_eq.mp h).elim (pa_89 j) (fun e => e ▸ ⟨pj_90, pt_90⟩)
theorem pa_91 {n : Nat} {I : cId} : ∀ j, j < 92 → pj n I j ∧ pt I j := fun j h => (Nat.lt_succ_iff_lt_or_eq.mp h).elim (pa_90 j) (fun e => e ▸ ⟨pj_91, pt_91⟩)
theorem pa_92 {n : Nat} {I : cId} : ∀ j, j < 93 → pj n I j ∧ pt I j := fun j h => (Nat.lt_succ_iff_lt_or_eq.mp h).elim (pa_91 j) (fun e => e ▸ ⟨pj_92, pt_92⟩)
theorem pa_93 {n : Nat} {I : cId} : ∀ j, j < 94 → pj n I j ∧ pt I j := fun j h => (Nat.lt_succ_iff_lt_or_eq.mp h).elim (pa_92 j) (fun e => e ▸ ⟨pj_93, pt_93⟩)
theorem pa_94 {n : Nat} {I : cId} : ∀ j, j < 95 → pj n I j ∧ pt I j := fun j h => (Nat.lt_succ_iff_lt_or_eq.mp h).elim (pa_93 j) (fun e => e ▸ ⟨pj_94, pt_94⟩)
theorem pa_95 {n : Nat} {I : cId} : ∀ j, j < 96 → pj n I j ∧ pt I j := fun j h => (Nat.lt_succ_iff_lt_or_eq.mp h).elim (pa_94 j) (fun e => e ▸ ⟨pj_95, pt_95⟩)
theorem pa_96 {n : Nat} {I : cId} : ∀ j, j < 97 → pj n I j ∧ pt I j := fun j h => (Nat.lt_succ_iff_lt_or_eq.mp h).elim (pa_95 j) (fun e => e ▸ ⟨pj_96, pt_96⟩)
theorem pa_97 {n : Nat} {I : cId} : ∀ j, j < 98 → pj n I j ∧ pt I j := fun j h => (Nat.lt_succ_iff_lt_or_eq.mp h).elim (pa_96 j) (fun e => e ▸ ⟨pj_97, pt_97⟩)
theorem pa_98 {n : Nat} {I : cId} : ∀ j, j < 99 → pj n I j ∧ pt I j := fun j h => (Nat.lt_succ_iff_lt_or_eq.mp h).elim (pa_97 j) (fun e => e ▸ ⟨pj_98, pt_98⟩)
theorem pa_99 {n : Nat} {I : cId} : ∀ j, j < 100 → pj n I j ∧ pt I j := fun j h => (Nat.lt_succ_iff_lt_or_eq.mp h).elim (pa_98 j) (fun e => e ▸ ⟨pj_99, pt_99⟩)
theorem pa_100 {n : Nat} {I : cId} : ∀ j, j < 101 → pj n I j ∧ pt I j := fun j h => (Nat.lt_succ_iff_lt_or_eq.mp h).elim (pa_99 j) (fun e => e ▸ ⟨pj_100, pt_100⟩)
theorem pa_101 {n : Nat} {I : cId} : ∀ j, j < 102 → pj n I j ∧ pt I j := fun j h => (Nat.lt_succ_iff_lt_or_eq.mp h).elim (pa_100 j) (fun e => e ▸ ⟨pj_101, pt_101⟩)
theorem pa_102 {n : Nat} {I : cId} : ∀ j, j < 103 → pj n I j ∧ pt I j := fun j h => (Nat.lt_succ_iff_lt_or_eq.mp h).elim (pa_101 j) (fun e => e ▸ ⟨pj_102, pt_102⟩)
theorem pa_103 {n : Nat} {I : cId} : ∀ j, j < 104 → pj n I j ∧ pt I j := fun j h => (Nat.lt_succ_iff_lt_or_eq.mp h).elim (pa_102 j) (fun e => e ▸ ⟨pj_103, pt_103⟩)
theorem pa_104 {n : Nat} {I : cId} : ∀ j, j < 105 → pj n I j ∧ pt I j := fun j h => (Nat.lt_succ_iff_lt_or_eq.mp h).elim (pa_103 j) (fun e => e ▸ ⟨pj_104, pt_104⟩)
theorem pa_105 {n : Nat} {I : cId} : ∀ j, j < 106 → pj n I j ∧ pt I j := fun j h => (Nat.lt_succ_iff_lt_or_eq.mp h).elim (pa_104 j) (fun e => e ▸ ⟨pj_105, pt_105⟩)
theorem pa_106 {n : Nat} {I : cId} : ∀ j, j < 107 → pj n I j ∧ pt I j := fun j h => (Nat.lt_succ_iff_lt_or_eq.mp h).elim (pa_105 j) (fun e => e ▸ ⟨pj_106, pt_106⟩)
theorem pa_107 {n : Nat} {I : cId} : ∀ j, j < 108 → pj n I j ∧ pt I j := fun j h => (Nat.lt_succ_iff_lt_or_eq.mp h).elim (pa_106 j) (fun e => e ▸ ⟨pj_107, pt_107⟩)
theorem pa_108 {n : Nat} {I : cId} : ∀ j, j < 109 → pj n I j ∧ pt I j := fun j h => (Nat.lt_succ_iff_lt_or_eq.mp h).elim (pa_107 j) (fun e => e ▸ ⟨pj_108, pt_108⟩)
theorem pa_109 {n : Nat} {I : cId} : ∀ j, j < 110 → pj n I j ∧ pt I j := fun j h => (Nat.lt_succ_iff_lt_or_eq.mp h).elim (pa_108 j) (fun e => e ▸ ⟨pj_109, pt_109⟩)
theorem pa_110 {n : Nat} {I : cId} : ∀ j, j < 111 → pj n I j ∧ pt I j := fun j h => (Nat.lt_succ_iff_lt_or_eq.mp h).elim (pa_109 j) (fun e => e ▸ ⟨pj_110, pt_110⟩)
theorem pa_111 {n : Nat} {I : cId} : ∀ j, j < 112 → pj n I j ∧ pt I j := fun j h => (Nat.lt_succ_iff_lt_or_eq.mp h).elim (pa_110 j) (fun e => e ▸ ⟨pj_111, pt_111⟩)
theorem pa_112 {n : Nat} {I : cId} : ∀ j, j < 113 → pj n I j ∧ pt I j := fun j h => (Nat.lt_succ_iff_lt_or_eq.mp h).elim (pa_111 j) (fun e => e ▸ ⟨pj_112, pt_112⟩)
theorem pa_113 {n : Nat} {I : cId} : ∀ j, j < 114 → pj n I j ∧ pt I j := fun j h => (Nat.lt_succ_iff_lt_or_eq.mp h).elim (pa_112 j) (fun e => e ▸ ⟨pj_113, pt_113⟩)
theorem pa_114 {n : Nat} {I : cId} : ∀ j, j < 115 → pj n I j ∧ pt I j := fun j h => (Nat.lt_succ_iff_lt_or_eq.mp h).elim (pa_113 j) (fun e => e ▸ ⟨pj_114, pt_114⟩)
theorem pa_115 {n : Nat} {I : cId} : ∀ j, j < 116 → pj n I j ∧ pt I j := fun j h => (Nat.lt_succ_iff_lt_or_eq.mp h).elim (pa_114 j) (fun e => e ▸ ⟨pj_115, pt_115⟩)
theorem pa_116 {n : Nat} {I : cId} : ∀ j, j < 117 → pj n I j ∧ pt I j := fun j h => (Nat.lt_succ_iff_lt_or_eq.mp h).elim (pa_115 j) (fun e => e ▸ ⟨pj_116, pt_116⟩)
theorem pa_117 {n : Nat} {I : cId} : ∀ j, j < 118 → pj n I j ∧ pt I j := fun j h => (Nat.lt_succ_iff_lt_or_eq.mp h).elim (pa_116 j) (fun e => e ▸ ⟨pj_117, pt_117⟩)
theorem pa_118 {n : Nat} {I : cId} : ∀ j, j < 119 → pj n I j ∧ pt I j := fun j h => (Nat.lt_succ_iff_lt_or_eq.mp h).elim (pa_117 j) (fun e => e ▸ ⟨pj_118, pt_118⟩)
theorem pa_119 {n : Nat} {I : cId} : ∀ j, j < 120 → pj n I j ∧ pt I j := fun j h => (Nat.lt_succ_iff_lt_or_eq.mp h).elim (pa_118 j) (fun e => e ▸ ⟨pj_119, pt_119⟩)
theorem pa_120 {n : Nat} {I : cId} : ∀ j, j < 121 → pj n I j ∧ pt I j := fun j h => (Nat.lt_succ_iff_lt_or_eq.mp h).elim (pa_119 j) (fun e => e ▸ ⟨pj_120, pt_120⟩)
theorem pa_121 {n : Nat} {I : cId} : ∀ j, j < 122 → pj n I j ∧ pt I j := fun j h => (Nat.lt_succ_iff_lt_or_eq.mp h).elim (pa_120 j) (fun e => e ▸ ⟨pj_121, pt_121⟩)
theorem pa_122 {n : Nat} {I : cId} : ∀ j, j < 123 → pj n I j ∧ pt I j := fun j h => (Nat.lt_succ_iff_lt_or_eq.mp h).elim (pa_121 j) (fun e => e ▸ ⟨pj_122, pt_122⟩)
theorem pa_123 {n : Nat} {I : cId} : ∀ j, j < 124 → pj n I j ∧ pt I j := fun j h => (Nat.lt_succ_iff_lt_or_eq.mp h).elim (pa_122 j) (fun e => e ▸ ⟨pj_123, pt_123⟩)
theorem pa_124 {n : Nat} {I : cId} : ∀ j, j < 125 → pj n I j ∧ pt I j := fun j h => (Nat.lt_succ_iff_lt_or_eq.mp h).elim (pa_123 j) (fun e => e ▸ ⟨pj_124, pt_124⟩)
theorem pa_125 {n : Nat} {I : cId} : ∀ j, j < 126 → pj n I j ∧ pt I j := fun j h => (Nat.lt_succ_iff_lt_or_eq.mp h).elim (pa_124 j) (fun e => e ▸ ⟨pj_125, pt_125⟩)
theorem pa_126 {n : Nat} {I : cId} : ∀ j, j < 127 → pj n I j ∧ pt I j := fun j h => (Nat.lt_succ_iff_lt_or_eq.mp h).elim (pa_125 j) (fun e => e ▸ ⟨pj_126, pt_126⟩)
theorem pa_127 {n : Nat} {I : cId} : ∀ j, j < 128 → pj n I j ∧ pt I j := fun j h => (Nat.lt_succ_iff_lt_or_eq.mp h).elim (pa_126 j) (fun e => e ▸ ⟨pj_127, pt_127⟩)
theorem pa_128 {n : Nat} {I : cId} : ∀ j, j < 129 → pj n I j ∧ pt I j := fun j h => (Nat.lt_succ_iff_lt_or_eq.mp h).elim (pa_127 j) (fun e => e ▸ ⟨pj_128, pt_128⟩)
theorem pa_129 {n : Nat} {I : cId} : ∀ j, j < 130 → pj n I j ∧ pt I j := fun j h => (Nat.lt_succ_iff_lt_or_eq.mp h).elim (pa_128 j) (fun e => e ▸ ⟨pj_129, pt_129⟩)
theorem pa_130 {n : Nat} {I : cId} : ∀ j, j < 131 → pj n I j ∧ pt I j := fun j h => (Nat.lt_succ_iff_lt_or_eq.mp h).elim (pa_129 j) (fun e => e ▸ ⟨pj_130, pt_130⟩)
theorem pa_131 {n : Nat} {I : cId} : ∀ j, j < 132 → pj n I j ∧ pt I j := fun j h => (Nat.lt_succ_iff_lt_or_eq.mp h).elim (pa_130 j) (fun e => e ▸ ⟨pj_131, pt_131⟩)
theorem pa_132 {n : Nat} {I : cId} : ∀ j, j < 133 → pj n I j ∧ pt I j := fun j h => (Nat.lt_succ_iff_lt_or_eq.mp h).elim (pa_131 j) (fun e => e ▸ ⟨pj_132, pt_132⟩)
theorem pa_133 {n : Nat} {I : cId} : ∀ j, j < 134 → pj n I j ∧ pt I j := fun j h => (Nat.lt_succ_iff_lt_or_eq.mp h).elim (pa_132 j) (fun e => e ▸ ⟨pj_133, pt_133⟩)
theorem pa_134 {n : Nat} {I : cId} : ∀ j, j < 135 → pj n I j ∧ pt I j := fun j h => (Nat.lt_succ_iff_lt_or_eq.mp h).elim (pa_133 j) (fun e => e ▸ ⟨pj_134, pt_134⟩)
theorem pa_135 {n : Nat} {I : cId} : ∀ j, j < 136 → pj n I j ∧ pt I j := fun j h => (Nat.lt_succ_iff_lt_or_eq.mp h).elim (pa_134 j) (fun e => e ▸ ⟨pj_135, pt_135⟩)
theorem pa_136 {n : Nat} {I : cId} : ∀ j, j < 137 → pj n I j ∧ pt I j := fun j h => (Nat.lt_succ_iff_lt_or_eq.mp h).elim (pa_135 j) (fun e => e ▸ ⟨pj_136, pt_136⟩)
theorem pa_137 {n : Nat} {I : cId} : ∀ j, j < 138 → pj n I j ∧ pt I j := fun j h => (Nat.lt_succ_iff_lt_or_eq.mp h).elim (pa_136 j) (fun e => e ▸ ⟨pj_137, pt_137⟩)
theorem pa_138 {n : Nat} {I : cId} : ∀ j, j < 139 → pj n I j ∧ pt I j := fun j h => (Nat.lt_succ_iff_lt_or_eq.mp h).elim (pa_137 j) (fun e => e ▸ ⟨pj_138, pt_138⟩)
theorem pa_139 {n : Nat} {I : cId} : ∀ j, j < 140 → pj n I j ∧ pt I j := fun j h => (Nat.lt_succ_iff_lt_or_eq.mp h).elim (pa_138 j) (fun e => e ▸ ⟨pj_139, pt_139⟩)
theorem pa_140 {n : Nat} {I : cId} : ∀ j, j < 141 → pj n I j ∧ pt I j := fun j h => (Nat.lt_succ_iff_lt_or_eq.mp h).elim (pa_139 j) (fun e => e ▸ ⟨pj_140, pt_140⟩)
theorem pa_141 {n : Nat} {I : cId} : ∀ j, j < 142 → pj n I j ∧ pt I j := fun j h => (Nat.lt_succ_iff_lt_or_eq.mp h).elim (pa_140 j) (fun e => e ▸ ⟨pj_141, pt_141⟩)
theorem pa_142 {n : Nat} {I : cId} : ∀ j, j < 143 → pj n I j ∧ pt I j := fun j h => (Nat.lt_succ_iff_lt_or_eq.mp h).elim (pa_141 j) (fun e => e ▸ ⟨pj_142, pt_142⟩)
theorem pa_143 {n : Nat} {I : cId} : ∀ j, j < 144 → pj n I j ∧ pt I j := fun j h => (Nat.lt_succ_iff_lt_or_eq.mp h).elim (pa_142 j) (fun e => e ▸ ⟨pj_143, pt_143⟩)
theorem pa_144 {n : Nat} {I : cId} : ∀ j, j < 145 → pj n I j ∧ pt I j := fun j h => (Nat.lt_succ_iff_lt_or_eq.mp h).elim (pa_143 j) (fun e => e ▸ ⟨pj_144, pt_144⟩)
theorem pa_145 {n : Nat} {I : cId} : ∀ j, j < 146 → pj n I j ∧ pt I j := fun j h => (Nat.lt_succ_iff_lt_or_eq.mp h).elim (pa_144 j) (fun e => e ▸ ⟨pj_145, pt_145⟩)
theorem pa_146 {n : Nat} {I : cId} : ∀ j, j < 147 → pj n I j ∧ pt I j := fun j h => (Nat.lt_succ_iff_lt_or_eq.mp h).elim (pa_145 j) (fun e => e ▸ ⟨pj_146, pt_146⟩)
theorem pa_147 {n : Nat} {I : cId} : ∀ j, j < 148 → pj n I j ∧ pt I j := fun j h => (Nat.lt_succ_iff_lt_or_eq.mp h).elim (pa_146 j) (fun e => e ▸ ⟨pj_147, pt_147⟩)
theorem pa_148 {n : Nat} {I : cId} : ∀ j, j < 149 → pj n I j ∧ pt I j := fun j h => (Nat.lt_succ_iff_lt_or_eq.mp h).elim (pa_147 j) (fun e => e ▸ ⟨pj_148, pt_148⟩)
theorem pa_149 {n : Nat} {I : cId} : ∀ j, j < 150 → pj n I j ∧ pt I j := fun j h => (Nat.lt_succ_iff_lt_or_eq.mp h).elim (pa_148 j) (fun e => e ▸ ⟨pj_149, pt_149⟩)
theorem pa_150 {n : Nat} {I : cId} : ∀ j, j < 151 → pj n I j ∧ pt I j := fun j h => (Nat.lt_succ_iff_lt_or_eq.mp h).elim (pa_149 j) (fun e => e ▸ ⟨pj_150, pt_150⟩)
theorem pa_151 {n : Nat} {I : cId} : ∀ j, j < 152 → pj n I j ∧ pt I j := fun j h => (Nat.lt_succ_iff_lt_or_eq.mp h).elim (pa_150 j) (fun e => e ▸ ⟨pj_151, pt_151⟩)
theorem pa_152 {n : Nat} {I : cId} : ∀ j, j < 153 → pj n I j ∧ pt I j := fun j h => (Nat.lt_succ_iff_lt_or_eq.mp h).elim (pa_151 j) (fun e => e ▸ ⟨pj_152, pt_152⟩)
theorem pa_153 {n : Nat} {I : cId} : ∀ j, j < 154 → pj n I j ∧ pt I j := fun j h => (Nat.lt_succ_iff_lt_or_eq.mp h).elim (pa_152 j) (fun e => e ▸ ⟨pj_153, pt_153⟩)
theorem pa_154 {n : Nat} {I : cId} : ∀ j, j < 155 → pj n I j ∧ pt I j := fun j h => (Nat.lt_succ_iff_lt_or_eq.mp h).elim (pa_153 j) (fun e => e ▸ ⟨pj_154, pt_154⟩)
theorem pa_155 {n : Nat} {I : cId} : ∀ j, j < 156 → pj n I j ∧ pt I j := fun j h => (Nat.lt_succ_iff_lt_or_eq.mp h).elim (pa_154 j) (fun e => e ▸ ⟨pj_155, pt_155⟩)
theorem pa_156 {n : Nat} {I : cId} : ∀ j, j < 157 → pj n I j ∧ pt I j := fun j h => (Nat.lt_succ_iff_lt_or_eq.mp h).elim (pa_155 j) (fun e => e ▸ ⟨pj_156, pt_156⟩)
theorem pa_157 {n : Nat} {I : cId} : ∀ j, j < 158 → pj n I j ∧ pt I j := fun j h => (Nat.lt_succ_iff_lt_or_eq.mp h).elim (pa_156 j) (fun e => e ▸ ⟨pj_157, pt_157⟩)
theorem pa_158 {n : Nat} {I : cId} : ∀ j, j < 159 → pj n I j ∧ pt I j := fun j h => (Nat.lt_succ_iff_lt_or_eq.mp h).elim (pa_157 j) (fun e => e ▸ ⟨pj_158, pt_158⟩)
theorem pa_159 {n : Nat} {I : cId} : ∀ j, j < 160 → pj n I j ∧ pt I j := fun j h => (Nat.lt_succ_iff_lt_or_eq.mp h).elim (pa_158 j) (fun e => e ▸ ⟨pj_159, pt_159⟩)
theorem pa_160 {n : Nat} {I : cId} : ∀ j, j < 161 → pj n I j ∧ pt I j := fun j h => (Nat.lt_succ_iff_lt_or_eq.mp h).elim (pa_159 j) (fun e => e ▸ ⟨pj_160, pt_160⟩)
theorem pa_161 {n : Nat} {I : cId} : ∀ j, j < 162 → pj n I j ∧ pt I j := fun j h => (Nat.lt_succ_iff_lt_or_eq.mp h).elim (pa_160 j) (fun e => e ▸ ⟨pj_161, pt_161⟩)
theorem pa_162 {n : Nat} {I : cId} : ∀ j, j < 163 → pj n I j ∧ pt I j := fun j h => (Nat.lt_succ_iff_lt_or_eq.mp h).elim (pa_161 j) (fun e => e ▸ ⟨pj_162, pt_162⟩)
theorem pa_163 {n : Nat} {I : cId} : ∀ j, j < 164 → pj n I j ∧ pt I j := fun j h => (Nat.lt_succ_iff_lt_or_eq.mp h).elim (pa_162 j) (fun e => e ▸ ⟨pj_163, pt_163⟩)
theorem pa_164 {n : Nat} {I : cId} : ∀ j, j < 165 → pj n I j ∧ pt I j := fun j h => (Nat.lt_succ_iff_lt_or_eq.mp h).elim (pa_163 j) (fun e => e ▸ ⟨pj_164, pt_164⟩)
theorem pa_165 {n : Nat} {I : cId} : ∀ j, j < 166 → pj n I j ∧ pt I j := fun j h => (Nat.lt_succ_iff_lt_or_eq.mp h).elim (pa_164 j) (fun e => e ▸ ⟨pj_165, pt_165⟩)
theorem pa_166 {n : Nat} {I : cId} : ∀ j, j < 167 → pj n I j ∧ pt I j := fun j h => (Nat.lt_succ_iff_lt_or_eq.mp h).elim (pa_165 j) (fun e => e ▸ ⟨pj_166, pt_166⟩)
theorem pa_167 {n : Nat} {I : cId} : ∀ j, j < 168 → pj n I j ∧ pt I j := fun j h => (Nat.lt_succ_iff_lt_or_eq.mp h).elim (pa_166 j) (fun e => e ▸ ⟨pj_167, pt_167⟩)
theorem pa_168 {n : Nat} {I : cId} : ∀ j, j < 169 → pj n I j ∧ pt I j := fun j h => (Nat.lt_succ_iff_lt_or_eq.mp h).elim (pa_167 j) (fun e => e ▸ ⟨pj_168, pt_168⟩)
theorem pa_169 {n : Nat} {I : cId} : ∀ j, j < 170 → pj n I j ∧ pt I j := fun j h => (Nat.lt_succ_iff_lt_or_eq.mp h).elim (pa_168 j) (fun e => e ▸ ⟨pj_169, pt_169⟩)
theorem pa_170 {n : Nat} {I : cId} : ∀ j, j < 171 → pj n I j ∧ pt I j := fun j h => (Nat.lt_succ_iff_lt_or_eq.mp h).elim (pa_169 j) (fun e => e ▸ ⟨pj_170, pt_170⟩)
theorem pa_171 {n : Nat} {I : cId} : ∀ j, j < 172 → pj n I j ∧ pt I j := fun j h => (Nat.lt_succ_iff_lt_or_eq.mp h).elim (pa_170 j) (fun e => e ▸ ⟨pj_171, pt_171⟩)
theorem pa_172 {n : Nat} {I : cId} : ∀ j, j < 173 → pj n I j ∧ pt I j := fun j h => (Nat.lt_succ_iff_lt_or_eq.mp h).elim (pa_171 j) (fun e => e ▸ ⟨pj_172, pt_172⟩)
theorem ofs_inj {i j : Nat} (hi : i < 173) (hj : j < 173) (h : ofs i = ofs j) : i = j := by
  unfold ofs at h
  repeat' split at h
  all_goals omega
theorem gJ0 {n : Nat} : gw_J (adN n) := by
  intro i j hi hj h
  rw [gw_len] at hi hj
  refine ofs_inj hi hj ?_
  have : n + ofs i = n + ofs j := h
  omega
theorem gP0 {D : va_G} {n : Nat} {I : cId} {H : Heap} (h : va_P D vwCl (w2 n I) H) : va_P D vwCl (gw_wl (adN n) (dAI I) s0) H := by
  intro k q hk
  have hl : k < gw_sh.length := by
    have := (List.getElem?_eq_some_iff.mp hk).1
    simpa [gw_wl] using this
  unfold gw_wl at hk
  rw [List.getElem?_map, List.getElem?_range hl] at hk
  cases hk
  rw [gw_len] at hl
  exact h _ _ (pa_172 k hl).1
theorem gF0 {D : va_G} {n : Nat} {I : cId} {U : State} (h : cF D I U) : gw_F D (adN n) (dAI I) U := by
  refine ⟨⟨cTy I, h.1, fun k q hk => (pa_172 (n := n) k ?_).2 q hk⟩, gJ0, h.2.1 _ (List.mem_of_getElem? (i := 6) rfl), h.2.1 _ (List.mem_of_getElem? (i := 7) rfl)⟩
  rw [← gw_len]
  exact gw_lt hk
