/-! how much there is: never more than at first -/
def suN (g : Nat → Nat) : Nat → Nat
  | 0 => 0
  | n + 1 => suN g n + g n
theorem suN_le {g g' : Nat → Nat} : ∀ {n : Nat}, (∀ i, i < n → g' i ≤ g i) → suN g' n ≤ suN g n
  | 0, _ => Nat.le_refl _
  | n + 1, h => by
    unfold suN
    have := suN_le (g := g) (g' := g') (n := n) (fun i hi => h i (by omega))
    have := h n (by omega)
    omega
theorem suN_congr {g g' : Nat → Nat} {n : Nat} (h : ∀ i, i < n → g' i = g i) : suN g' n = suN g n :=
  Nat.le_antisymm (suN_le fun i hi => Nat.le_of_eq (h i hi)) (suN_le fun i hi => Nat.le_of_eq (h i hi).symm)
theorem suN_upd {g g' : Nat → Nat} {k : Nat} : ∀ {n : Nat}, k < n → (∀ i, i < n → i ≠ k → g' i = g i) → suN g' n + g k = suN g n + g' k
  | 0, h, _ => by omega
  | n + 1, h, he => by
    unfold suN
    by_cases e : k = n
    · subst e
      rw [suN_congr (fun i hi => he i (by omega) (by omega))]
      omega
    · have := suN_upd (g := g) (g' := g') (k := k) (n := n) (by omega) (fun i hi hk => he i (by omega) hk)
      rw [he n (by omega) (fun q => e q.symm)]
      omega
theorem suN_k {g : Nat → Nat} {n c : Nat} (h : ∀ i, i < n → g i ≤ c) : suN g n ≤ n * c := by
  induction n with
  | zero => simp [suN]
  | succ n ih =>
    unfold suN
    have := ih (fun i hi => h i (by omega))
    have := h n (by omega)
    rw [Nat.add_mul]
    omega
theorem suN_ge {g : Nat → Nat} {n k : Nat} (h : k < n) : g k ≤ suN g n := by
  have := suN_upd (g := g) (g' := fun i => if i = k then 0 else g i) h (fun i _ hk => if_neg hk)
  simp at this
  omega
theorem suN_two {g g' : Nat → Nat} {n b t : Nat} (hb : b < n) (ht : t < n) (hne : b ≠ t) (h1 : g' t = g t + g b) (h2 : g' b = 0) (he : ∀ i, i < n → i ≠ b → i ≠ t → g' i = g i) : suN g' n = suN g n := by
  have a1 := suN_upd (g := g) (g' := fun i => if i = b then 0 else g i) hb (fun i _ hk => if_neg hk)
  have a2 := suN_upd (g := fun i => if i = b then 0 else g i) (g' := g') (k := t) ht (fun i hi hk => by
    by_cases e : i = b
    · simp [e, h2]
    · simp [e, he i hi e hk])
  simp only [if_true, if_neg (Ne.symm hne)] at a1 a2
  omega
def TT (f : Nat → Nat) : Nat := suN (fun c => suN (fun v => f (8 * c + v)) 8) 8
def VB (n : Nat) (S : gw_S) : Prop := (∃ f : Nat → Nat, (∀ k, k < 64 → S 0 k = nI (f k)) ∧ TT f ≤ 792) ∧ ∀ b, b < n → ∃ c, c ≤ 9 ∧ S 2 b = nI c
theorem TT_le {f g : Nat → Nat} (h : ∀ k, k < 64 → g k ≤ f k) : TT g ≤ TT f := suN_le (fun c hc => suN_le (fun v hv => h _ (by omega)))
theorem TT_row {f : Nat → Nat} {c : Nat} (hc : c < 8) : suN (fun v => f (8 * c + v)) 8 ≤ TT f := suN_ge (g := fun c => suN (fun v => f (8 * c + v)) 8) hc
theorem TT_at {f : Nat → Nat} {k : Nat} (hk : k < 64) : f k ≤ TT f := by
  have h1 := TT_row (f := f) (c := k / 8) (by omega)
  have h2 : f (8 * (k / 8) + k % 8) ≤ _ := suN_ge (g := fun v => f (8 * (k / 8) + v)) (n := 8) (k := k % 8) (by omega)
  rw [show 8 * (k / 8) + k % 8 = k by omega] at h2
  omega
theorem VB.le {n : Nat} {S S' : gw_S} {f g : Nat → Nat} (hf : ∀ k, k < 64 → S 0 k = nI (f k)) (ht : TT f ≤ 792) (hc : ∀ b, b < n → ∃ c, c ≤ 9 ∧ S' 2 b = nI c) (h0 : ∀ k, k < 64 → S' 0 k = nI (g k)) (hg : ∀ k, k < 64 → g k ≤ f k) : VB n S' := ⟨⟨g, h0, Nat.le_trans (TT_le hg) ht⟩, hc⟩
theorem VB.co {n : Nat} {S S' : gw_S} (h : VB n S) (h0 : S' 0 = S 0) (hc : ∀ b, b < n → ∃ c, c ≤ 9 ∧ S' 2 b = nI c) : VB n S' := ⟨by rw [h0]; exact h.1, hc⟩
theorem lk_n {m k : Nat} (hm : m ≤ 792) (hk : k ≤ 9) : ∃ l, l ≤ m ∧ lk (nI m) (nI k) = nI l := by
  unfold lk
  by_cases e : m = 0
  · subst e
    exact ⟨0, Nat.le_refl _, if_pos rfl⟩
  · have hz : ¬ nI m = 0 := nI_ne0 (by omega) (by omega)
    rw [if_neg hz, show (10 : Int32) = nI 10 from rfl, nI_sub (by omega), nI_mul, show (100 : Int32) = nI 100 from rfl, nI_div (by have : m * (10 - k) ≤ 792 * 10 := Nat.mul_le_mul hm (by omega); omega) (by decide) (by decide)]
    by_cases k0 : k = 0
    · subst k0
      refine ⟨m * (10 - 0) / 100 + 1, by omega, ?_⟩
      rw [if_pos (show nI 0 = 0 from rfl)]
      exact nI_add _ 1
    · have : ¬ nI k = 0 := nI_ne0 (by omega) (by omega)
      refine ⟨m * (10 - k) / 100, ?_, ?_⟩
      · have : m * (10 - k) ≤ m * 10 := Nat.mul_le_mul_left m (by omega)
        omega
      · rw [if_neg this, Int32.add_zero]
theorem VB.lkd {n b : Nat} {S : gw_S} (h : VB n S) (hb : b < n) : VB n (sLk b S) := by
  obtain ⟨⟨f, hf, ht⟩, hc⟩ := h
  obtain ⟨k, hk, ek⟩ := hc b hb
  have key : ∀ j, j < 64 → ∃ g, g ≤ f j ∧ sLk b S 0 j = nI g := by
    intro j hj
    show ∃ g, g ≤ f j ∧ (if j / 8 = b then S 0 j - lk (S 0 j) (S 2 b) else S 0 j) = nI g
    by_cases e : j / 8 = b
    · rw [if_pos e, hf j hj, ek]
      obtain ⟨l, hl, el⟩ := lk_n (m := f j) (k := k) (by have := TT_at (f := f) hj; omega) hk
      exact ⟨f j - l, by omega, by rw [el, nI_sub hl]⟩
    · rw [if_neg e]
      exact ⟨f j, Nat.le_refl _, hf j hj⟩
  refine VB.le (g := fun j => (sLk b S 0 j).toNatClampNeg) hf ht hc (fun j hj => ?_) (fun j hj => ?_)
  · obtain ⟨g, hg, eg⟩ := key j hj
    have : f j ≤ 792 := by have := TT_at (f := f) hj; omega
    show sLk b S 0 j = nI (sLk b S 0 j).toNatClampNeg
    rw [eg, i_cl (show g < 2 ^ 31 by omega)]
  · obtain ⟨g, hg, eg⟩ := key j hj
    have : f j ≤ 792 := by have := TT_at (f := f) hj; omega
    show (sLk b S 0 j).toNatClampNeg ≤ f j
    rw [eg, i_cl (show g < 2 ^ 31 by omega)]
    exact hg
theorem VB.zr {n b : Nat} {S S' : gw_S} (h : VB n S) (h0 : ∀ j, S' 0 j = if j / 8 = b then 0 else S 0 j) (h2 : S' 2 = S 2) : VB n S' := by
  obtain ⟨⟨f, hf, ht⟩, hc⟩ := h
  refine VB.le (g := fun j => if j / 8 = b then 0 else f j) hf ht (by rw [h2]; exact hc) (fun j hj => ?_) (fun j hj => ?_)
  · rw [h0]
    by_cases e : j / 8 = b
    · simp only [e, if_true]; rfl
    · simp only [e, if_false]; exact hf j hj
  · show (if j / 8 = b then 0 else f j) ≤ f j
    split <;> omega
theorem VB.jn {n b t : Nat} {S : gw_S} (h : VB n S) (hb : b < 8) (ht8 : t < 8) (hne : b ≠ t) : VB n (sJn b t S) := by
  obtain ⟨⟨f, hf, ht⟩, hc⟩ := h
  refine ⟨⟨fun j => if j / 8 = t then f j + f (8 * b + j % 8) else if j / 8 = b then 0 else f j, fun j hj => ?_, ?_⟩, hc⟩
  · show (if j / 8 = t then S 0 j + S 0 (8 * b + j % 8) else if j / 8 = b then 0 else S 0 j) = _
    by_cases e : j / 8 = t
    · simp only [e, if_true]
      rw [hf j hj, hf _ (by omega), nI_add]
    · by_cases e2 : j / 8 = b
      · simp only [e, e2, if_false, if_true]
        rw [if_neg hne, if_neg hne]; rfl
      · simp only [e, e2, if_false]
        exact hf j hj
  · refine Nat.le_trans (Nat.le_of_eq ?_) ht
    unfold TT
    refine suN_two (b := b) (t := t) hb ht8 hne ?_ ?_ ?_
    · have e : ∀ v, v < 8 → (if (8 * t + v) / 8 = t then f (8 * t + v) + f (8 * b + (8 * t + v) % 8) else if (8 * t + v) / 8 = b then 0 else f (8 * t + v)) = f (8 * t + v) + f (8 * b + v) := fun v hv => by
        rw [if_pos (by omega), show (8 * t + v) % 8 = v by omega]
      rw [suN_congr e]
      generalize (8 : Nat) * t = T
      generalize (8 : Nat) * b = B
      simp only [suN]
      omega
    · have e : ∀ v, v < 8 → (if (8 * b + v) / 8 = t then f (8 * b + v) + f (8 * b + (8 * b + v) % 8) else if (8 * b + v) / 8 = b then 0 else f (8 * b + v)) = 0 := fun v hv => by
        rw [if_neg (by omega), if_pos (by omega)]
      rw [suN_congr (g := fun _ => 0) e]
      simp [suN]
    · intro i hi h1 h2
      refine suN_congr (fun v hv => ?_)
      show (if (8 * i + v) / 8 = t then f (8 * i + v) + f (8 * b + (8 * i + v) % 8) else if (8 * i + v) / 8 = b then 0 else f (8 * i + v)) = f (8 * i + v)
      rw [if_neg (by omega), if_neg (by omega)]
theorem VB.as_ {n b : Nat} {K t : Int32} {S : gw_S} (hn : n ≤ 8) (h : VB n S) : VB n (aS n K b t S) := by
  unfold aS
  split
  · unfold sSell
    split
    · exact h.co (by rw [gw_ne (by decide)]) (by rw [gw_ne (by decide)]; exact h.2)
    · exact h
  · split
    · split
      · rename_i c
        exact h.jn (by have := c.1; omega) (by have := c.2.1; omega) c.2.2.1
      · exact h
    · split
      · split
        · exact h.zr (fun j => rfl) rfl
        · exact h
      · unfold sCork
        split
        · refine h.co (by rw [gw_ne (by decide)]) (fun x hx => ?_)
          rw [gw_at]
          split
          · exact ⟨9, Nat.le_refl _, rfl⟩
          · exact h.2 x hx
        · exact h
theorem VB.its {n : Nat} {F : Nat → gw_S → gw_S} : ∀ (m : Nat) (S : gw_S), (∀ i S, i < m → VB n S → VB n (F i S)) → VB n S → VB n (itN F m S)
  | 0, _, _, h => h
  | m + 1, S, hF, h => hF m _ (by omega) (VB.its m S (fun i S hi => hF i S (by omega)) h)
theorem VB.acts {n m : Nat} {τ S : gw_S} {w D : Int32} (hn : n ≤ 8) (h : VB n S) : VB n (sActs n τ w D m S) := by
  refine VB.its m S (fun i S _ h => ?_) h
  unfold sAct
  split
  · exact (h.as_ hn).co (by rw [gw_ne (by decide)]) (by rw [gw_ne (by decide)]; exact (h.as_ hn).2)
  · exact h
theorem VB.ends {n : Nat} {S : gw_S} {hot : Bool} {So : Nat → Bool} {bu : Int32} (h : VB n S) : VB n (sEnds hot So bu n S) := by
  refine VB.its n S (fun i S hi h => ?_) h
  split
  · exact h
  · unfold sEnd
    split
    · exact (h.lkd hi).zr (fun j => rfl) rfl
    · exact h.lkd hi
theorem VB.day {P : Pr} {day : Nat} {S : gw_S} (hn : rN P ≤ 8) (h : VB (rN P) S) : VB (rN P) (sDay P day S) := by
  unfold sDay
  refine VB.ends ?_
  have h1 : VB (rN P) (sMorn P day S) := by
    unfold sMorn
    refine VB.acts hn ?_
    split
    · unfold sAhead
      refine VB.its _ S (fun i S _ h => ?_) h
      unfold sCork
      split
      · refine h.co (by rw [gw_ne (by decide)]) (fun x hx => ?_)
        rw [gw_at]
        split
        · exact ⟨9, Nat.le_refl _, rfl⟩
        · exact h.2 x hx
      · exact h
    · exact h
  unfold sSale
  split
  · exact h1
  · refine h1.co ?_ ?_
    · rw [gw_ne (by decide)]
      unfold sSell
      split
      · rw [gw_ne (by decide)]
      · rfl
    · rw [gw_ne (by decide)]
      unfold sSell
      split
      · rw [gw_ne (by decide)]; exact h1.2
      · exact h1.2
theorem VB.run {P : Pr} {V M C : Nat → Int32} (hn : rN P ≤ 8) (h : VB (rN P) (sBegin (rN P) V M C)) : ∀ k, VB (rN P) (sRun P V M C k)
  | 0 => h
  | k + 1 => (VB.run hn h k).day hn
theorem VB.beg {n : Nat} {V M C : Nat → Int32} (hn : n ≤ 8) (hM : ∀ b, b < n → ∃ m, m ≤ 99 ∧ M b = nI m) (hV : ∀ b, b < n → ∃ v, v < 8 ∧ V b = nI v) (hC : ∀ b, b < n → ∃ c, c ≤ 9 ∧ C b = nI c) : VB n (sBegin n V M C) := by
  refine ⟨⟨fun j => if j / 8 < n ∧ nI (j % 8) = V (j / 8) then (M (j / 8)).toNatClampNeg else 0, fun j hj => ?_, ?_⟩, fun b hb => ?_⟩
  · show (if j / 8 < n ∧ nI (j % 8) = V (j / 8) then M (j / 8) else 0) = _
    by_cases c : j / 8 < n ∧ nI (j % 8) = V (j / 8)
    · simp only [c, and_self, if_true]
      obtain ⟨m, hm, em⟩ := hM _ c.1
      rw [em, i_cl (show m < 2 ^ 31 by omega)]
    · simp only [c, if_false]; rfl
  · unfold TT
    refine Nat.le_trans (suN_k (c := 99) (fun c hc => ?_)) (by decide)
    by_cases hcn : c < n
    · obtain ⟨m, hm, em⟩ := hM c hcn
      obtain ⟨v, hv, ev⟩ := hV c hcn
      have e : ∀ u, u < 8 → (if (8 * c + u) / 8 < n ∧ nI ((8 * c + u) % 8) = V ((8 * c + u) / 8) then (M ((8 * c + u) / 8)).toNatClampNeg else 0) = (if u = v then m else 0) := fun u hu => by
        rw [show (8 * c + u) / 8 = c by omega, show (8 * c + u) % 8 = u by omega, ev, em, i_cl (show m < 2 ^ 31 by omega)]
        by_cases q : u = v
        · rw [if_pos ⟨hcn, by rw [q]⟩, if_pos q]
        · rw [if_neg (fun z => q ((nI_eq (by omega) (by omega)).mp z.2)), if_neg q]
      rw [suN_congr e]
      have := suN_upd (g := fun _ => 0) (g' := fun u => if u = v then m else 0) (n := 8) hv (fun i _ hk => if_neg hk)
      have z : suN (fun _ => 0) 8 = 0 := by simp [suN]
      simp only [z, if_true] at this
      omega
    · have e : ∀ u, u < 8 → (if (8 * c + u) / 8 < n ∧ nI ((8 * c + u) % 8) = V ((8 * c + u) / 8) then (M ((8 * c + u) / 8)).toNatClampNeg else 0) = 0 := fun u hu => if_neg (fun q => by have := q.1; omega)
      rw [suN_congr (g := fun _ => 0) e]
      simp [suN]
  · show ∃ c, c ≤ 9 ∧ (if b < n then C b else 0) = nI c
    rw [if_pos hb]
    exact hC b hb
