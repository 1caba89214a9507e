def gw_le : List (Option Value) → List (Option Value) → Prop
  | [], _ => True
  | none :: a, [] => gw_le a []
  | none :: a, _ :: b => gw_le a b
  | some _ :: _, [] => False
  | some v :: a, w :: b => w = some v ∧ gw_le a b
theorem gw_le_at : ∀ (lv2 lv : List (Option Value)), gw_le lv2 lv → ∀ (i : Nat) (v : Value), lv2[i]? = some (some v) → lv[i]? = some (some v)
  | [], _, _, i, v, h => by simp at h
  | none :: a, [], hl, i, v, h => by
    cases i with
    | zero => simp at h
    | succ i =>
      have := gw_le_at a [] hl i v (by simpa using h)
      simp at this
  | none :: a, _ :: b, hl, i, v, h => by
    cases i with
    | zero => simp at h
    | succ i => simpa using gw_le_at a b hl i v (by simpa using h)
  | some u :: a, [], hl, i, v, h => hl.elim
  | some u :: a, w :: b, hl, i, v, h => by
    cases i with
    | zero =>
      have h1 : u = v := by simpa using h
      simp [hl.1, h1]
    | succ i => simpa using gw_le_at a b hl.2 i v (by simpa using h)
theorem g_lw {d : Nat} {M : gw_M} {pc : Nat} {lv lv2 : List (Option Value)} {st : List Value} {σ : gw_S} {Q : Option Value → gw_S → Prop} (hs : gw_le lv2 lv) (k : gG d M pc lv2 st σ Q) : gG d M pc lv st σ Q := g_lv (gw_le_at _ _ hs) k
theorem g_iinc2 {d : Nat} {M : gw_M} {pc pc2 : Nat} {lv : List (Option Value)} {st : List Value} {σ : gw_S} {Q : Option Value → gw_S → Prop} {i : Nat} {n : Int} {x c : Int32} (hd : decode M.2.1 pc = .ok (.iinc i n, 3)) (hl : lv[i]? = some (some (.int x))) (hc : Int32.ofInt n = c) (hn : i < M.2.2.1) (hk : gw_ok lv i = true) (hp : pc + 3 = pc2) (k : gG d M pc2 (lv.set i (some (.int (x + c)))) st σ Q) : gG d M pc lv st σ Q := g_iinc hd hl (by rw [hc]) hn hk hp k
def gw_ushr (x y : Int32) : Int32 := (x.toUInt32 >>> (y.toUInt32 &&& Int32.toUInt32 31)).toInt32
def gw_rem (x y : Int32) : Int32 := x - x / y * y
def gw_lrem (x y : Int64) : Int64 := x - x / y * y
def gw_lshl (x : Int64) (y : Int32) : Int64 := x <<< (y.toInt64 &&& 63)
def gw_lshr (x : Int64) (y : Int32) : Int64 := x >>> (y.toInt64 &&& 63)
def gw_lushr (x : Int64) (y : Int32) : Int64 := (x.toUInt64 >>> (y.toInt64.toUInt64 &&& Int64.toUInt64 63)).toInt64
def gw_st (k : Nat) : Prop := gw_k k = some (.inr (.inr (3, [some (k + 1), some (k + 2), some (k + 3), some (k + 4), some (k + 5), some (k + 6), some (k + 7), none, none, none, none, none, none]))) ∧ ∀ j, j < 7 → gw_k (k + (j + 1)) = some (.inl (.int, 8))
def gw_tx (k : Nat) : Prop := gw_k k = some (.inr (.inr (5, [some (k + 1), none, none]))) ∧ gw_k (k + 1) = some (.inl (.int, 47))
section G2
variable {d : Nat} {M : gw_M} {pc pc2 : Nat} {lv : List (Option Value)} {st : List Value} {σ : gw_S} {Q : Option Value → gw_S → Prop}
theorem g_put2 {idx ci j k : Nat} {sl : List (Option Nat)} {ty : FieldType} {x : Int32} (hd : decode M.2.1 pc = .ok (.putfield idx, 3)) (hf : gw_fp M.1.cls idx ci j ty) (hk : gw_k k = some (.inr (.inr (ci, sl)))) (hs : sl[j]? = some none) (hn : narrow ty (.int x) = .int x) (hfit : fits ty (.int x) = true) (hp : pc + 3 = pc2) (kk : ∀ σ2 : gw_S, σ2 = gw_u σ k j x → gG d M pc2 lv st σ2 Q) : gG d M pc lv (.int x :: .ref k :: st) σ Q := g_put hd hf hk hs hn hfit hp (kk _ rfl)
theorem g_iast2 {k n : Nat} {i x : Int32} (hd : decode M.2.1 pc = .ok (.iastore, 1)) (hk : gw_k k = some (.inl (.int, n))) (hi : vp_in i n) (hp : pc + 1 = pc2) (kk : ∀ σ2 : gw_S, σ2 = gw_u σ k i.toNatClampNeg x → gG d M pc2 lv st σ2 Q) : gG d M pc lv (.int x :: .int i :: .ref k :: st) σ Q := g_iast hd hk hi hp (kk _ rfl)
theorem g_zast2 {k n : Nat} {i x : Int32} (hd : decode M.2.1 pc = .ok (.bastore, 1)) (hk : gw_k k = some (.inl (.boolean, n))) (hi : vp_in i n) (hp : pc + 1 = pc2) (kk : ∀ σ2 : gw_S, σ2 = gw_u σ k i.toNatClampNeg (vp_nar .boolean x) → gG d M pc2 lv st σ2 Q) : gG d M pc lv (.int x :: .int i :: .ref k :: st) σ Q := g_zast hd hk hi hp (kk _ rfl)
theorem g_copy2 {idx k0 k1 n0 n1 : Nat} {sp dp n : Int32} (hd : decode M.2.1 pc = .ok (.invokestatic idx, 3)) (hl : Cond.methodLink M.1.cls idx arraycopyName ∈ gw_tb) (hw : Cond.native arraycopyName ∈ gw_tb ∧ Cond.static arraycopyName ∈ gw_tb ∧ Cond.initialized "java/lang/System" ∈ gw_tb) (hk0 : gw_k k0 = some (.inl (.int, n0))) (hk1 : gw_k k1 = some (.inl (.int, n1)))     (h1 : ¬ sp < 0) (h2 : ¬ dp < 0) (h3 : ¬ n < 0) (h4 : sp.toNatClampNeg + n.toNatClampNeg ≤ n0) (h5 : dp.toNatClampNeg + n.toNatClampNeg ≤ n1) (hdd : 1 ≤ d) (hr : (st.map fun v => v.category).sum ≤ 8) (hp : pc + 3 = pc2) (kk : ∀ σ2 : gw_S, σ2 = gw_cp σ k0 k1 sp.toNatClampNeg dp.toNatClampNeg n.toNatClampNeg → gG d M pc2 lv st σ2 Q) : gG d M pc lv (.int n :: .int dp :: .ref k1 :: .int sp :: .ref k0 :: st) σ Q := g_copy hd hl hw hk0 hk1 h1 h2 h3 h4 h5 hdd hr hp (kk _ rfl)
end G2
def gw_min (x y : Int32) : Int32 := if y < x then y else x
set_option maxRecDepth 20000 in
theorem mw_min : Cond.static Lib.Math.min.name ∈ gw_tb ∧ Cond.initialized "java/lang/Math" ∈ gw_tb ∧ Cond.code Lib.Math.min.name Lib.Math.min.code 2 (some .int) ∈ gw_tb := ⟨gw_in (List.mem_append_right _ (List.mem_append_left _ (List.mem_of_getElem? (i := 32) rfl))) rfl, gw_in (List.mem_append_right _ (List.mem_append_left _ (List.mem_of_getElem? (i := 3) rfl))) rfl, gw_in (List.mem_append_right _ (List.mem_append_left _ (List.mem_of_getElem? (i := 33) rfl))) rfl⟩
theorem g_mmin {d : Nat} {M : gw_M} {pc pc2 : Nat} {lv : List (Option Value)} {st : List Value} {σ : gw_S} {Q : Option Value → gw_S → Prop} {idx : Nat} {x y : Int32} (hd : decode M.2.1 pc = .ok (.invokestatic idx, 3)) (hl : Cond.methodLink M.1.cls idx Lib.Math.min.name ∈ gw_tb) (hdd : 1 ≤ d) (hr : (st.map fun v => v.category).sum ≤ 8) (hp : pc + 3 = pc2) (kk : gG d M pc2 lv (.int (gw_min x y) :: st) σ Q) : gG d M pc lv (.int y :: .int x :: st) σ Q := by
  subst hp
  intro p l e s m args below meth c H locs ls D ad dA a1 a2 a3 a4 a5 a6 a7 a8 a9 a10 a11
  have hrr := gw_rest (ad := ad) hr
  exact va_mmin a1 a2 (a4.trans a9.1.symm) a5 (a6 _ hl) (a6 _ mw_min.1) (a6 _ mw_min.2.1) (a6 _ mw_min.2.2) hdd (by show _ + 13 ≤ 44 * d; omega) (Nat.le_refl 0) (Nat.le_refl 0) hd (kk p l e s m args below meth c H locs ls D ad dA a1 a2 a3 a4 a5 a6 a7 a8 a9 a10 a11)
def gw_max (x y : Int32) : Int32 := if x < y then y else x
set_option maxRecDepth 20000 in
theorem mw_max : Cond.static Lib.Math.max.name ∈ gw_tb ∧ Cond.initialized "java/lang/Math" ∈ gw_tb ∧ Cond.code Lib.Math.max.name Lib.Math.max.code 2 (some .int) ∈ gw_tb := ⟨gw_in (List.mem_append_right _ (List.mem_append_right _ (List.mem_append_right _ (List.mem_append_left _ (List.mem_of_getElem? (i := 133) rfl))))) rfl, gw_in (List.mem_append_right _ (List.mem_append_left _ (List.mem_of_getElem? (i := 3) rfl))) rfl, gw_in (List.mem_append_right _ (List.mem_append_right _ (List.mem_append_right _ (List.mem_append_left _ (List.mem_of_getElem? (i := 134) rfl))))) rfl⟩
theorem g_mmax {d : Nat} {M : gw_M} {pc pc2 : Nat} {lv : List (Option Value)} {st : List Value} {σ : gw_S} {Q : Option Value → gw_S → Prop} {idx : Nat} {x y : Int32} (hd : decode M.2.1 pc = .ok (.invokestatic idx, 3)) (hl : Cond.methodLink M.1.cls idx Lib.Math.max.name ∈ gw_tb) (hdd : 1 ≤ d) (hr : (st.map fun v => v.category).sum ≤ 8) (hp : pc + 3 = pc2) (kk : gG d M pc2 lv (.int (gw_max x y) :: st) σ Q) : gG d M pc lv (.int y :: .int x :: st) σ Q := by
  subst hp
  intro p l e s m args below meth c H locs ls D ad dA a1 a2 a3 a4 a5 a6 a7 a8 a9 a10 a11
  have hrr := gw_rest (ad := ad) hr
  exact va_mmax a1 a2 (a4.trans a9.1.symm) a5 (a6 _ hl) (a6 _ mw_max.1) (a6 _ mw_max.2.1) (a6 _ mw_max.2.2) hdd (by show _ + 13 ≤ 44 * d; omega) (Nat.le_refl 0) (Nat.le_refl 0) hd (kk p l e s m args below meth c H locs ls D ad dA a1 a2 a3 a4 a5 a6 a7 a8 a9 a10 a11)
theorem gw_out {x : Int32} {lo hi : Int} (h : ¬ (¬ x.toInt < lo ∧ ¬ hi < x.toInt)) : x.toInt < lo ∨ hi < x.toInt := by omega
theorem gw_sw4 {x : Int32} (e : ¬ x.toInt < 0 ∧ ¬ 3 < x.toInt) (c0 : ¬ x = 0) (c1 : ¬ x = 1) (c2 : ¬ x = 2) (c3 : ¬ x = 3) : False := by
  have hn : ∀ c : Int32, ¬ x = c → ¬ x.toInt = c.toInt := fun c h e => h (Int32.toInt_inj.mp e)
  have h0 := hn 0 c0
  rw [show ((0 : Int32)).toInt = 0 from by decide] at h0
  have h1 := hn 1 c1
  rw [show ((1 : Int32)).toInt = 1 from by decide] at h1
  have h2 := hn 2 c2
  rw [show ((2 : Int32)).toInt = 2 from by decide] at h2
  have h3 := hn 3 c3
  rw [show ((3 : Int32)).toInt = 3 from by decide] at h3
  omega
theorem gw_sw5 {x : Int32} (e : ¬ x.toInt < 0 ∧ ¬ 4 < x.toInt) (c0 : ¬ x = 0) (c1 : ¬ x = 1) (c2 : ¬ x = 2) (c3 : ¬ x = 3) (c4 : ¬ x = 4) : False := by
  have hn : ∀ c : Int32, ¬ x = c → ¬ x.toInt = c.toInt := fun c h e => h (Int32.toInt_inj.mp e)
  have h0 := hn 0 c0
  rw [show ((0 : Int32)).toInt = 0 from by decide] at h0
  have h1 := hn 1 c1
  rw [show ((1 : Int32)).toInt = 1 from by decide] at h1
  have h2 := hn 2 c2
  rw [show ((2 : Int32)).toInt = 2 from by decide] at h2
  have h3 := hn 3 c3
  rw [show ((3 : Int32)).toInt = 3 from by decide] at h3
  have h4 := hn 4 c4
  rw [show ((4 : Int32)).toInt = 4 from by decide] at h4
  omega
theorem gw_sw9 {x : Int32} (e : ¬ x.toInt < 0 ∧ ¬ 8 < x.toInt) (c0 : ¬ x = 0) (c1 : ¬ x = 1) (c2 : ¬ x = 2) (c3 : ¬ x = 3) (c4 : ¬ x = 4) (c5 : ¬ x = 5) (c6 : ¬ x = 6) (c7 : ¬ x = 7) (c8 : ¬ x = 8) : False := by
  have hn : ∀ c : Int32, ¬ x = c → ¬ x.toInt = c.toInt := fun c h e => h (Int32.toInt_inj.mp e)
  have h0 := hn 0 c0
  rw [show ((0 : Int32)).toInt = 0 from by decide] at h0
  have h1 := hn 1 c1
  rw [show ((1 : Int32)).toInt = 1 from by decide] at h1
  have h2 := hn 2 c2
  rw [show ((2 : Int32)).toInt = 2 from by decide] at h2
  have h3 := hn 3 c3
  rw [show ((3 : Int32)).toInt = 3 from by decide] at h3
  have h4 := hn 4 c4
  rw [show ((4 : Int32)).toInt = 4 from by decide] at h4
  have h5 := hn 5 c5
  rw [show ((5 : Int32)).toInt = 5 from by decide] at h5
  have h6 := hn 6 c6
  rw [show ((6 : Int32)).toInt = 6 from by decide] at h6
  have h7 := hn 7 c7
  rw [show ((7 : Int32)).toInt = 7 from by decide] at h7
  have h8 := hn 8 c8
  rw [show ((8 : Int32)).toInt = 8 from by decide] at h8
  omega
