/-! put, get -/
def fnd (τ : gw_S) (s : Nat) (f i : Int32) : Int32 := if τ 168 s = 0 then 1 else if ¬ τ 169 s = f then 3 else if 0 ≤ i ∧ i < τ 170 s then 0 else 2
theorem fnd_0 {τ : gw_S} {s : Nat} {f i : Int32} (hw : WF τ) (hs : s < 4) (h : fnd τ s f i = 0) : ¬ τ 168 s = 0 ∧ τ 169 s = f ∧ ∃ x, x < 60 ∧ i = nI x ∧ nI x < τ 170 s := by
  unfold fnd at h
  split at h
  · exact absurd h (by decide)
  · rename_i c1
    split at h
    · exact absurd h (by decide)
    · rename_i c2
      split at h
      · rename_i c3
        have w := hw.2.2.2.2.2 s hs
        obtain ⟨-, z, hz, ez⟩ := w.2 (w.1.resolve_left c1)
        obtain ⟨x, hx, ex⟩ := i_in (n := z) (by omega) c3.1 (by have := i_lt.mp c3.2; rw [ez, nI_toInt (by omega)] at this; exact this)
        exact ⟨c1, Classical.not_not.mp c2, x, by omega, ex, by rw [← ex]; exact c3.2⟩
      · exact absurd h (by decide)
theorem fnd_p {τ : gw_S} {s : Nat} {f i : Int32} : (fnd τ s f i ≤ 0 ↔ fnd τ s f i = 0) := by
  unfold fnd
  split
  · decide
  · split
    · decide
    · split <;> decide
theorem s_findingAt {d x : Nat} {f i : Int32} {τ σ : gw_S} (hw : WF τ) (h : TC τ σ) (hx : x < 4) : gB (d + 1) mX1_findingAt [.ref 26, .int (nI x), .int f, .int i] σ (fun v σ' => v = some (.int (fnd τ x f i)) ∧ σ' = σ) := by
  have vi : vp_in (nI x) 4 := vp_in_nI hx (by decide)
  obtain ⟨t1, t2⟩ := sh_there hw h hx
  refine eX1_findingAt ?_
  rw [i_cl (show x < 2 ^ 31 by omega)]
  refine ⟨vi, fun c => ⟨vi, ?_⟩, fun c => ⟨by rw [fnd, if_pos (t1.mp c)], rfl⟩⟩
  have c2 : ¬ τ 168 x = 0 := fun q => c (t1.mpr q)
  obtain ⟨⟨k, hk, ek, ek2⟩, z, hz, ez, ez2⟩ := t2 c2
  rw [ek2, ez2, ← ek, ← ez]
  refine ⟨fun c3 => ⟨vi, gB_det s_isWithin ⟨_, rfl, br_bj (fun c4 => ⟨?_, rfl⟩) (fun c4 => ⟨?_, rfl⟩)⟩⟩, fun c3 => ⟨by rw [fnd, if_neg c2, if_pos c3], rfl⟩⟩
  · rw [fnd, if_neg c2, if_neg (not_not_intro c3), if_pos c4]
  · rw [fnd, if_neg c2, if_neg (not_not_intro c3), if_neg c4]
theorem s_lacks {d x : Nat} {f i : Int32} {τ σ : gw_S} (hw : WF τ) (h : TM τ σ) (hx : x < 4) : gB (d + 1) mX9_lacks [.ref 1, .int (nI x), .int f, .int i] σ (fun v σ' => v = some (.int (fnd τ x f i)) ∧ σ' = σ) := by
  have vi : vp_in (nI x) 4 := vp_in_nI hx (by decide)
  have w := hw.2.2.2.2.2 x hx
  refine eX9_lacks ?_
  rw [i_cl (show x < 2 ^ 31 by omega), h.1 168 (by decide), h.1 169 (by decide), h.1 170 (by decide)]
  refine ⟨vi, fun c => ⟨vi, ?_⟩, fun c => ⟨by rw [fnd, if_pos c], rfl⟩⟩
  obtain ⟨-, z, hz, ez⟩ := w.2 (w.1.resolve_left c)
  refine ⟨fun c3 => ⟨vi, gB_det s_in ?_⟩, fun c3 => ⟨by rw [fnd, if_neg c, if_pos c3], rfl⟩⟩
  rw [bi_congr (by rw [ez, lt_pred (by omega)] : (0 ≤ i ∧ i ≤ τ 170 x - 1) ↔ (0 ≤ i ∧ i < τ 170 x))]
  refine ⟨_, rfl, br_bj (fun c4 => ⟨?_, rfl⟩) (fun c4 => ⟨?_, rfl⟩)⟩
  · rw [fnd, if_neg c, if_neg (not_not_intro c3), if_pos c4]
  · rw [fnd, if_neg c, if_neg (not_not_intro c3), if_neg c4]
def nrw (f v : Int32) : Int32 := if f = 0 then v.toInt8.toInt32 else if f = 1 then v.toInt16.toInt32 else v
theorem s_setItem {d x i : Nat} {v : Int32} {τ σ : gw_S} (hw : WF τ) (h : TC τ σ) (hx : x < 4) (ht : ¬ τ 168 x = 0) (hi : i < 60) : gB d mX1_setItem [.ref 26, .int (nI x), .int (nI i), .int v] σ (fun r σ' => r = none ∧ σ' = gw_u σ (28 + x) i (nrw (τ 169 x) v)) := by
  have vi : vp_in (nI x) 4 := vp_in_nI hx (by decide)
  have vj : vp_in (nI i) 60 := vp_in_nI hi (by decide)
  obtain ⟨t1, t2⟩ := sh_there hw h hx
  obtain ⟨⟨k, hk, ek, ek2⟩, -⟩ := t2 ht
  refine eX1_setItem ?_
  rw [i_cl (show x < 2 ^ 31 by omega), i_cl (show i < 2 ^ 31 by omega), ek2, ← ek]
  refine ⟨vi, 28 + x, (sh_q hx).1, (sh_q hx).2, vi, fun c => ⟨vi, fun c2 => ⟨vj, fun s3 q3 => ⟨rfl, ?_⟩⟩, fun c2 => ⟨vj, fun s3 q3 => ⟨rfl, ?_⟩⟩⟩, fun c => ⟨vj, fun s3 q3 => ⟨rfl, ?_⟩⟩⟩
  · rw [q3, nrw, if_neg c, if_neg c2]
  · rw [q3, nrw, if_neg c, if_pos c2]
  · rw [q3, nrw, if_pos c]
theorem e60 {x i : Nat} : (60 : Int32) * nI x + nI i = nI (60 * x + i) := by rw [show (60 : Int32) = nI 60 from rfl, nI_mul, nI_add]
theorem s_keep {d x i : Nat} {v : Int32} {τ σ : gw_S} (h : TM τ σ) (hx : x < 4) (hi : i < 60) : gB d mX9_keep [.ref 1, .int (nI x), .int (nI i), .int v] σ (fun r σ' => r = none ∧ σ' = gw_u σ 171 (60 * x + i) (nrw (τ 169 x) v)) := by
  have vi : vp_in (nI x) 4 := vp_in_nI hx (by decide)
  have vj : vp_in (nI (60 * x + i)) 240 := vp_in_nI (by omega) (by decide)
  refine eX9_keep ?_
  rw [e60, i_cl (show x < 2 ^ 31 by omega), i_cl (show 60 * x + i < 2 ^ 31 by omega), h.1 169 (by decide)]
  refine ⟨vi, fun c => ⟨vi, fun c2 => ⟨vj, fun s3 q3 => ⟨rfl, ?_⟩⟩, fun c2 => ⟨vj, fun s3 q3 => ⟨rfl, ?_⟩⟩⟩, fun c => ⟨vj, fun s3 q3 => ⟨rfl, ?_⟩⟩⟩
  · rw [q3, nrw, if_neg c, if_neg c2]
  · rw [q3, nrw, if_neg c, if_pos c2]
  · rw [q3, nrw, if_pos c]
theorem WF.item {τ : gw_S} {j : Nat} {v : Int32} (hw : WF τ) : WF (gw_u τ 171 j v) := hw.she (fun k h1 _ => gw_ne (by omega)) (fun j _ => by rw [gw_ne (by decide)]) (fun s hs => by rw [gw_ne (by decide), gw_ne (by decide), gw_ne (by decide)]; exact hw.2.2.2.2.2 s hs)
theorem TC.item {τ σ : gw_S} {x i : Nat} {v : Int32} (h : TC τ σ) (hx : x < 4) (hi : i < 60) : TC (gw_u τ 171 (60 * x + i) v) (gw_u σ (28 + x) i v) := by
  refine h.she (fun k h1 _ => gw_ne (by omega)) (fun j _ => by rw [gw_ne (by decide)]) (fun k h1 h2 => gw_ne (by omega)) ⟨fun y hy => ?_, ?_⟩
  · have w := h.2.2.2.1 y hy
    rw [gw_ne (show (168 : Nat) ≠ 171 by decide), gw_ne (show (169 : Nat) ≠ 171 by decide), gw_ne (show (170 : Nat) ≠ 171 by decide), gw_ne (show (32 : Nat) ≠ 28 + x by omega), gw_ne (show (33 : Nat) ≠ 28 + x by omega)]
    refine ⟨w.1, w.2.1, fun j hj => ?_⟩
    rw [gw_at, gw_at, w.2.2 j hj]
    by_cases e : y = x ∧ j = i
    · rw [if_pos ⟨by omega, e.2⟩, if_pos ⟨rfl, by omega⟩]
    · rw [if_neg (by omega), if_neg (by omega)]
  · rw [gw_ne (show (0 : Nat) ≠ 28 + x by omega), gw_ne (show (1 : Nat) ≠ 171 by decide)]
    exact h.2.2.2.2
abbrev okP (s f : Int32) : Prop := ok4 s ∧ ok3 f
def A_put (τ : gw_S) (s f i : Int32) : Int32 := if okP s f then (if fnd τ s.toNatClampNeg f i = 0 then 1 else -10 - fnd τ s.toNatClampNeg f i) else -2
def U_put (τ : gw_S) (s f i v : Int32) : gw_S := if okP s f then (if fnd τ s.toNatClampNeg f i = 0 then gw_u τ 171 (60 * s.toNatClampNeg + i.toNatClampNeg) (nrw (τ 169 s.toNatClampNeg) v) else U_find τ (fnd τ s.toNatClampNeg f i)) else τ
theorem w_put {τ : gw_S} {s f i v : Int32} (hw : WF τ) : WF (U_put τ s f i v) := by
  unfold U_put
  split
  · split
    · exact hw.item
    · exact w_find hw
  · exact hw
theorem c_put {d : Nat} {s f i v : Int32} {τ σ : gw_S} (hw : WF τ) (h : TC τ σ) : gB (d + 2) mX8_put [.ref 0, .int s, .int f, .int i, .int v] σ (QU τ (U_put τ s f i v) σ (A_put τ s f i)) := by
  have bad : ¬ okP s f → QU τ (U_put τ s f i v) σ (A_put τ s f i) (some (.int (-2))) σ := fun c => QU.no h (by rw [U_put, if_neg c]) (by rw [A_put, if_neg c])
  refine eX8_put (gB_det s_isWithin ⟨_, rfl, br_bj (fun h1 => ?_) (fun h1 => bad (fun q => h1 q.1))⟩)
  refine gB_det s_isWithin ⟨_, rfl, br_bi (fun h2 => ?_) (fun h2 => bad (fun q => h2 q.2))⟩
  obtain ⟨x, hx, rfl⟩ := ok4_x h1
  have ic : (nI x).toNatClampNeg = x := i_cl (show x < 2 ^ 31 by omega)
  refine gB_det (s_findingAt hw h hx) ⟨_, rfl, fun c => ?_, fun c => ?_⟩
  · obtain ⟨c1, c2, j, hj, rfl, c3⟩ := fnd_0 hw hx c
    have eU : U_put τ (nI x) f (nI j) v = gw_u τ 171 (60 * x + j) (nrw (τ 169 x) v) := by rw [U_put, if_pos ⟨h1, h2⟩, ic, if_pos c, i_cl (show j < 2 ^ 31 by omega)]
    refine gB_det (s_setItem hw h hx c1 hj) ⟨rfl, by rw [A_put, if_pos ⟨h1, h2⟩, ic, if_pos c], by rw [eU]; exact h.item hx hj, Or.inl ⟨by rw [eU]; exact SD.u (by omega), KP.u (by omega)⟩, FCl.u (by omega)⟩
  · exact QU.find h (by rw [U_put, if_pos ⟨h1, h2⟩, ic, if_neg c]) (by rw [A_put, if_pos ⟨h1, h2⟩, ic, if_neg c])
theorem m_put {d : Nat} {s f i v : Int32} {τ σ : gw_S} (hw : WF τ) (h : TM τ σ) : gB (d + 2) mX9_put [.ref 1, .int s, .int f, .int i, .int v] σ (QN (U_put τ s f i v) σ (A_put τ s f i)) := by
  have bad : ¬ okP s f → QN (U_put τ s f i v) σ (A_put τ s f i) (some (.int (-2))) σ := fun c => QN.no h (by rw [U_put, if_neg c]) (by rw [A_put, if_neg c])
  refine eX9_put (gB_det s_isSheet2 ⟨_, rfl, br_bj (fun h1 => ?_) (fun h1 => bad (fun q => h1 q.1))⟩)
  refine gB_det s_in2 ⟨_, rfl, br_bi (fun h2 => ?_) (fun h2 => bad (fun q => h2 q.2))⟩
  obtain ⟨x, hx, rfl⟩ := ok4_x h1
  have ic : (nI x).toNatClampNeg = x := i_cl (show x < 2 ^ 31 by omega)
  refine gB_det (s_lacks hw h hx) ⟨_, rfl, fun c => ?_, fun c => ?_⟩
  · rw [fnd_p] at c
    obtain ⟨c1, c2, j, hj, rfl, c3⟩ := fnd_0 hw hx c
    have eU : U_put τ (nI x) f (nI j) v = gw_u τ 171 (60 * x + j) (nrw (τ 169 x) v) := by rw [U_put, if_pos ⟨h1, h2⟩, ic, if_pos c, i_cl (show j < 2 ^ 31 by omega)]
    refine gB_det (s_keep h hx hj) ⟨rfl, by rw [A_put, if_pos ⟨h1, h2⟩, ic, if_pos c], by rw [eU]; exact h.u, FMo.u (by omega)⟩
  · rw [fnd_p] at c
    exact QN.find h (by rw [U_put, if_pos ⟨h1, h2⟩, ic, if_neg c]) (by rw [A_put, if_pos ⟨h1, h2⟩, ic, if_neg c])
def A_get (τ : gw_S) (s f i : Int32) : Int32 := if okP s f then (if fnd τ s.toNatClampNeg f i = 0 then τ 171 (60 * s.toNatClampNeg + i.toNatClampNeg) else -2147483648) else -2147483648
def U_get (τ : gw_S) (s f i : Int32) : gw_S := if okP s f then (if fnd τ s.toNatClampNeg f i = 0 then τ else U_find τ (fnd τ s.toNatClampNeg f i)) else τ
theorem w_get {τ : gw_S} {s f i : Int32} (hw : WF τ) : WF (U_get τ s f i) := by
  unfold U_get
  split
  · split
    · exact hw
    · exact w_find hw
  · exact hw
theorem c_get {d : Nat} {s f i : Int32} {τ σ : gw_S} (hw : WF τ) (h : TC τ σ) : gB (d + 2) mX8_get [.ref 0, .int s, .int f, .int i] σ (QU τ (U_get τ s f i) σ (A_get τ s f i)) := by
  have bad : ¬ okP s f → QU τ (U_get τ s f i) σ (A_get τ s f i) (some (.int (-2147483648))) σ := fun c => QU.no h (by rw [U_get, if_neg c]) (by rw [A_get, if_neg c])
  refine eX8_get (gB_det s_isWithin ⟨_, rfl, br_bj (fun h1 => ?_) (fun h1 => bad (fun q => h1 q.1))⟩)
  refine gB_det s_isWithin ⟨_, rfl, br_bi (fun h2 => ?_) (fun h2 => bad (fun q => h2 q.2))⟩
  obtain ⟨x, hx, rfl⟩ := ok4_x h1
  have ic : (nI x).toNatClampNeg = x := i_cl (show x < 2 ^ 31 by omega)
  have vi : vp_in (nI x) 4 := vp_in_nI hx (by decide)
  refine gB_det (s_findingAt hw h hx) ⟨_, rfl, fun c => ?_, fun c => ?_⟩
  · obtain ⟨c1, c2, j, hj, rfl, c3⟩ := fnd_0 hw hx c
    have jc : (nI j).toNatClampNeg = j := i_cl (show j < 2 ^ 31 by omega)
    rw [ic, jc]
    refine ⟨vi, 28 + x, (sh_q hx).1, (sh_q hx).2, vp_in_nI hj (by decide), QU.no h (by rw [U_get, if_pos ⟨h1, h2⟩, ic, if_pos c]) ?_⟩
    rw [A_get, if_pos ⟨h1, h2⟩, ic, if_pos c, jc, (h.2.2.2.1 x hx).2.2 j hj]
  · refine gB_det s_find ⟨_, rfl, ?_, ?_, Or.inl ⟨?_, KP.u (by decide)⟩, FCl.u (by decide)⟩
    · rw [A_get, if_pos ⟨h1, h2⟩, ic, if_neg c]
    · rw [U_get, if_pos ⟨h1, h2⟩, ic, if_neg c]; exact h.find
    · rw [U_get, if_pos ⟨h1, h2⟩, ic, if_neg c]; exact SD.u (by decide)
theorem m_get {d : Nat} {s f i : Int32} {τ σ : gw_S} (hw : WF τ) (h : TM τ σ) : gB (d + 2) mX9_get [.ref 1, .int s, .int f, .int i] σ (QN (U_get τ s f i) σ (A_get τ s f i)) := by
  have bad : ¬ okP s f → QN (U_get τ s f i) σ (A_get τ s f i) (some (.int (-2147483648))) σ := fun c => QN.no h (by rw [U_get, if_neg c]) (by rw [A_get, if_neg c])
  refine eX9_get (gB_det s_isSheet2 ⟨_, rfl, br_bj (fun h1 => ?_) (fun h1 => bad (fun q => h1 q.1))⟩)
  refine gB_det s_in2 ⟨_, rfl, br_bi (fun h2 => ?_) (fun h2 => bad (fun q => h2 q.2))⟩
  obtain ⟨x, hx, rfl⟩ := ok4_x h1
  have ic : (nI x).toNatClampNeg = x := i_cl (show x < 2 ^ 31 by omega)
  refine gB_det (s_lacks hw h hx) ⟨_, rfl, fun c => ?_, fun c s7 q7 => ?_⟩
  · rw [fnd_p] at c
    obtain ⟨c1, c2, j, hj, rfl, c3⟩ := fnd_0 hw hx c
    have jc : (nI j).toNatClampNeg = j := i_cl (show j < 2 ^ 31 by omega)
    rw [e60, i_cl (show 60 * x + j < 2 ^ 31 by omega)]
    refine ⟨vp_in_nI (by omega) (by decide), QN.no h (by rw [U_get, if_pos ⟨h1, h2⟩, ic, if_pos c]) ?_⟩
    rw [A_get, if_pos ⟨h1, h2⟩, ic, if_pos c, jc, h.1 171 (by decide)]
  · rw [fnd_p] at c
    refine ⟨?_, ?_, ?_⟩
    · rw [A_get, if_pos ⟨h1, h2⟩, ic, if_neg c]
    · rw [U_get, if_pos ⟨h1, h2⟩, ic, if_neg c, q7]; exact h.u
    · rw [q7]; exact FMo.u (by decide)
theorem gw_min_n {a b : Nat} (ha : a < 2 ^ 31) (hb : b < 2 ^ 31) : gw_min (nI a) (nI b) = nI (min a b) := by
  unfold gw_min
  by_cases c : b < a
  · rw [if_pos ((nI_ltI hb ha).mpr c), Nat.min_eq_right (by omega)]
  · rw [if_neg (fun q => c ((nI_ltI hb ha).mp q)), Nat.min_eq_left (by omega)]
/-! write -/
def wrN (τ : gw_S) (b x : Nat) : Nat → gw_S
  | 0 => τ
  | i + 1 => gw_u (wrN τ b x i) 171 (60 * x + i) (nrw (τ 169 x) (alI (simT τ (i + 1)) b))
theorem wrN_ne {τ : gw_S} {b x k : Nat} (h : k ≠ 171) : ∀ i, wrN τ b x i k = τ k
  | 0 => rfl
  | i + 1 => by
    unfold wrN
    rw [gw_ne h, wrN_ne h i]
theorem wrN_w {τ : gw_S} {b x : Nat} (hw : WF τ) : ∀ i, WF (wrN τ b x i)
  | 0 => hw
  | i + 1 => (wrN_w hw i).item
theorem wrN_sd {τ : gw_S} {b x i : Nat} : SD τ (wrN τ b x i) := SD.she (fun k h1 _ => wrN_ne (by omega) i) (fun j _ => by rw [wrN_ne (by decide)])
def wrM (τ : gw_S) (x : Nat) : Nat := min (τ 170 x).toNatClampNeg 40
def A_write (τ : gw_S) (b s : Int32) : Int32 := if okB τ b ∧ ok4 s then (if τ 168 s.toNatClampNeg = 0 then -11 else nI (wrM τ s.toNatClampNeg)) else -2
def U_write (τ : gw_S) (b s : Int32) : gw_S := if okB τ b ∧ ok4 s then (if τ 168 s.toNatClampNeg = 0 then U_find τ 1 else wrN τ b.toNatClampNeg s.toNatClampNeg (wrM τ s.toNatClampNeg)) else τ
theorem w_write {τ : gw_S} {b s : Int32} (hw : WF τ) : WF (U_write τ b s) := by
  unfold U_write
  split
  · split
    · exact w_find hw
    · exact wrN_w hw _
  · exact hw
/-- an answer of the class after which its days still stand -/
def QX (τ τ' σ : gw_S) (A : Int32) : Option Value → gw_S → Prop := fun v σ' => v = some (.int A) ∧ TC τ' σ' ∧ CN τ' σ' ∧ SD τ τ' ∧ (σ' 0 11 = σ 0 11 ∧ σ' 0 12 = σ 0 12) ∧ FCl σ σ'
theorem QU.qx {τ τ' σ : gw_S} {A : Int32} {v : Option Value} {σ' : gw_S} (hc : CN τ σ) (hs : SD τ τ' ∧ KP σ σ') (h : QU τ τ' σ A v σ') : QX τ τ' σ A v σ' := ⟨h.1, h.2.1, (hc.kp hs.2).sd hs.1, hs.1, ⟨hs.2.2.1, hs.2.2.2.1⟩, h.2.2.2⟩
theorem c_write {d : Nat} {b s : Int32} {τ σ : gw_S} (hw : WF τ) (h : TC τ σ) (hc : CN τ σ) : gB (d + 5) mX8_write [.ref 0, .int b, .int s] σ (QX τ (U_write τ b s) σ (A_write τ b s)) := by
  have e74 : σ 7 4 = nI (NB τ) := h.1.2.2.2.2.2.2.1.1
  have bad : ¬ (okB τ b ∧ ok4 s) → QX τ (U_write τ b s) σ (A_write τ b s) (some (.int (-2))) σ := fun c => by
    rw [U_write, if_neg c, A_write, if_neg c]
    exact ⟨rfl, h, hc, SD.rf, ⟨rfl, rfl⟩, FCl.rf⟩
  refine eX8_write (gB_det s_isBottleC ?_)
  rw [e74]
  refine ⟨_, rfl, br_bj (fun h1 => ?_) (fun h1 => bad (fun q => h1 q.1))⟩
  refine gB_det s_isWithin ⟨_, rfl, br_bi (fun h2 => ?_) (fun h2 => bad (fun q => h2 q.2))⟩
  obtain ⟨B, hB, rfl⟩ := okB_n hw h1
  obtain ⟨x, hx, rfl⟩ := ok4_x h2
  have hn := NB_le hw
  have bc : (nI B).toNatClampNeg = B := i_cl (show B < 2 ^ 31 by omega)
  have ic : (nI x).toNatClampNeg = x := i_cl (show x < 2 ^ 31 by omega)
  have vi : vp_in (nI x) 4 := vp_in_nI hx (by decide)
  obtain ⟨t1, t2⟩ := sh_there hw h hx
  rw [ic]
  refine ⟨vi, fun c => ⟨vi, ?_⟩, fun c => ?_⟩
  · have c2 : ¬ τ 168 x = 0 := fun q => c (t1.mpr q)
    obtain ⟨-, z, hz, ez, ez2⟩ := t2 c2
    have em : wrM τ x = min z 40 := by rw [wrM, ez, i_cl (show z < 2 ^ 31 by omega)]
    have eU : U_write τ (nI B) (nI x) = wrN τ B x (wrM τ x) := by rw [U_write, if_pos ⟨h1, h2⟩, ic, if_neg c2, bc]
    have eA : A_write τ (nI B) (nI x) = nI (wrM τ x) := by rw [A_write, if_pos ⟨h1, h2⟩, ic, if_neg c2]
    have eM : gw_min (nI z) 40 = nI (wrM τ x) := by
      rw [em, show (40 : Int32) = nI 40 from rfl, gw_min_n (by omega) (by decide)]
    rw [ez2, eM, eU, eA]
    have key : ∀ m i (r : gw_S), i + m = wrM τ x → TC (wrN τ B x i) r → CN (wrN τ B x i) r → (r 0 11 = σ 0 11 ∧ r 0 12 = σ 0 12) → FCl σ r → gG (d + 4 + 1) mX8_write 56 [some (.ref 0), some (.int (nI B)), some (.int (nI x)), some (.int (nI (wrM τ x))), some (.int (nI i))] [] r (QX τ (wrN τ B x (wrM τ x)) σ (nI (wrM τ x))) := by
      intro m
      induction m with
      | zero =>
        intro i r hi k1 k2 k3 k4
        have : i = wrM τ x := by omega
        subst this
        exact bX8_write_56 ⟨fun _ => ⟨rfl, k1, k2, wrN_sd, k3, k4⟩, fun q => absurd (nI_le (Nat.le_refl _) (by omega)) q⟩
      | succ m ih =>
        intro i r hi k1 k2 k3 k4
        refine bX8_write_56 ⟨fun q => absurd q (nI_ge (by omega) (by omega)), fun _ => (s_behind (wrN_w hw i) k1 k2 (show i < 40 by omega)).mono ?_⟩
        rintro _ σ7 ⟨rfl, g1, g2, g3, g4⟩
        have hq := CN.of (show i < 40 by omega) g2 g3
        have es : simT (wrN τ B x i) (i + 1) = simT τ (i + 1) := simG_sd wrN_sd _
        have en : NB (wrN τ B x i) = NB τ := (NB_sd wrN_sd).1
        have k1' := k1.fr g4.tc
        refine ⟨rfl, gB_det (s_allIn st_now g3 (by rw [en]; exact hB)) ⟨_, rfl, gB_det (s_setItem (wrN_w hw i) k1' hx (by rw [wrN_ne (by decide)]; exact c2) (show i < 60 by omega)) ⟨rfl, ?_⟩⟩⟩
        rw [nI_1, es, wrN_ne (show (169 : Nat) ≠ 171 by decide)]
        refine ih (i + 1) _ (by omega) (k1'.item hx (by omega)) ((hq.kp (KP.u (by omega))).sd (SD.u (by omega))) ?_ ?_
        · rw [gw_ne (show (0 : Nat) ≠ 28 + x by omega), g4.2 11 (by decide), g4.2 12 (by decide)]
          exact k3
        · refine (k4.tr (fun k hk => g4.1 k (by omega) (by omega))).tr (FCl.u (by omega))
    exact key (wrM τ x) 0 σ (by omega) h hc ⟨rfl, rfl⟩ FCl.rf
  · refine gB_det s_find ⟨_, rfl, ?_⟩
    rw [U_write, if_pos ⟨h1, h2⟩, ic, if_pos (t1.mp c), A_write, if_pos ⟨h1, h2⟩, ic, if_pos (t1.mp c)]
    exact ⟨rfl, h.find, (hc.kp (KP.u (by decide))).sd (SD.u (by decide)), SD.u (by decide), ⟨by rw [gw_nj (by decide)], by rw [gw_nj (by decide)]⟩, FCl.u (by decide)⟩
theorem m_write {d : Nat} {b s : Int32} {τ σ : gw_S} (hw : WF τ) (h : TM τ σ) : gB (d + 8) mX9_write [.ref 1, .int b, .int s] σ (QN (U_write τ b s) σ (A_write τ b s)) := by
  refine eX9_write ((s_isBottleM hw h).mono ?_)
  rintro _ σ1 ⟨rfl, -, g2, g3⟩
  have bad : ¬ (okB τ b ∧ ok4 s) → QN (U_write τ b s) σ (A_write τ b s) (some (.int (-2))) σ1 := fun c => by
    rw [U_write, if_neg c, A_write, if_neg c]
    exact ⟨rfl, g2, FSc.mo g3⟩
  refine ⟨_, rfl, br_bj (fun h1 => ?_) (fun h1 => bad (fun q => h1 q.1))⟩
  refine gB_det s_isSheet2 ⟨_, rfl, br_bi (fun h2 => ?_) (fun h2 => bad (fun q => h2 q.2))⟩
  obtain ⟨B, hB, rfl⟩ := okB_n hw h1
  obtain ⟨x, hx, rfl⟩ := ok4_x h2
  have hn := NB_le hw
  have bc : (nI B).toNatClampNeg = B := i_cl (show B < 2 ^ 31 by omega)
  have ic : (nI x).toNatClampNeg = x := i_cl (show x < 2 ^ 31 by omega)
  have vi : vp_in (nI x) 4 := vp_in_nI hx (by decide)
  rw [ic, g2.1 168 (by decide)]
  refine ⟨vi, fun c2 => ?_, fun c => ?_⟩
  · have w := hw.2.2.2.2.2 x hx
    obtain ⟨-, z, hz, ez⟩ := w.2 (w.1.resolve_left c2)
    have em : wrM τ x = min z 40 := by rw [wrM, ez, i_cl (show z < 2 ^ 31 by omega)]
    have eU : U_write τ (nI B) (nI x) = wrN τ B x (wrM τ x) := by rw [U_write, if_pos ⟨h1, h2⟩, ic, if_neg c2, bc]
    have eA : A_write τ (nI B) (nI x) = nI (wrM τ x) := by rw [A_write, if_pos ⟨h1, h2⟩, ic, if_neg c2]
    rw [eU, eA]
    have key : ∀ m i (r : gw_S), i + m = wrM τ x → TM (wrN τ B x i) r → FMo σ r → gG (d + 7 + 1) mX9_write 35 [some (.ref 1), some (.int (nI B)), some (.int (nI x)), some (.int (nI i))] [] r (QN (wrN τ B x (wrM τ x)) σ (nI (wrM τ x))) := by
      intro m
      induction m with
      | zero =>
        intro i r hi k1 k2
        have : i = wrM τ x := by omega
        subst this
        refine bX9_write_35 ?_
        rw [ic, k1.1 170 (by decide), wrN_ne (by decide), ez]
        refine ⟨vi, fun _ => ⟨rfl, k1, k2⟩, fun q => ⟨fun _ => ⟨rfl, k1, k2⟩, fun q2 => ?_⟩⟩
        rw [nI_leI (by omega) (by omega)] at q
        rw [show (40 : Int32) = nI 40 from rfl, nI_leI (by omega) (by omega)] at q2
        omega
      | succ m ih =>
        intro i r hi k1 k2
        refine bX9_write_35 ?_
        rw [ic, k1.1 170 (by decide), wrN_ne (by decide), ez]
        refine ⟨vi, fun q => absurd q (nI_ge (by omega) (by omega)), fun _ => ⟨fun q => absurd q (nI_ge (b := 40) (by omega) (by decide)), fun _ => ?_⟩⟩
        refine (s_holdsOf (wrN_w hw i) k1 (show i < 40 by omega) (show B < 8 by omega) (Or.inl rfl)).mono ?_
        rintro _ σ7 ⟨rfl, p1, p2⟩
        refine ⟨_, rfl, gB_det (s_keep p1 hx (show i < 60 by omega)) ⟨rfl, ?_⟩⟩
        have es : simT (wrN τ B x i) (i + 1) = simT τ (i + 1) := simG_sd wrN_sd _
        rw [nI_1, aHolds, if_pos rfl, es, wrN_ne (show (169 : Nat) ≠ 171 by decide)]
        exact ih (i + 1) _ (by omega) p1.u ((k2.tr (FSc.mo p2)).tr (FMo.u (by decide)))
    exact key (wrM τ x) 0 σ1 (by omega) g2 (FSc.mo g3)
  · refine gB_det s_meets ⟨_, rfl, ?_⟩
    rw [U_write, if_pos ⟨h1, h2⟩, ic, if_pos c, A_write, if_pos ⟨h1, h2⟩, ic, if_pos c]
    exact ⟨rfl, g2.u, (FSc.mo g3).tr (FMo.u (by decide))⟩
