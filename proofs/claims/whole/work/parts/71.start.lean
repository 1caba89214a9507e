/-! at the start nothing is told -/
theorem t0_n0 : n0 s0 = 0 := rfl
theorem t0_n1 : n1 s0 = 0 := rfl
theorem t0_nH : nH s0 = 0 := rfl
theorem t0_nA : nA s0 = 0 := rfl
theorem t0_nW : nW s0 = 0 := rfl
theorem t0_B {f : Nat → Int32} : nBo f 0 = 0 := by unfold nBo; split <;> rfl
theorem t0_L {f : Nat → Int32} : nLe f 0 = 0 := by unfold nLe; split <;> rfl
theorem TM0 : TM s0 s0 := ⟨fun _ _ => rfl, fun _ _ => rfl⟩
theorem t0_168 : ∀ s, s < 4 → s0 168 s = 0 := fun _ _ => rfl
theorem WF0 : WF s0 := by
  refine ⟨⟨rfl, by rw [t0_n0]; omega, rfl, by rw [t0_n1]; omega⟩, ⟨rfl, by rw [t0_nH]; omega, fun j hj => ?_⟩, ⟨by decide, by decide⟩, ⟨rfl, by rw [t0_nA]; omega, fun j hj => ?_⟩, ⟨rfl, by rw [t0_nW]; omega, fun j hj => ?_⟩, fun s hs => ⟨Or.inl (t0_168 s hs), fun q => ?_⟩⟩
  · rw [t0_nH] at hj; omega
  · rw [t0_nA] at hj; omega
  · rw [t0_nW] at hj; omega
  · rw [t0_168 s hs] at q
    exact absurd q (by decide)
theorem TC0 : TC s0 s0 := by
  refine ⟨⟨rfl, rfl, rfl, rfl, fun j hj => ?_, fun j hj => ?_, ⟨?_, fun b hb => ?_, ?_⟩, ⟨?_, fun i hi => ?_⟩⟩, ⟨rfl, fun a ha => ?_, rfl, fun a ha => ?_, rfl⟩, ⟨rfl, fun a ha => ?_⟩, ⟨fun s hs => ⟨fun _ => ?_, fun q => ?_, fun j hj => ?_⟩, rfl⟩⟩
  · rw [t0_n0] at hj; omega
  · rw [t0_n1] at hj; omega
  · rw [t0_n0, t0_B]; rfl
  · rw [t0_n0, t0_B] at hb; omega
  · rw [t0_n0, t0_B]; rfl
  · rw [t0_n1, t0_L]; rfl
  · rw [t0_n1, t0_L] at hi; omega
  · rw [t0_nA] at ha; omega
  · rw [t0_nH] at ha; omega
  · rw [t0_nW] at ha; omega
  · show fiF (fun _ => 0) (-1) 4 s = -1
    unfold fiF
    rw [if_pos hs]
  · rw [t0_168 s hs] at q
    exact absurd q (by decide)
  · have : s = 0 ∨ s = 1 ∨ s = 2 ∨ s = 3 := by omega
    rcases this with rfl | rfl | rfl | rfl <;> rfl
theorem IC0 : IC s0 s0 := ⟨TC0, fun h => absurd h (by decide), Or.inl rfl⟩
