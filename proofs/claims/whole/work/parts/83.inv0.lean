theorem i0_w : wW MH0 = 3 ∧ MH0 0 2 = 12 ∧ nW MH0 = 0 ∧ nL MH0 = 0 ∧ nF MH0 = 0 := by decide +kernel
theorem i0_m : MH0 110 2 = 0 ∧ MH0 110 3 = 0 ∧ MH0 110 4 = 0 ∧ MH0 110 5 = 0 ∧ MH0 110 6 = 1 ∧ MH0 3 3 = 0 ∧ MH0 3 4 = 1 := by decide +kernel
theorem i0_r : MH0 1 1 = 0 ∧ MH0 110 22 = 0 ∧ MH0 1 7 = -1 ∧ MH0 110 26 = -1 := by decide +kernel
theorem i0_n : MH0 29 0 = 0 ∧ MH0 29 1 = 0 ∧ MH0 29 2 = 0 ∧ MH0 111 8 = 0 ∧ MH0 111 9 = 0 ∧ MH0 111 10 = 0 ∧ MH0 0 12 = 0 ∧ MH0 111 11 = 0 := by decide +kernel
theorem i0_d : MH0 31 1 = 0 ∧ MH0 31 2 = 0 ∧ MH0 110 31 = 0 ∧ MH0 94 3 = 0 ∧ MH0 110 37 = 0 ∧ MH0 98 3 = 0 ∧ MH0 110 42 = 0 ∧ MH0 21 4 = 0 ∧ MH0 21 5 = 0 := by decide +kernel
theorem i0_i : MH0 104 2 = 0 ∧ MH0 112 0 = 0 ∧ MH0 107 2 = 0 ∧ MH0 112 1 = 0 := by decide +kernel
theorem i0_f : WF MH0 := by unfold WF; decide +kernel
theorem InvMH0 : Inv MH0 := by
  obtain ⟨a1, a2, a3, a4, a5⟩ := i0_w
  obtain ⟨b1, b2, b3, b4, b5, b6, b7⟩ := i0_m
  obtain ⟨c1, c2, c3, c4⟩ := i0_r
  obtain ⟨d1, d2, d3, d4, d5, d6, d7, d8⟩ := i0_n
  obtain ⟨e1, e2, e3, e4, e5, e6, e7, e8, e9⟩ := i0_d
  obtain ⟨f1, f2, f3, f4⟩ := i0_i
  refine ⟨i0_f, ⟨Or.inl a1, by rw [a1, a2]; rfl, by rw [a3, b1]; decide, by rw [a4, b2]; decide, by rw [a5, b3]; decide, ?_, ?_, fun i h0 h1 => by rw [a3] at h1; omega, fun i h0 h1 => by rw [a4] at h1; omega, fun i h0 h1 => by rw [a5] at h1; omega⟩, ⟨by rw [c1, c2]; decide, fun i h0 h1 => by rw [c1] at h1; omega, by rw [c3, c4]; decide⟩, ⟨⟨⟨d1.trans d4.symm, d2.trans d5.symm, d3.trans d6.symm⟩, by rw [d1, d2]; decide, by rw [d3, a4]; decide, fun i h0 h1 => by rw [a3] at h1; omega⟩, by rw [d7, d8]; decide⟩, ⟨by rw [e2, e3]; decide, by rw [e1]; decide, fun j h0 h1 => by rw [e2] at h1; omega⟩, ?_, ⟨by rw [e4, e5]; decide, by rw [e6, e7]; decide, fun j h0 h1 => by rw [e4] at h1; omega, fun j h0 h1 => by rw [e6] at h1; omega⟩, ?_, ?_, fun w h0 h1 => by rw [a3] at h1; omega⟩
  · rw [a1, a3, b6, b4]; decide
  · rw [a1, b7, b5]; decide
  · intro i h0 h1
    have : i = 0 ∨ i = 1 := by omega
    rcases this with rfl | rfl
    · refine ⟨⟨f1.trans f2.symm, by rw [f2]; decide, by rw [f2]; decide⟩, fun c => by rw [f2] at c; omega⟩
    · refine ⟨⟨f3.trans f4.symm, by rw [f4]; decide, by rw [f4]; decide⟩, fun c => by rw [f4] at c; omega⟩
  · rw [e9]
    exact Or.inl ⟨rfl, fun c => by rw [a3] at c; omega, fun w h0 h1 => by rw [a3] at h1; omega, fun w h0 h1 => by rw [a3] at h1; omega⟩
  · rw [e8, a3]; decide
