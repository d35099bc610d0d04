/-! A NEW CLOCK, both -/
theorem CG.off2 {W : Int} {g κ κ' : Mem} (hW : isW W) (h : CG W g κ) (r : ∀ k i, (k = 1 ∧ i = 5) ∨ (3 ≤ k ∧ k ≤ 20) → κ' k i = κ k i) : CG W g κ' := by
  have hW : W = 3 ∨ W = 12 := hW
  obtain ⟨a, b, c, d, e⟩ := h
  refine ⟨fun i i0 i1 => by rw [r _ _ (by omega)]; exact a i i0 i1, by rw [r _ _ (by omega)]; exact b, fun i i0 i1 => by rw [r _ _ (by omega), r _ _ (by omega)]; exact c i i0 i1, fun l l0 l1 => by rw [r _ _ (by omega), r _ _ (by omega), r _ _ (by omega), r _ _ (by omega)]; exact d l l0 l1, fun f f0 f1 => by rw [r _ _ (by omega), r _ _ (by omega)]; exact e f f0 f1⟩
theorem SW_lo {κ m : Mem} (hW : isW (wW κ)) (o : ∀ k i, k ≤ 20 → m k i = κ k i) : SW κ m := by
  have hW' : wW κ = 3 ∨ wW κ = 12 := hW
  have e : wW m = wW κ := o 0 1 (by decide)
  refine ⟨e, ?_, ?_, ?_, o _ _ (by omega), o _ _ (by omega), fun i => o _ _ (by omega), fun i => o _ _ (by omega), fun i _ => o _ _ (by omega), fun i _ => o _ _ (by omega), fun i _ => o _ _ (by omega)⟩
  · show m (wW m) 0 = _; rw [e]; exact o _ _ (by omega)
  · show m (wW m) 1 = _; rw [e]; exact o _ _ (by omega)
  · show m (wW m) 2 = _; rw [e]; exact o _ _ (by omega)
theorem wc_cg {W : Int} {g m : Mem} (ew : wW m = W) (cw : CG W g m) (gr : GR g) : WC m := by
  obtain ⟨c1, c2, c3, c4, c5⟩ := cw
  obtain ⟨g1, g2, g3, g4, g5, g6, g7, g8, g9⟩ := gr
  have nw : nW m = g 0 0 := by show m (wW m) 0 = _; rw [ew]; exact c1 0 (by decide) (by decide)
  have nl : nL m = g 0 1 := by show m (wW m) 1 = _; rw [ew]; exact c1 1 (by decide) (by decide)
  refine ⟨by rw [nw]; exact g1, by rw [nl]; exact g2, ?_, ?_, fun i i0 i1 => ?_, fun l l0 l1 => ?_⟩
  · rw [ew, nw, c1 3 (by decide) (by decide)]; exact ⟨g4.1, g4.2.1⟩
  · rw [ew, c1 4 (by decide) (by decide)]; exact g5
  · rw [nw] at i1
    rw [ew, (c3 i i0 i1).1]; exact (g7 i i0 i1).1
  · rw [nl] at l1
    obtain ⟨x1, x2, x3, x4⟩ := c4 l l0 l1
    obtain ⟨y1, y2, y3, y4, y5⟩ := g8 l l0 l1
    rw [ew, nw, x2, x3, x4]; exact ⟨y2, y3, y4, y5⟩
theorem iw_cg {W : Int} {g m : Mem} (hW : isW W) (ew : wW m = W) (w2 : m 0 2 = 15 - W) (cw : CG W g m) (gt : GT g m) (gr : GR g) : IW m := by
  obtain ⟨c1, c2, c3, c4, c5⟩ := cw
  obtain ⟨g1, g2, g3, g4, g5, g6, g7, g8, g9⟩ := gr
  obtain ⟨⟨t1, t2, t3, t4, t5⟩, t6, t7, t8⟩ := gt
  have nw : nW m = g 0 0 := by show m (wW m) 0 = _; rw [ew]; exact c1 0 (by decide) (by decide)
  have nl : nL m = g 0 1 := by show m (wW m) 1 = _; rw [ew]; exact c1 1 (by decide) (by decide)
  have nf : nF m = g 0 2 := by show m (wW m) 2 = _; rw [ew]; exact c1 2 (by decide) (by decide)
  refine ⟨by rw [ew]; exact hW, by rw [ew]; exact w2, by rw [nw, t1]; exact ⟨rfl, g1⟩, by rw [nl, t2]; exact ⟨rfl, g2⟩, by rw [nf, t3]; exact ⟨rfl, g3⟩, ?_, ?_, fun i i0 i1 => ?_, fun l l0 l1 => ?_, fun f f0 f1 => ?_⟩
  · rw [ew, nw, c1 3 (by decide) (by decide), t4]; exact ⟨rfl, g4.1, g4.2.1, g4.2.2⟩
  · rw [ew, c1 4 (by decide) (by decide), t5]; exact ⟨rfl, g5⟩
  · rw [nw] at i1
    rw [ew, (c3 i i0 i1).1, (t6 i i0 i1).1]; exact ⟨rfl, (g7 i i0 i1).1⟩
  · rw [nl] at l1
    obtain ⟨x1, x2, x3, x4⟩ := c4 l l0 l1
    obtain ⟨z1, z2, z3, z4⟩ := t7 l l0 l1
    obtain ⟨y1, y2, y3, y4, y5⟩ := g8 l l0 l1
    rw [ew, nw, x1, x2, x3, x4, z1, z2, z3, z4]; exact ⟨⟨rfl, y2⟩, ⟨rfl, y3⟩, ⟨rfl, y4⟩, y5, ⟨rfl, y1⟩⟩
  · rw [nf] at f1
    obtain ⟨x1, x2⟩ := c5 f f0 f1
    obtain ⟨z1, z2⟩ := t8 f f0 f1
    obtain ⟨y1, y2⟩ := g9 f f0 f1
    rw [ew, nw, x1, x2, z1, z2]; exact ⟨⟨rfl, y1⟩, ⟨rfl, y2⟩⟩
theorem clock_inv {m g : Mem} {W : Int} (hW : isW W) (wf : WF m) (ew : wW m = W) (w2 : m 0 2 = 15 - W) (cw : CG W g m) (gt : GT g m) (gr : GR g) (r1 : m 1 1 = 0 ∧ m 110 22 = 0 ∧ m 1 7 = -1 ∧ m 110 26 = -1) (s1 : m 29 0 = 0 ∧ m 29 1 = 0 ∧ m 29 2 = 0) (s2 : ∀ i, 0 ≤ i → i < g 0 0 → m 30 i = g 2 i ∧ m 111 i = g 2 i) (s3 : m 111 8 = 0 ∧ m 111 9 = 0 ∧ m 111 10 = 0) (s4 : m 0 12 = m 111 11 ∧ 0 ≤ m 0 12 ∧ m 0 12 ≤ 2147483647) (d1 : m 31 2 = 0 ∧ m 110 31 = 0 ∧ 0 ≤ m 31 1 ∧ m 31 1 < 30) (i1 : m 104 2 = 0 ∧ m 107 2 = 0 ∧ m 112 0 = 0 ∧ m 112 1 = 0) (l1 : m 94 3 = 0 ∧ m 110 37 = 0 ∧ m 98 3 = 0 ∧ m 110 42 = 0) (im : IM m) : Inv m := by
  have nw : nW m = g 0 0 := by show m (wW m) 0 = _; rw [ew]; exact cw.1 0 (by decide) (by decide)
  refine ⟨wf, iw_cg hW ew w2 cw gt gr, ⟨?_, fun i i0 i1 => ?_, ?_⟩, ⟨⟨?_, ?_, ?_, fun i i0 i1 => ?_⟩, s4⟩, ⟨?_, d1.2.2, fun j j0 j1 => ?_⟩, fun i i0 i1' => ?_, ⟨?_, ?_, fun j j0 j1 => ?_, fun j j0 j1 => ?_⟩, im⟩
  · rw [r1.1, r1.2.1]; decide
  · rw [r1.1] at i1; omega
  · rw [r1.2.2.1, r1.2.2.2]; decide
  · rw [s1.1, s1.2.1, s1.2.2, show (0 : Int) + 8 = 8 by decide, show (0 : Int) + 9 = 9 by decide, show (0 : Int) + 10 = 10 by decide, s3.1, s3.2.1, s3.2.2]; exact ⟨rfl, rfl, rfl⟩
  · rw [s1.1, s1.2.1]; decide
  · rw [s1.2.2]
    exact ⟨by decide, by have := pw10 (n := (nL m).toNat) (by have : nL m = g 0 1 := by { show m (wW m) 1 = _; rw [ew]; exact cw.1 1 (by decide) (by decide) }; have := gr.2.1; omega); omega⟩
  · rw [nw] at i1
    obtain ⟨x1, x2⟩ := s2 i i0 i1
    rw [show (29 : Int) + 1 = 30 by decide, show 0 + i = i by omega, x1, x2, ew, (cw.2.2.1 i i0 i1).1]
    exact ⟨rfl, (gr.2.2.2.2.2.2.1 i i0 i1).2⟩
  · rw [d1.1, d1.2.1]; decide
  · rw [d1.1] at j1; omega
  · have : i = 0 ∨ i = 1 := by omega
    rcases this with rfl | rfl
    · rw [show (104 : Int) + 3 * 0 = 104 by decide, i1.1, i1.2.2.1]
      exact ⟨by decide, fun e => absurd e (by decide)⟩
    · rw [show (104 : Int) + 3 * 1 = 107 by decide, i1.2.1, i1.2.2.2]
      exact ⟨by decide, fun e => absurd e (by decide)⟩
  · rw [l1.1, l1.2.1]; decide
  · rw [l1.2.2.1, l1.2.2.2]; decide
  · rw [l1.1] at j1; omega
  · rw [l1.2.2.1] at j1; omega
