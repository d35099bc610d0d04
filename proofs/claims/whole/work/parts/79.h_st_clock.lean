theorem rt_of {μ : Mem} (wf : WF μ) (ir : IR μ) : RT (μ 2) (μ 1 1) μ :=
  ⟨wf, ir.1.1.symm, ir.1.2, fun i i0 i1 => by obtain ⟨a, b, c⟩ := ir.2.1 i i0 i1; exact ⟨a.symm, b, c⟩⟩
theorem clock_bad {μ κ m : Mem} {W p : Int} (h : Inv μ) (e : W = 15 - wW μ) (of : Off (FC' W) μ κ) (o9 : Off F9 κ m) (k1 : κ 1 1 = 0) (k7 : κ 1 7 = p) (m22 : m 110 22 = 0) (m26 : m 110 26 = p) (hp : 0 ≤ p ∧ p ≤ 250) : Inv m := by
  obtain ⟨wf, iw, ir, inn, idd, ii, il, im⟩ := h; have hW : wW μ = 3 ∨ wW μ = 12 := iw.1; have hnW := iw.2.2.1; have hnL := iw.2.2.2.1; have hnF := iw.2.2.2.2.1
  have all : ∀ k i, ¬ (FC' W k i ∨ F9 k i) → m k i = μ k i := fun k i c => (o9 k i (fun x => c (Or.inr x))).trans (of k i (fun x => c (Or.inl x)))
  have cW : W = 12 ∧ wW μ = 3 ∨ W = 3 ∧ wW μ = 12 := by omega
  have sw : Sm (dW (wW μ) (nL μ)) μ m := fun k i d => all k i (by
    unfold dW at d
    unfold FC' FC FRd F9 FN
    rcases cW with ⟨a, b⟩ | ⟨a, b⟩ <;> rw [a] <;> rw [b] at d <;> omega)
  have sm : ∀ d : Int → Int → Prop, (∀ k i, d k i → ¬ (k = 1 ∧ 1 ≤ i ∧ i ≤ 7) ∧ ¬ (3 ≤ k ∧ k ≤ 20) ∧ ¬ (k = 110 ∧ (7 ≤ i ∧ i ≤ 12 ∨ 22 ≤ i ∧ i ≤ 26)) ∧ ¬ (113 ≤ k ∧ k ≤ 120)) → Sm d μ m := fun d hd k i c => all k i (by
    have := hd k i c
    unfold FC' FC FRd F9 FN
    omega)
  have ew := SW_of sw
  have m11 : m 1 1 = 0 := by rw [o9 1 1 (by unfold F9 FN; omega)]; exact k1
  have m17 : m 1 7 = p := by rw [o9 1 7 (by unfold F9 FN; omega)]; exact k7
  refine ⟨?_, IW_sm iw sw, ⟨?_, fun i i0 i1 => ?_, ?_⟩, IN_sm inn hnW.2.2 ew (sm dN (fun k i c => by unfold dN at c; omega)), ID_sm idd hnW.2.2 ew (sm dD (fun k i c => by unfold dD at c; omega)), II_sm ii hnW.2.2 ew (sm dI (fun k i c => by unfold dI at c; omega)), IL_sm il ew (sm dL (fun k i c => by unfold dL at c; omega)), IM_sm im ew (sm dM (fun k i c => by unfold dM at c; omega))⟩
  · exact wf_sm wf (fun k i d => all k i (by
      unfold dF at d
      unfold FC' FC FRd F9 FN
      rcases cW with ⟨a, b⟩ | ⟨a, b⟩ <;> rw [a] <;> omega))
  · rw [m11, m22]; decide
  · rw [m11] at i1; omega
  · rw [m17, m26]; exact ⟨rfl, by omega, by omega⟩
theorem st_clock {G : Gm} {μ : Mem} (h : Inv μ) : Both G mX7_clock mX8_clock [] μ := by
  have h' := h
  obtain ⟨wf, iw, ir, inn, idd, ii, il, im⟩ := h; have hW : wW μ = 3 ∨ wW μ = 12 := iw.1; have hnW := iw.2.2.1; have hnL := iw.2.2.2.1; have hnF := iw.2.2.2.2.1
  have e02 : μ 0 2 = 15 - wW μ := iw.2.1
  have rt := rt_of wf ir
  have hn := ir.1.2
  generalize hT : μ 2 = T at *
  generalize hnn : μ 1 1 = n at *
  obtain ⟨W, eW⟩ : ∃ W, W = 15 - wW μ := ⟨_, rfl⟩
  have hW2 : isW W := by show W = 3 ∨ W = 12; omega
  have cW : W = 12 ∧ wW μ = 3 ∨ W = 3 ∧ wW μ = 12 := by omega
  refine eX7_clock (fun Φ hΦ hR => bX7_clock_0 hΦ hR ⟨so_0, ?_⟩)
  rw [wf_0_0 wf, e02, ← eW]
  refine ⟨so_1, c4_read (T := T) (n := n) wf hW2 hn hnn (fun i i0 i1 => ⟨by rw [hT], (rt.2.2.2 i i0 i1).2⟩) (fun κ3 N na pre cs cg of k1 => ?_)⟩
  obtain ⟨gr, bd⟩ := itr_p (T := T) hn.1 N pre
  have r6 := cs.r6
  have f3 : ∀ k i, ¬ FC' W k i → κ3 k i = μ k i := of
  have a00 : κ3 0 0 = 1 := (f3 0 0 (by unfold FC' FC FRd; omega)).trans (wf_0_0 wf)
  have a01 : κ3 0 1 = wW μ := f3 0 1 (by unfold FC' FC FRd; omega)
  have a02 : κ3 0 2 = W := ((f3 0 2 (by unfold FC' FC FRd; omega)).trans e02).trans eW.symm
  rw [a00, a01, a02]
  refine ⟨so_1, ⟨by omega, by omega⟩, fun c => ⟨so_W hW, so_W hW2, ?_⟩, fun c => ?_⟩
  · have z := r6.2.2.mp c
    have cg3 := cg z
    have k7 := (cs.2.2.1 z).2.2
    rintro m8 e8 m9 e9
    have o9 : ∀ k i, ¬ (k = 0 ∧ 1 ≤ i ∧ i ≤ 2) → m9 k i = κ3 k i := fun k i d => by rw [e9, mu_off2 (by omega), e8, mu_off2 (by omega)]
    have w91 : wW m9 = W := by show m9 0 1 = W; rw [e9, mu_off2 (by omega), e8, mu_same]
    have w92 : m9 0 2 = wW μ := by rw [e9, mu_same]
    have cg9 : CG W (itr T n N).1 m9 := cg3.off2 hW2 (fun k i d => o9 k i (by omega))
    have wf9 : WF m9 := wf_sm wf (fun k i d => by
      rw [o9 k i (by unfold dF at d; omega)]
      refine f3 k i ?_
      unfold dF at d
      unfold FC' FC FRd
      rcases cW with ⟨a, b⟩ | ⟨a, b⟩ <;> rw [a] <;> omega)
    refine c7_beginClock wf9 (by rw [w91]; exact hW2) (wc_cg w91 cg9 gr) (fun κ10 o10 d10 p10 z10 im10 => ?_)
    rw [w91] at p10
    have f10 : ∀ k i, ¬ FBg k i → κ10 k i = m9 k i := o10
    have w101 : wW κ10 = W := by
      show κ10 0 1 = W
      rw [f10 0 1 (by unfold FBg FM; omega)]; exact w91
    have cg10 : CG W (itr T n N).1 κ10 := cg9.off2 hW2 (fun k i d => f10 k i (by unfold FBg FM; omega))
    have all10 : ∀ k i, ¬ FC' W k i → ¬ FBg k i → ¬ (k = 0 ∧ 1 ≤ i ∧ i ≤ 2) → κ10 k i = μ k i := fun k i x1 x2 x3 => ((f10 k i x2).trans (o9 k i x3)).trans (f3 k i x1)
    have rt10 : RT T n κ10 := rt.off (fun k i d => all10 k i (by unfold dF at d; unfold FC' FC FRd; rcases cW with ⟨a, b⟩ | ⟨a, b⟩ <;> rw [a] <;> omega) (by unfold dF at d; unfold FBg FM; omega) (by unfold dF at d; omega))
    have e101 : κ10 0 1 = W := w101
    rw [e101, cg10.1 0 (by decide) (by decide)]
    refine ⟨so_W hW2, c8_clock rt10 na pre (fun y => absurd z y) (fun _ m o8 m22 m26 gt p8 s8 d8 i8 => ?_)⟩
    have f8 : ∀ k i, ¬ F8 k i → m k i = κ10 k i := o8
    refine ⟨rfl, ⟨by have := gr.1; omega, by have := gr.1; omega⟩, ?_⟩
    have lo : ∀ k i, k < 110 → m k i = κ10 k i := fun k i x => f8 k i (by unfold F8; omega)
    have allm : ∀ k i, ¬ FC' W k i → ¬ FBg k i → ¬ (k = 0 ∧ 1 ≤ i ∧ i ≤ 2) → ¬ F8 k i → m k i = μ k i := fun k i x1 x2 x3 x4 => (f8 k i x4).trans (all10 k i x1 x2 x3)
    have wfm : WF m := wf_sm rt10.1 (fun k i d => f8 k i (by unfold dF at d; unfold F8; omega))
    have gr1 := gr.1
    obtain ⟨i1, i2, i3, i4⟩ := inn
    refine clock_inv (W := W) (g := (itr T n N).1) hW2 wfm ?_ ?_ (cg10.off2 hW2 (fun k i d => lo k i (by omega))) gt gr ⟨?_, m22, ?_, m26⟩ ⟨?_, ?_, ?_⟩ (fun i i0 i1 => ⟨?_, p8 i i0 i1⟩) s8 ⟨?_, ?_, ?_⟩ ⟨?_, d8.1, ?_, ?_⟩ ⟨?_, ?_, i8.1, i8.2⟩ ⟨?_, d8.2.1, ?_, d8.2.2⟩ ?_
    · show m 0 1 = W
      rw [lo 0 1 (by decide)]; exact e101
    · rw [lo 0 2 (by decide), f10 0 2 (by unfold FBg FM; omega), w92]; omega
    · rw [lo 1 1 (by decide), f10 1 1 (by unfold FBg FM; omega), o9 1 1 (by omega)]; exact k1
    · rw [lo 1 7 (by decide), f10 1 7 (by unfold FBg FM; omega), o9 1 7 (by omega)]; exact k7
    · rw [lo 29 0 (by decide)]; exact d10.1
    · rw [lo 29 1 (by decide)]; exact d10.2.1
    · rw [lo 29 2 (by decide)]; exact d10.2.2
    · rw [lo 30 i (by decide), p10 i i0 (by omega)]; exact (cg9.2.2.1 i i0 i1).2
    · rw [allm 0 12 (by unfold FC' FC FRd; omega) (by unfold FBg FM; omega) (by omega) (by unfold F8; omega), allm 111 11 (by unfold FC' FC FRd; omega) (by unfold FBg FM; omega) (by omega) (by unfold F8; omega)]; exact i2
    · rw [allm 0 12 (by unfold FC' FC FRd; omega) (by unfold FBg FM; omega) (by omega) (by unfold F8; omega)]; exact i3
    · rw [allm 0 12 (by unfold FC' FC FRd; omega) (by unfold FBg FM; omega) (by omega) (by unfold F8; omega)]; exact i4
    · rw [lo 31 2 (by decide)]; exact z10.2.2.1
    · rw [allm 31 1 (by unfold FC' FC FRd; omega) (by unfold FBg FM; omega) (by omega) (by unfold F8; omega)]; exact idd.2.1.1
    · rw [allm 31 1 (by unfold FC' FC FRd; omega) (by unfold FBg FM; omega) (by omega) (by unfold F8; omega)]; exact idd.2.1.2
    · rw [lo 104 2 (by decide)]; exact z10.2.2.2.1
    · rw [lo 107 2 (by decide)]; exact z10.2.2.2.2
    · rw [lo 94 3 (by decide)]; exact z10.1
    · rw [lo 98 3 (by decide)]; exact z10.2.1
    · exact IM_sm im10 (SW_lo (by rw [w101]; exact hW2) (fun k i x => lo k i (by omega))) (fun k i d => lo k i (by unfold dM at d; omega))
  · have z : (itr T n N).2.1 ≠ 0 := fun z => c (r6.2.2.mpr z)
    obtain ⟨k6, k7⟩ := cs.2.2.2.1 z
    have b1 := bd.2.1
    have b2 := bd.2.2
    have c1 := cs.2.2.2.2
    have rt3 : RT T n κ3 := rt.off (fun k i d => f3 k i (by unfold dF at d; unfold FC' FC FRd; rcases cW with ⟨a, b⟩ | ⟨a, b⟩ <;> rw [a] <;> omega))
    refine c8_clock rt3 na pre (fun _ m o9 m22 m26 => ⟨by rw [k6], ⟨by omega, by omega⟩, ?_⟩) (fun y => absurd y z)
    exact clock_bad h' eW of o9 k1 k7 m22 m26 ⟨b1, by omega⟩
