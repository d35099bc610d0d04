theorem st_undo {G : Gm} {μ : Mem} {a0 : Int} (h : Inv μ) (ha0 : R32 a0) : Both G mX7_undo mX8_undo [(0, a0)] μ := by
  have h' := h
  obtain ⟨wf, iw, ir, inn, idd, ii, il, im⟩ := h; have hW : wW μ = 3 ∨ wW μ = 12 := iw.1; have hnW := iw.2.2.1; have hnL := iw.2.2.2.1; have hnF := iw.2.2.2.2.1
  have idd' := idd
  obtain ⟨⟨d1, d2, d3⟩, ⟨d4, d5⟩, d6⟩ := idd'
  have out : ¬ (1 ≤ a0 ∧ a0 ≤ 30) → Ci G mX8_undo [(2, 110), (0, a0)] SHl μ (fun r' μ2 => -1000000002 = r' ∧ R32 (-1000000002) ∧ Inv μ2) := fun c =>
    eX8_undo (fun Φ hΦ hR => bX8_undo_0 hΦ hR ⟨ha0, c_m_in (r64 ha0) ⟨by decide, by decide⟩ ⟨by decide, by decide⟩ (fun c1 c2 => absurd ⟨c1, c2⟩ c) (fun _ => no_ ⟨rfl, by decide, h'⟩)⟩)
  refine eX7_undo (fun Φ hΦ hR => bX7_undo_0 hΦ hR ⟨ha0, fun c => out (by omega), fun c => ⟨fun c1 => ⟨so_0, ?_⟩, fun c1 => out (by omega)⟩⟩)
  have c0 : 1 ≤ a0 := by omega
  rw [wf_0_6 wf, wf_0_5 wf]
  refine ⟨so_31, ⟨by omega, by omega⟩, fun le => eX0_takeBack (fun Φ hΦ hR => bX0_takeBack_0 hΦ hR ⟨so_31, ⟨by omega, by omega⟩, c_leftOver ⟨by omega, by omega⟩ (by decide) (by decide) ?_⟩), fun gt => ?_⟩
  · generalize he : (μ 31 1 - a0) % 30 = e'
    have e0 : 0 ≤ e' ∧ e' < 30 := by omega
    rintro m4 h4 m5 h5
    have g2 : m4 31 2 = μ 31 2 := by rw [h4, mu_off2 (by omega)]
    rw [g2] at h5
    have k5 : m5 = mu (mu μ 31 1 e') 31 2 (μ 31 2 - a0) := by rw [h5, h4]
    have wf5 : WF m5 := wf_sm wf (by rw [k5]; exact (fun k i d => by unfold dF at d; (repeat first | rw [mu_off2 (by omega)] | rw [mstd_off (by omega) (by omega)] | rw [mrow_off (by omega)])))
    have g1 : m5 31 1 = e' := by rw [k5, mu_off2 (by omega), mu_same]
    rw [wf_31_0 wf5, g1, wf_ring wf5 e0.1 e0.2]
    have hS := isS_ring e0.1 e0.2
    refine ⟨so_29, ⟨30, so_32, e0.1, e0.2, by decide⟩, c5_become wf5 (Or.inl rfl) hS (by omega) ?_⟩
    have is1 := d6 (μ 31 2 - a0) (by omega) (by omega)
    rw [show (μ 31 1 - μ 31 2 + (μ 31 2 - a0)) % 30 = e' by rw [← he]; congr 1; omega] at is1
    generalize h12 : mstd m5 29 (33 + 2 * e') = m12
    have k12 : m12 = mstd (mu (mu μ 31 1 e') 31 2 (μ 31 2 - a0)) 29 (33 + 2 * e') := by rw [← h12, k5]
    have sw12 : Sm (dW (wW μ) (nL μ)) μ m12 := by rw [k12]; exact (fun k i d => by unfold dW at d; (repeat first | rw [mu_off2 (by omega)] | rw [mstd_off (by omega) (by omega)] | rw [mrow_off (by omega)]))
    have e12' := SW_of sw12
    have iw12 := IW_sm iw sw12
    have wf12 : WF m12 := wf_sm wf (by rw [k12]; exact (fun k i d => by unfold dF at d; (repeat first | rw [mu_off2 (by omega)] | rw [mstd_off (by omega) (by omega)] | rw [mrow_off (by omega)])))
    have c12 : m12 29 2 = μ (33 + 2 * e') 2 := by rw [k12, mstd_f (by omega), mu_off2 (by omega), mu_off2 (by omega)]
    refine c7_reckonNow wf12 iw12 ⟨by rw [c12]; exact is1.2.2.1.1, by rw [c12, e12'.nl]; exact is1.2.2.1.2⟩ (fun μ13 of13 im13 => ?_)
    have wf13 : WF μ13 := off_wf wf12 (Or.inl rfl) of13
    have day : μ13 29 0 = μ (33 + 2 * e') 0 := by rw [of13 _ _ (by unfold FM; omega), k12, mstd_f (by omega), mu_off2 (by omega), mu_off2 (by omega)]
    have q31 : μ13 110 31 = μ 31 2 := by rw [of13 _ _ (by unfold FM; omega), k12, mstd_off (by omega) (by omega), mu_off2 (by omega), mu_off2 (by omega)]; exact d1.symm
    rw [wf_0_5 wf13, day]
    refine ⟨so_29, eX8_undo (fun Φ hΦ hR => bX8_undo_0 hΦ hR ⟨ha0, c_m_in (r64 ha0) ⟨by decide, by decide⟩ ⟨by decide, by decide⟩ (fun _ _ => yes_ ⟨so_110, ?_⟩) (fun d => absurd ⟨c0, c1⟩ d)⟩)⟩
    rw [q31]
    refine ⟨⟨by omega, by omega⟩, fun _ => ?_, fun d => absurd le d⟩
    rintro m6 h6
    have wf6 : WF m6 := wf_sm wf13 (by rw [h6]; exact (fun k i d => by unfold dF at d; (repeat first | rw [mu_off2 (by omega)] | rw [mstd_off (by omega) (by omega)] | rw [mrow_off (by omega)])))
    have g6 : m6 110 31 = μ 31 2 - a0 := by rw [h6, mu_same]
    have g11 : m6 111 11 = μ 111 11 := by rw [h6, mu_off2 (by omega), of13 _ _ (by unfold FM; omega), k12]; (repeat first | rw [mu_off2 (by omega)] | rw [mstd_off (by omega) (by omega)] | rw [mrow_off (by omega)])
    rw [wf_110_0 wf6, g6, g11]
    refine ⟨ai_111 (by decide) (by decide), c8_copy wf6 (by omega) (by omega) (by omega) ?_⟩
    rw [mrow_off (k := 110) (i := 0) (by omega), wf_110_0 wf6]
    refine ⟨ai_111 (by decide) (by decide), ?_⟩
    rintro m8 e8
    have r111 : ∀ i, 0 ≤ i → i < 11 → m8 111 i = μ 111 (36 + 12 * (μ 31 2 - a0) + i) := fun i i0 i1 => by
      rw [e8, mu_off2 (by omega), mrow_on (by omega), h6, mu_off2 (by omega), of13 _ _ (by unfold FM; omega), k12, show 36 + 12 * (μ 31 2 - a0) + (i - 0) = 36 + 12 * (μ 31 2 - a0) + i by omega]
      (repeat first | rw [mu_off2 (by omega)] | rw [mstd_off (by omega) (by omega)] | rw [mrow_off (by omega)])
    have g0 : m8 110 0 = 111 := by rw [e8, mu_off2 (by omega), mrow_off (by omega)]; exact wf_110_0 wf6
    have day2 : μ (33 + 2 * e') 0 = μ 111 (36 + 12 * (μ 31 2 - a0) + 8) := is1.1.1
    have drg := is1.2.1
    rw [g0, r111 8 (by decide) (by decide), ← day2]
    refine ⟨ai_111 (by decide) (by decide), rfl, ⟨by omega, by omega⟩, ?_⟩
    have hF : ∀ k i, ¬ FB k i → m8 k i = μ k i := fun k i c => by
      unfold FB FM at c
      rw [e8, mu_off2 (by omega), mrow_off (by omega), h6, mu_off2 (by omega), of13 k i (by unfold FM; omega), k12]
      (repeat first | rw [mu_off2 (by omega)] | rw [mstd_off (by omega) (by omega)] | rw [mrow_off (by omega)])
    have sw : Sm (dW (wW μ) (nL μ)) μ m8 := fun k i d => hF k i (by unfold dW at d; unfold FB FM; omega)
    have e := SW_of sw
    refine ⟨wf_sm wf (fun k i d => hF k i (by unfold dF at d; unfold FB FM; omega)), IW_sm iw sw, IR_sm ir (fun k i d => hF k i (by unfold dR at d; unfold FB FM; omega)), ⟨IS_cp is1 hnW.2.2 e (fun j h0 h1 => ?_) (fun j h0 h1 => ?_) (fun j h0 h1 => ?_), ?_⟩, ?_, II_sm ii hnW.2.2 e (fun k i d => hF k i (by unfold dI at d; unfold FB FM; omega)), IL_sm il e (fun k i d => hF k i (by unfold dL at d; unfold FB FM; omega)), ?_⟩
    · rw [e8, mu_off2 (by omega), mrow_off (by omega), h6, mu_off2 (by omega), of13 _ _ (by unfold FM; omega), k12, mstd_f (by omega), mu_off2 (by omega), mu_off2 (by omega)]
    · rw [e8, mu_off2 (by omega), mrow_off (by omega), h6, mu_off2 (by omega), of13 _ _ (by unfold FM; omega), k12, mstd_p (by omega), mu_off2 (by omega), mu_off2 (by omega)]
    · rw [show (0 : Int) + j = j by omega]; exact r111 j h0 (by omega)
    · rw [show m8 111 11 = μ 111 11 by rw [e8, mu_same], show m8 0 12 = μ 0 12 by rw [e8, mu_off2 (by omega), mrow_off (by omega), h6, mu_off2 (by omega), of13 _ _ (by unfold FM; omega), k12]; (repeat first | rw [mu_off2 (by omega)] | rw [mstd_off (by omega) (by omega)] | rw [mrow_off (by omega)])]
      exact inn.2
    · have v2 : m8 31 2 = μ 31 2 - a0 := by rw [e8, mu_off2 (by omega), mrow_off (by omega), h6, mu_off2 (by omega), of13 _ _ (by unfold FM; omega), k12, mstd_off (by omega) (by omega), mu_same]
      have v1 : m8 31 1 = e' := by rw [e8, mu_off2 (by omega), mrow_off (by omega), h6, mu_off2 (by omega), of13 _ _ (by unfold FM; omega), k12, mstd_off (by omega) (by omega), mu_off2 (by omega), mu_same]
      have v3 : m8 110 31 = μ 31 2 - a0 := by rw [e8, mu_off2 (by omega), mrow_off (by omega), h6, mu_same]
      refine ⟨by rw [v2, v3]; omega, by rw [v1]; exact e0, ?_⟩
      rw [v1, v2]
      intro j h0 h1
      rw [show (e' - (μ 31 2 - a0) + j) % 30 = (μ 31 1 - μ 31 2 + j) % 30 by omega]
      have q := d6 j h0 (by omega)
      have b := Int.emod_lt_of_pos (μ 31 1 - μ 31 2 + j) (show (0 : Int) < 30 by decide)
      have b' := Int.emod_nonneg (μ 31 1 - μ 31 2 + j) (show (30 : Int) ≠ 0 by decide)
      generalize (μ 31 1 - μ 31 2 + j) % 30 = z at q b b' ⊢
      exact IS_cp q hnW.2.2 e (fun i i0 i1 => hF _ _ (by unfold FB FM; omega)) (fun i i0 i1 => hF _ _ (by unfold FB FM; omega)) (fun i i0 i1 => hF _ _ (by unfold FB FM; omega))
    · have sw13 : ∀ k i, ¬ ((k = 111 ∧ 0 ≤ i ∧ i < 12) ∨ (k = 110 ∧ i = 31)) → m8 k i = μ13 k i := fun k i c => by rw [e8, mu_off2 (by omega), mrow_off (by omega), h6, mu_off2 (by omega)]
      have w13 : wW μ13 = wW μ := (of13 0 1 (by unfold FM; omega)).trans e12'.w
      exact IM_sm im13 (SW_of (fun k i d => sw13 k i (by unfold dW at d; rw [w13] at d; omega))) (fun k i d => sw13 k i (by unfold dM at d; omega))
  · refine eX8_undo (fun Φ hΦ hR => bX8_undo_0 hΦ hR ⟨ha0, c_m_in (r64 ha0) ⟨by decide, by decide⟩ ⟨by decide, by decide⟩ (fun _ _ => yes_ ⟨so_110, ?_⟩) (fun d => absurd ⟨c0, c1⟩ d)⟩)
    rw [← d1]
    exact ⟨⟨by omega, by omega⟩, fun q => absurd q gt, fun _ => ⟨rfl, by decide, h'⟩⟩
