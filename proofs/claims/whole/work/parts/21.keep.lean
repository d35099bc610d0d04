theorem st_keep {G : Gm} {μ : Mem} {a0 : Int} (h : Inv μ) (ha0 : R32 a0) : Both G mX7_keep mX8_keep [(0, a0)] μ := by
  have h' := h
  obtain ⟨wf, iw, ir, inn, idd, ii, il, im⟩ := h; have hW : wW μ = 3 ∨ wW μ = 12 := iw.1; have hnW := iw.2.2.1; have hnL := iw.2.2.2.1; have hnF := iw.2.2.2.2.1
  have out : ¬ (0 ≤ a0 ∧ a0 ≤ 1) → Ci G mX8_keep [(2, 110), (0, a0)] SHl μ (fun r' μ2 => -1000000001 = r' ∧ R32 (-1000000001) ∧ Inv μ2) := fun c =>
    eX8_keep (fun Φ hΦ hR => bX8_keep_0 hΦ hR ⟨ha0, c_m_in (r64 ha0) ⟨by decide, by decide⟩ ⟨by decide, by decide⟩ (fun c1 c2 => absurd ⟨c1, c2⟩ c) (fun _ => no_ ⟨rfl, by decide, h'⟩)⟩)
  refine eX7_keep (fun Φ hΦ hR => bX7_keep_0 hΦ hR ⟨ha0, fun c => out (by omega), fun c => ⟨fun c1 => ⟨so_0, ?_⟩, fun c1 => out (by omega)⟩⟩)
  have hi : a0 = 0 ∨ a0 = 1 := by omega
  have w93 : μ 93 a0 = 104 + 3 * a0 := by rcases hi with rfl | rfl; exact wf_93_0 wf; exact wf_93_1 wf
  have w104 : μ (104 + 3 * a0) 0 = 105 + 3 * a0 := by rcases hi with rfl | rfl; exact wf_104_0 wf; exact wf_107_0 wf
  have s104 : So SHl (104 + 3 * a0) (.inl 1) := by rcases hi with rfl | rfl; exact so_104; exact so_107
  have hS : isS (105 + 3 * a0) := by rcases hi with rfl | rfl; exact Or.inr (Or.inl rfl); exact Or.inr (Or.inr (Or.inl rfl))
  rw [wf_0_7 wf, w93, w104, wf_0_5 wf]
  refine ⟨ai_93 (by omega) (by omega), s104, so_S hS, c5_become wf hS (Or.inl rfl) (by omega) ?_⟩
  generalize e6 : mstd μ (105 + 3 * a0) 29 = m6
  have f6 : ∀ k i, ¬ (k = 105 + 3 * a0 ∧ 0 ≤ i ∧ i ≤ 2) → ¬ (k = 105 + 3 * a0 + 1 ∧ 0 ≤ i ∧ i < 8) → m6 k i = μ k i := fun k i c1 c2 => by rw [← e6]; exact mstd_off c1 c2
  rw [f6 0 7 (by omega) (by omega), wf_0_7 wf, f6 93 a0 (by omega) (by omega), w93, f6 0 12 (by omega) (by omega)]
  refine ⟨ai_93 (by omega) (by omega), s104, ?_⟩
  rintro m9 e9
  have g1 : m9 0 7 = 93 := by rw [e9, mu_off2 (by omega), f6 _ _ (by omega) (by omega)]; exact wf_0_7 wf
  have g2 : m9 93 a0 = 104 + 3 * a0 := by rw [e9, mu_off2 (by omega), f6 _ _ (by omega) (by omega)]; exact w93
  rw [g1, g2]
  refine ⟨ai_93 (by omega) (by omega), s104, ?_⟩
  rintro m12 e12
  have g3 : m12 0 6 = 31 := by rw [e12, e9, mu_off2 (by omega), mu_off2 (by omega), f6 _ _ (by omega) (by omega)]; exact wf_0_6 wf
  rw [g3]
  refine ⟨so_31, ?_⟩
  rintro m14 e14
  have k14 : m14 = mu (mu (mu (mstd μ (105 + 3 * a0) 29) (104 + 3 * a0) 1 (μ 0 12)) (104 + 3 * a0) 2 1) 31 2 0 := by rw [e14, e12, e9, e6]
  have wf14 : WF m14 := wf_sm wf (by rw [k14]; exact (fun k i d => by unfold dF at d; (repeat first | rw [mu_off2 (by omega)] | rw [mstd_off (by omega) (by omega)] | rw [mrow_off (by omega)])))
  refine eX8_keep (fun Φ hΦ hR => bX8_keep_0 hΦ hR ⟨ha0, c_m_in (r64 ha0) ⟨by decide, by decide⟩ ⟨by decide, by decide⟩ (fun c1 c2 => yes_ ⟨so_110, c8_copy wf14 (by omega) (by omega) (by omega) ?_⟩) (fun d => absurd (by omega) d)⟩)
  have g5 : mrow m14 0 (12 + 12 * a0) 12 110 1 = 112 := by rw [mrow_off (by omega)]; exact wf_110_1 wf14
  rw [g5]
  refine ⟨ai_112 (by omega) (by omega), ?_⟩
  rintro m7 e7 m8 e8
  refine ⟨rfl, by decide, ?_⟩
  have k : m8 = mu (mu (mrow (mu (mu (mu (mstd μ (105 + 3 * a0) 29) (104 + 3 * a0) 1 (μ 0 12)) (104 + 3 * a0) 2 1) 31 2 0) 0 (12 + 12 * a0) 12) 112 a0 1) 110 31 0 := by rw [e8, e7, k14]
  rw [k]
  have sw : Sm (dW (wW μ) (nL μ)) μ (mu (mu (mrow (mu (mu (mu (mstd μ (105 + 3 * a0) 29) (104 + 3 * a0) 1 (μ 0 12)) (104 + 3 * a0) 2 1) 31 2 0) 0 (12 + 12 * a0) 12) 112 a0 1) 110 31 0) := (fun k i d => by unfold dW at d; (repeat first | rw [mu_off2 (by omega)] | rw [mstd_off (by omega) (by omega)] | rw [mrow_off (by omega)]))
  have e := SW_of sw
  refine ⟨wf_sm wf (fun k i d => by unfold dF at d; (repeat first | rw [mu_off2 (by omega)] | rw [mstd_off (by omega) (by omega)] | rw [mrow_off (by omega)])), IW_sm iw sw, IR_sm ir (fun k i d => by unfold dR at d; (repeat first | rw [mu_off2 (by omega)] | rw [mstd_off (by omega) (by omega)] | rw [mrow_off (by omega)])), IN_sm inn hnW.2.2 e (fun k i d => by unfold dN at d; (repeat first | rw [mu_off2 (by omega)] | rw [mstd_off (by omega) (by omega)] | rw [mrow_off (by omega)])), ?_, ?_, IL_sm il e (fun k i d => by unfold dL at d; (repeat first | rw [mu_off2 (by omega)] | rw [mstd_off (by omega) (by omega)] | rw [mrow_off (by omega)])), IM_sm im e (fun k i d => by unfold dM at d; (repeat first | rw [mu_off2 (by omega)] | rw [mstd_off (by omega) (by omega)] | rw [mrow_off (by omega)]))⟩
  · obtain ⟨d1, d2, d3⟩ := idd
    have v1 : mu (mu (mrow (mu (mu (mu (mstd μ (105 + 3 * a0) 29) (104 + 3 * a0) 1 (μ 0 12)) (104 + 3 * a0) 2 1) 31 2 0) 0 (12 + 12 * a0) 12) 112 a0 1) 110 31 0 31 2 = 0 := by
      rw [mu_off2 (by omega), mu_off2 (by omega), mrow_off (by omega), mu_same]
    have v2 : mu (mu (mrow (mu (mu (mu (mstd μ (105 + 3 * a0) 29) (104 + 3 * a0) 1 (μ 0 12)) (104 + 3 * a0) 2 1) 31 2 0) 0 (12 + 12 * a0) 12) 112 a0 1) 110 31 0 31 1 = μ 31 1 := by (repeat first | rw [mu_off2 (by omega)] | rw [mstd_off (by omega) (by omega)] | rw [mrow_off (by omega)])
    refine ⟨by rw [v1, mu_same]; decide, by rw [v2]; exact d2, ?_⟩
    rw [v1]; intro j h0 h1; omega
  · intro i h0 h1
    obtain ⟨q1, q2⟩ := ii i h0 h1
    obtain ⟨i1, i2, i3, i4⟩ := inn
    by_cases ci : i = a0
    · subst ci
      have v1 : mu (mu (mrow (mu (mu (mu (mstd μ (105 + 3 * i) 29) (104 + 3 * i) 1 (μ 0 12)) (104 + 3 * i) 2 1) 31 2 0) 0 (12 + 12 * i) 12) 112 i 1) 110 31 0 (104 + 3 * i) 2 = 1 := by
        rw [mu_off2 (by omega), mu_off2 (by omega), mrow_off (by omega), mu_off2 (by omega), mu_same]
      have v2 : mu (mu (mrow (mu (mu (mu (mstd μ (105 + 3 * i) 29) (104 + 3 * i) 1 (μ 0 12)) (104 + 3 * i) 2 1) 31 2 0) 0 (12 + 12 * i) 12) 112 i 1) 110 31 0 112 i = 1 := by
        rw [mu_off2 (by omega), mu_same]
      have v3 : mu (mu (mrow (mu (mu (mu (mstd μ (105 + 3 * i) 29) (104 + 3 * i) 1 (μ 0 12)) (104 + 3 * i) 2 1) 31 2 0) 0 (12 + 12 * i) 12) 112 i 1) 110 31 0 (104 + 3 * i) 1 = μ 0 12 := by
        rw [mu_off2 (by omega), mu_off2 (by omega), mrow_off (by omega), mu_off2 (by omega), mu_off2 (by omega), mu_same]
      have v4 : mu (mu (mrow (mu (mu (mu (mstd μ (105 + 3 * i) 29) (104 + 3 * i) 1 (μ 0 12)) (104 + 3 * i) 2 1) 31 2 0) 0 (12 + 12 * i) 12) 112 i 1) 110 31 0 111 (12 + 12 * i + 11) = μ 111 11 := by
        rw [mu_off2 (by omega), mu_off2 (by omega), mrow_on (by omega), mu_off2 (by omega), mu_off2 (by omega), mu_off2 (by omega), mstd_off (by omega) (by omega), show 0 + (12 + 12 * i + 11 - (12 + 12 * i)) = 11 by omega]
      refine ⟨by rw [v1, v2]; decide, fun _ => ⟨IS_cp i1 hnW.2.2 e (fun j h0 h1 => ?_) (fun j h0 h1 => ?_) (fun j h0 h1 => ?_), by rw [v3, v4]; exact ⟨i2, i3, i4⟩⟩⟩
      · rw [mu_off2 (by omega), mu_off2 (by omega), mrow_off (by omega), mu_off2 (by omega), mu_off2 (by omega), mu_off2 (by omega), mstd_f (by omega)]
      · rw [mu_off2 (by omega), mu_off2 (by omega), mrow_off (by omega), mu_off2 (by omega), mu_off2 (by omega), mu_off2 (by omega), mstd_p (by omega)]
      · rw [mu_off2 (by omega), mu_off2 (by omega), mrow_on (by omega), mu_off2 (by omega), mu_off2 (by omega), mu_off2 (by omega), mstd_off (by omega) (by omega), show 0 + (12 + 12 * i + j - (12 + 12 * i)) = 0 + j by omega]
    · refine ⟨?_, ?_⟩
      · have u1 : mu (mu (mrow (mu (mu (mu (mstd μ (105 + 3 * a0) 29) (104 + 3 * a0) 1 (μ 0 12)) (104 + 3 * a0) 2 1) 31 2 0) 0 (12 + 12 * a0) 12) 112 a0 1) 110 31 0 (104 + 3 * i) 2 = μ (104 + 3 * i) 2 := by (repeat first | rw [mu_off2 (by omega)] | rw [mstd_off (by omega) (by omega)] | rw [mrow_off (by omega)])
        have u2 : mu (mu (mrow (mu (mu (mu (mstd μ (105 + 3 * a0) 29) (104 + 3 * a0) 1 (μ 0 12)) (104 + 3 * a0) 2 1) 31 2 0) 0 (12 + 12 * a0) 12) 112 a0 1) 110 31 0 112 i = μ 112 i := by (repeat first | rw [mu_off2 (by omega)] | rw [mstd_off (by omega) (by omega)] | rw [mrow_off (by omega)])
        rw [u1, u2]; exact q1
      · have u2 : mu (mu (mrow (mu (mu (mu (mstd μ (105 + 3 * a0) 29) (104 + 3 * a0) 1 (μ 0 12)) (104 + 3 * a0) 2 1) 31 2 0) 0 (12 + 12 * a0) 12) 112 a0 1) 110 31 0 112 i = μ 112 i := by (repeat first | rw [mu_off2 (by omega)] | rw [mstd_off (by omega) (by omega)] | rw [mrow_off (by omega)])
        rw [u2]; intro k1
        obtain ⟨q3, q4⟩ := q2 k1
        have u3 : mu (mu (mrow (mu (mu (mu (mstd μ (105 + 3 * a0) 29) (104 + 3 * a0) 1 (μ 0 12)) (104 + 3 * a0) 2 1) 31 2 0) 0 (12 + 12 * a0) 12) 112 a0 1) 110 31 0 (104 + 3 * i) 1 = μ (104 + 3 * i) 1 := by (repeat first | rw [mu_off2 (by omega)] | rw [mstd_off (by omega) (by omega)] | rw [mrow_off (by omega)])
        have u4 : mu (mu (mrow (mu (mu (mu (mstd μ (105 + 3 * a0) 29) (104 + 3 * a0) 1 (μ 0 12)) (104 + 3 * a0) 2 1) 31 2 0) 0 (12 + 12 * a0) 12) 112 a0 1) 110 31 0 111 (12 + 12 * i + 11) = μ 111 (12 + 12 * i + 11) := by (repeat first | rw [mu_off2 (by omega)] | rw [mstd_off (by omega) (by omega)] | rw [mrow_off (by omega)])
        refine ⟨IS_cp q3 hnW.2.2 e (fun j h0 h1 => ?_) (fun j h0 h1 => ?_) (fun j h0 h1 => ?_), by rw [u3, u4]; exact q4⟩
        · (repeat first | rw [mu_off2 (by omega)] | rw [mstd_off (by omega) (by omega)] | rw [mrow_off (by omega)])
        · (repeat first | rw [mu_off2 (by omega)] | rw [mstd_off (by omega) (by omega)] | rw [mrow_off (by omega)])
        · (repeat first | rw [mu_off2 (by omega)] | rw [mstd_off (by omega) (by omega)] | rw [mrow_off (by omega)])
