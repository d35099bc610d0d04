/-! CALLS that look at no rate -/
theorem pw10a : ∀ n : Nat, n < 11 → (2 : Int) ^ n ≤ 1024 ∧ 1 ≤ (2 : Int) ^ n := by decide +kernel
theorem pw10 {n : Nat} (h : n ≤ 10) : (2 : Int) ^ n ≤ 1024 ∧ 1 ≤ (2 : Int) ^ n := pw10a n (by omega)
theorem r64 {x : Int} (h : R32 x) : R64 x := ⟨by omega, by omega⟩
theorem R32_1 : R32 1 := ⟨by decide, by decide⟩
theorem yes_ {A B : Prop} (h : A) : R32 1 ∧ (((1 : Int) ≠ 0 → A) ∧ ((1 : Int) = 0 → B)) := ⟨R32_1, fun _ => h, fun c => absurd c (by decide)⟩
theorem no_ {A B : Prop} (h : B) : R32 0 ∧ (((0 : Int) ≠ 0 → A) ∧ ((0 : Int) = 0 → B)) := ⟨R32_0, fun c => absurd rfl c, fun _ => h⟩
theorem yes'_ {A B : Prop} (h : B) : R32 1 ∧ (((1 : Int) = 0 → A) ∧ (¬ (1 : Int) = 0 → B)) := ⟨R32_1, fun c => absurd c (by decide), fun _ => h⟩
theorem no'_ {A B : Prop} (h : A) : R32 0 ∧ (((0 : Int) = 0 → A) ∧ (¬ (0 : Int) = 0 → B)) := ⟨R32_0, fun _ => h, fun c => absurd rfl c⟩
theorem st_fault {G : Gm} {μ : Mem} (h : Inv μ) : Both G mX7_fault mX8_fault [] μ := by
  have h' := h
  obtain ⟨wf, iw, ir, inn, idd, ii, il, im⟩ := h; have hW : wW μ = 3 ∨ wW μ = 12 := iw.1; have hnW := iw.2.2.1; have hnL := iw.2.2.2.1; have hnF := iw.2.2.2.2.1
  refine eX7_fault (fun Φ hΦ hR => bX7_fault_0 hΦ hR ⟨so_0, ?_⟩)
  rw [wf_0_0 wf]
  have := ir.2.2.2
  refine ⟨so_1, eX8_fault (fun Φ hΦ hR => bX8_fault_0 hΦ hR ⟨so_110, ir.2.2.1, ⟨by omega, by omega⟩, h'⟩)⟩
theorem st_feed {G : Gm} {μ : Mem} {a0 : Int} (h : Inv μ) (ha0 : R32 a0) : Both G mX7_feed mX8_feed [(0, a0)] μ := by
  have h' := h
  obtain ⟨wf, iw, ir, inn, idd, ii, il, im⟩ := h; have hW : wW μ = 3 ∨ wW μ = 12 := iw.1; have hnW := iw.2.2.1; have hnL := iw.2.2.2.1; have hnF := iw.2.2.2.2.1
  have e := wf_0_0 wf
  have e2 := wf_1_0 wf
  have e3 := wf_110_21 wf
  obtain ⟨⟨i1, i2, i3⟩, i4, i5⟩ := ir
  have out : ¬ (0 ≤ a0 ∧ a0 ≤ 255) → Ci G mX8_feed [(2, 110), (0, a0)] SHl μ (fun r' μ2 => -1000000002 = r' ∧ R32 (-1000000002) ∧ Inv μ2) := fun c =>
    eX8_feed (fun Φ hΦ hR => bX8_feed_0 hΦ hR ⟨ha0, c_m_in (r64 ha0) ⟨by decide, by decide⟩ ⟨by decide, by decide⟩ (fun c1 c2 => absurd ⟨c1, c2⟩ c) (fun _ => no_ ⟨rfl, by decide, h'⟩)⟩)
  refine eX7_feed (fun Φ hΦ hR => bX7_feed_0 hΦ hR ⟨ha0, fun c => out (by omega), fun c => ⟨fun c1 => ⟨so_0, by omega, by omega, ?_⟩, fun c1 => out (by omega)⟩⟩)
  rw [e]
  refine ⟨so_1, eX4_take (fun Φ hΦ hR => bX4_take_0 hΦ hR ⟨so_1, ⟨by omega, by omega⟩, fun d => ?_, fun d => ?_⟩)⟩
  · rw [e2]
    refine ⟨ai_2 i2 d, by omega, by omega, ?_⟩
    rintro m6 e6 m7 e7
    have g1 : m7 = mu (mu μ 2 (μ 1 1) a0) 1 1 (μ 1 1 + 1) := by rw [e7, e6, mu_row (by decide)]
    have g2 : m7 1 1 = μ 1 1 + 1 := by rw [g1, mu_same]
    have g3 : m7 110 = μ 110 := by rw [g1, mu_row (by decide), mu_row (by decide)]
    rw [g2]
    refine eX8_feed (fun Φ hΦ hR => bX8_feed_0 hΦ hR ⟨ha0, c_m_in (r64 ha0) ⟨by decide, by decide⟩ ⟨by decide, by decide⟩ (fun c1 c2 => yes_ ⟨so_110, ?_⟩) (fun d => absurd (by omega) d)⟩)
    rw [g3, e3, ← i1]
    refine ⟨⟨by omega, by omega⟩, fun _ => ⟨ai_121 i2 d, ?_⟩, fun d' => absurd d' (by omega)⟩
    rintro m8 e8 m9 e9
    have k1 : m9 = mu (mu (mu (mu μ 2 (μ 1 1) a0) 1 1 (μ 1 1 + 1)) 121 (μ 1 1) a0) 110 22 (μ 1 1 + 1) := by rw [e9, e8, mu_row (by decide), g3, ← i1, g1]
    rw [k1]
    refine ⟨by rw [mu_same], ⟨by omega, by omega⟩, ?_⟩
    have sw : Sm (dW (wW μ) (nL μ)) μ (mu (mu (mu (mu μ 2 (μ 1 1) a0) 1 1 (μ 1 1 + 1)) 121 (μ 1 1) a0) 110 22 (μ 1 1 + 1)) := (fun k i d => by unfold dW at d; (repeat first | rw [mu_off2 (by omega)] | rw [mstd_off (by omega) (by omega)] | rw [mrow_off (by omega)]))
    refine ⟨wf_sm wf (fun k i d => by unfold dF at d; (repeat first | rw [mu_off2 (by omega)] | rw [mstd_off (by omega) (by omega)] | rw [mrow_off (by omega)])), IW_sm iw sw, ⟨⟨?_, ?_, ?_⟩, ?_, ?_⟩, IN_sm inn hnW.2.2 (SW_of sw) (fun k i d => by unfold dN at d; (repeat first | rw [mu_off2 (by omega)] | rw [mstd_off (by omega) (by omega)] | rw [mrow_off (by omega)])), ID_sm idd hnW.2.2 (SW_of sw) (fun k i d => by unfold dD at d; (repeat first | rw [mu_off2 (by omega)] | rw [mstd_off (by omega) (by omega)] | rw [mrow_off (by omega)])), II_sm ii hnW.2.2 (SW_of sw) (fun k i d => by unfold dI at d; (repeat first | rw [mu_off2 (by omega)] | rw [mstd_off (by omega) (by omega)] | rw [mrow_off (by omega)])), IL_sm il (SW_of sw) (fun k i d => by unfold dL at d; (repeat first | rw [mu_off2 (by omega)] | rw [mstd_off (by omega) (by omega)] | rw [mrow_off (by omega)])), IM_sm im (SW_of sw) (fun k i d => by unfold dM at d; (repeat first | rw [mu_off2 (by omega)] | rw [mstd_off (by omega) (by omega)] | rw [mrow_off (by omega)]))⟩
    · simp [mu]
    · simp [mu]; omega
    · simp [mu]; omega
    · intro i h0 h1
      have h1 : i < μ 1 1 + 1 := by simpa [mu] using h1
      by_cases c : i = μ 1 1
      · subst c; simp [mu]; omega
      · have := i4 i h0 (by omega)
        simpa [mu, c] using this
    · simpa [mu] using i5
  · refine eX8_feed (fun Φ hΦ hR => bX8_feed_0 hΦ hR ⟨ha0, c_m_in (r64 ha0) ⟨by decide, by decide⟩ ⟨by decide, by decide⟩ (fun c1 c2 => yes_ ⟨so_110, ⟨by omega, by omega⟩, fun d' => absurd (by omega) d', fun _ => ⟨rfl, by decide, h'⟩⟩) (fun d => absurd (by omega) d)⟩)
theorem st_seed {G : Gm} {μ : Mem} {a0 : Int} (h : Inv μ) (ha0 : R32 a0) : Both G mX7_seed mX8_seed [(0, a0)] μ := by
  have h' := h
  obtain ⟨wf, iw, ir, inn, idd, ii, il, im⟩ := h; have hW : wW μ = 3 ∨ wW μ = 12 := iw.1; have hnW := iw.2.2.1; have hnL := iw.2.2.2.1; have hnF := iw.2.2.2.2.1
  have e := wf_110_0 wf
  refine eX7_seed (fun Φ hΦ hR => bX7_seed_0 hΦ hR ⟨ha0, fun c => ⟨so_0, ?_⟩, fun c => eX8_seed (fun Φ hΦ hR => bX8_seed_0 hΦ hR ⟨ha0, fun d => absurd d c, fun _ => ⟨rfl, by decide, h'⟩⟩)⟩)
  rintro m3 e3
  have g3 : m3 110 0 = 111 := by rw [e3, mu_off2 (by omega)]; exact e
  refine eX8_seed (fun Φ hΦ hR => bX8_seed_0 hΦ hR ⟨ha0, fun _ => ⟨so_110, ?_⟩, fun d => absurd c d⟩)
  rw [g3]
  refine ⟨ai_111 (by decide) (by decide), ?_⟩
  rintro m4 e4
  have g4 : m4 = mu (mu μ 0 12 a0) 111 11 a0 := by rw [e4, e3]
  obtain ⟨i1, i2, i3, i4⟩ := inn
  refine ⟨by rw [e3, mu_off2 (by omega)]; exact i2, ⟨by omega, by omega⟩, ?_⟩
  rw [g4]
  have sw : Sm (dW (wW μ) (nL μ)) μ (mu (mu μ 0 12 a0) 111 11 a0) := (fun k i d => by unfold dW at d; (repeat first | rw [mu_off2 (by omega)] | rw [mstd_off (by omega) (by omega)] | rw [mrow_off (by omega)]))
  refine ⟨wf_sm wf (fun k i d => by unfold dF at d; (repeat first | rw [mu_off2 (by omega)] | rw [mstd_off (by omega) (by omega)] | rw [mrow_off (by omega)])), IW_sm iw sw, IR_sm ir (fun k i d => by unfold dR at d; (repeat first | rw [mu_off2 (by omega)] | rw [mstd_off (by omega) (by omega)] | rw [mrow_off (by omega)])), ⟨IS_sm i1 (SW_of sw) (by rw [mu_off2 (by omega), mu_off2 (by omega)]) (by rw [mu_off2 (by omega), mu_off2 (by omega)]) (by rw [mu_off2 (by omega), mu_off2 (by omega)]) (fun i h0 h1 => ⟨by rw [mu_off2 (by omega), mu_off2 (by omega)], by rw [mu_off2 (by omega), mu_off2 (by omega)]⟩) (by rw [mu_off2 (by omega), mu_off2 (by omega)]) (by rw [mu_off2 (by omega), mu_off2 (by omega)]) (by rw [mu_off2 (by omega), mu_off2 (by omega)]), ?_⟩, ID_sm idd hnW.2.2 (SW_of sw) (fun k i d => by unfold dD at d; (repeat first | rw [mu_off2 (by omega)] | rw [mstd_off (by omega) (by omega)] | rw [mrow_off (by omega)])), II_sm ii hnW.2.2 (SW_of sw) (fun k i d => by unfold dI at d; (repeat first | rw [mu_off2 (by omega)] | rw [mstd_off (by omega) (by omega)] | rw [mrow_off (by omega)])), IL_sm il (SW_of sw) (fun k i d => by unfold dL at d; (repeat first | rw [mu_off2 (by omega)] | rw [mstd_off (by omega) (by omega)] | rw [mrow_off (by omega)])), IM_sm im (SW_of sw) (fun k i d => by unfold dM at d; (repeat first | rw [mu_off2 (by omega)] | rw [mstd_off (by omega) (by omega)] | rw [mrow_off (by omega)]))⟩
  simp [mu]; omega
theorem st_tear {G : Gm} {μ : Mem} (h : Inv μ) : Both G mX7_tear mX8_tear [] μ := by
  obtain ⟨wf, iw, ir, inn, idd, ii, il, im⟩ := h; have hW : wW μ = 3 ∨ wW μ = 12 := iw.1; have hnW := iw.2.2.1; have hnL := iw.2.2.2.1; have hnF := iw.2.2.2.2.1
  have e1 := wf_0_8 wf
  have e2 := wf_0_9 wf
  refine eX7_tear (fun Φ hΦ hR => bX7_tear_0 hΦ hR ⟨so_0, ?_⟩)
  rw [e1, e2]
  refine ⟨so_94, so_98, ?_⟩
  rintro m4 e4
  have g : m4 0 9 = 98 := by rw [e4, mu_off2 (by omega)]; exact e2
  rw [g]
  refine ⟨so_98, ?_⟩
  rintro m6 e6
  have g6 : m6 = mu (mu μ 94 3 0) 98 3 0 := by rw [e6, e4]
  refine eX8_tear (fun Φ hΦ hR => bX8_tear_0 hΦ hR ⟨so_110, ?_⟩)
  rintro m7 e7 m8 e8
  have g8 : m8 = mu (mu (mu (mu μ 94 3 0) 98 3 0) 110 37 0) 110 42 0 := by rw [e8, e7, g6]
  obtain ⟨⟨l1, l2, l3⟩, ⟨l4, l5, l6⟩, l7, l8⟩ := il
  have k1 : m6 110 37 = μ 94 3 := by rw [g6, mu_off2 (by omega), mu_off2 (by omega)]; exact l1.symm
  have k2 : m6 110 42 = μ 98 3 := by rw [g6, mu_off2 (by omega), mu_off2 (by omega)]; exact l4.symm
  refine ⟨by rw [k1, k2], ⟨by omega, by omega⟩, ?_⟩
  rw [g8]
  have sw : Sm (dW (wW μ) (nL μ)) μ (mu (mu (mu (mu μ 94 3 0) 98 3 0) 110 37 0) 110 42 0) := (fun k i d => by unfold dW at d; (repeat first | rw [mu_off2 (by omega)] | rw [mstd_off (by omega) (by omega)] | rw [mrow_off (by omega)]))
  refine ⟨wf_sm wf (fun k i d => by unfold dF at d; (repeat first | rw [mu_off2 (by omega)] | rw [mstd_off (by omega) (by omega)] | rw [mrow_off (by omega)])), IW_sm iw sw, IR_sm ir (fun k i d => by unfold dR at d; (repeat first | rw [mu_off2 (by omega)] | rw [mstd_off (by omega) (by omega)] | rw [mrow_off (by omega)])), IN_sm inn hnW.2.2 (SW_of sw) (fun k i d => by unfold dN at d; (repeat first | rw [mu_off2 (by omega)] | rw [mstd_off (by omega) (by omega)] | rw [mrow_off (by omega)])), ID_sm idd hnW.2.2 (SW_of sw) (fun k i d => by unfold dD at d; (repeat first | rw [mu_off2 (by omega)] | rw [mstd_off (by omega) (by omega)] | rw [mrow_off (by omega)])), II_sm ii hnW.2.2 (SW_of sw) (fun k i d => by unfold dI at d; (repeat first | rw [mu_off2 (by omega)] | rw [mstd_off (by omega) (by omega)] | rw [mrow_off (by omega)])), ⟨by simp [mu], by simp [mu], fun j h0 h1 => ?_, fun j h0 h1 => ?_⟩, IM_sm im (SW_of sw) (fun k i d => by unfold dM at d; (repeat first | rw [mu_off2 (by omega)] | rw [mstd_off (by omega) (by omega)] | rw [mrow_off (by omega)]))⟩
  · have : j < 0 := by simpa [mu] using h1
    omega
  · have : j < 0 := by simpa [mu] using h1
    omega
theorem st_link {G : Gm} {μ : Mem} {a0 a1 : Int} (h : Inv μ) (ha0 : R32 a0) (ha1 : R32 a1) : Both G mX7_link mX8_link [(0, a0), (0, a1)] μ := by
  have h' := h
  obtain ⟨wf, iw, ir, inn, idd, ii, il, im⟩ := h; have hW : wW μ = 3 ∨ wW μ = 12 := iw.1; have hnW := iw.2.2.1; have hnL := iw.2.2.2.1; have hnF := iw.2.2.2.2.1
  have hl := iw.2.2.2.2.2.2.2.2.1
  have w1 := wf_W7 wf iw.1
  have w2 := wf_W8 wf iw.1
  have w3 := wf_W9 wf iw.1
  have w4 := wf_W10 wf iw.1
  obtain ⟨⟨⟨n1, n2, n3⟩, n4, ⟨n5, n6⟩, n7⟩, n8⟩ := inn
  have cu : 0 ≤ μ 29 2 ∧ μ 29 2 ≤ 1024 := by
    refine ⟨n5, ?_⟩
    have := pw10 (n := (nL μ).toNat) (by omega)
    omega
  have un : ¬ (0 ≤ a0 ∧ a0 < nL μ) → Ci G mX8_link [(2, 110), (0, a0), (0, a1)] SHl μ (fun r' μ2 => -1000000001 = r' ∧ R32 (-1000000001) ∧ Inv μ2) := fun c =>
    eX8_link (fun Φ hΦ hR => bX8_link_0 hΦ hR ⟨so_110, c8_isLink (by omega) ha0 (fun c1 c2 => absurd ⟨c1, by omega⟩ c) (fun _ => no_ ⟨rfl, by decide, h'⟩)⟩)
  refine eX7_link (fun Φ hΦ hR => bX7_link_0 hΦ hR ⟨so_0, c7_hasLink wf iw ha0 (fun c1 c2 => yes_ ⟨ha1, fun d => ?_, fun d => ?_, fun d => ?_, fun d => ?_, fun d => ?_, fun d => ?_⟩) (fun c => no_ (un c))⟩)
  all_goals obtain ⟨⟨k1, k2, k3⟩, ⟨k4, k5, k6⟩, ⟨k7, k8, k9⟩, k10, ⟨k11, k12, k13⟩⟩ := hl a0 c1 c2
  · exact eX8_link (fun Φ hΦ hR => bX8_link_0 hΦ hR ⟨so_110, c8_isLink (by omega) ha0 (fun c1 c2 => yes_ ⟨ha1, fun _ => ⟨rfl, by decide, h'⟩, fun d' => absurd d' (by omega), fun d' => absurd d' (by omega), fun d' => absurd d' (by omega), fun d' => absurd d' (by omega), fun d' => absurd d' (by omega)⟩) (fun c => absurd ⟨c1, by omega⟩ c)⟩)
  · rw [w2]
    refine ⟨so_W iw.1, ai_W4 iw.1 c1 (by omega), eX8_link (fun Φ hΦ hR => bX8_link_0 hΦ hR ⟨so_110, c8_isLink (by omega) ha0 (fun c1 c2 => yes_ ⟨ha1, fun d' => absurd d' (by omega), fun _ => ?_, fun d' => absurd d' (by omega), fun d' => absurd d' (by omega), fun d' => absurd d' (by omega), fun d' => absurd d' (by omega)⟩) (fun c => absurd ⟨c1, by omega⟩ c)⟩)⟩
    rw [wf_110_15 wf]
    exact ⟨ai_115 c1 (by omega), k1, ⟨by omega, by omega⟩, h'⟩
  · rw [w3]
    refine ⟨so_W iw.1, ai_W5 iw.1 c1 (by omega), eX8_link (fun Φ hΦ hR => bX8_link_0 hΦ hR ⟨so_110, c8_isLink (by omega) ha0 (fun c1 c2 => yes_ ⟨ha1, fun d' => absurd d' (by omega), fun d' => absurd d' (by omega), fun _ => ?_, fun d' => absurd d' (by omega), fun d' => absurd d' (by omega), fun d' => absurd d' (by omega)⟩) (fun c => absurd ⟨c1, by omega⟩ c)⟩)⟩
    rw [wf_110_16 wf]
    exact ⟨ai_116 c1 (by omega), k4, ⟨by omega, by omega⟩, h'⟩
  · rw [w4]
    refine ⟨so_W iw.1, ai_W6 iw.1 c1 (by omega), eX8_link (fun Φ hΦ hR => bX8_link_0 hΦ hR ⟨so_110, c8_isLink (by omega) ha0 (fun c1 c2 => yes_ ⟨ha1, fun d' => absurd d' (by omega), fun d' => absurd d' (by omega), fun d' => absurd d' (by omega), fun _ => ?_, fun d' => absurd d' (by omega), fun d' => absurd d' (by omega)⟩) (fun c => absurd ⟨c1, by omega⟩ c)⟩)⟩
    rw [wf_110_17 wf]
    exact ⟨ai_117 c1 (by omega), k7, ⟨by omega, by omega⟩, h'⟩
  · rw [w1]
    refine ⟨so_W iw.1, ai_W3 iw.1 c1 (by omega), eX8_link (fun Φ hΦ hR => bX8_link_0 hΦ hR ⟨so_110, c8_isLink (by omega) ha0 (fun c1 c2 => yes_ ⟨ha1, fun d' => absurd d' (by omega), fun d' => absurd d' (by omega), fun d' => absurd d' (by omega), fun d' => absurd d' (by omega), fun _ => ?_, fun d' => absurd d' (by omega)⟩) (fun c => absurd ⟨c1, by omega⟩ c)⟩)⟩
    rw [wf_110_18 wf]
    exact ⟨ai_118 c1 (by omega), k11, ⟨by omega, by omega⟩, h'⟩
  · have rf : ∀ {r : Int}, (r = if bt_ (μ 29 2) a0 = 0 then 1 else 0) → R32 r → Ci G mX8_link [(2, 110), (0, a0), (0, a1)] SHl μ (fun r' μ2 => r = r' ∧ R32 r ∧ Inv μ2) := by
      intro r hr hr2
      refine eX8_link (fun Φ hΦ hR => bX8_link_0 hΦ hR ⟨so_110, c8_isLink (by omega) ha0 (fun c1 c2 => yes_ ⟨ha1, fun d' => absurd d' (by omega), fun d' => absurd d' (by omega), fun d' => absurd d' (by omega), fun d' => absurd d' (by omega), fun d' => absurd d' (by omega), fun _ => ?_⟩) (fun c => absurd ⟨c1, by omega⟩ c)⟩)
      have n3 : μ 29 2 = μ 111 10 := n3
      rw [wf_110_0 wf, ← n3]
      refine ⟨ai_111 (by decide) (by decide), c_m_has ⟨by omega, by omega⟩ c1 (by omega) ?_⟩
      refine ⟨R32_one (bt_rg _ _), fun c => c_m_one R32_0 ?_, fun c => c_m_one R32_1 ?_⟩
      · rw [if_neg c] at hr; exact ⟨hr, hr2, h'⟩
      · rw [if_pos c] at hr; exact ⟨hr, hr2, h'⟩
    refine c7_isOn wf ⟨by omega, by omega⟩ c1 (by omega) ?_
    by_cases c : bt_ (μ 29 2) a0 = 0
    · rw [if_pos c]; exact ⟨R32_1, fun d => absurd d (by decide), fun _ => rf (by rw [if_pos c]) R32_1⟩
    · rw [if_neg c]; exact ⟨R32_0, fun _ => rf (by rw [if_neg c]) R32_0, fun d => absurd rfl d⟩
theorem st_feast {G : Gm} {μ : Mem} {a0 a1 : Int} (h : Inv μ) (ha0 : R32 a0) (ha1 : R32 a1) : Both G mX7_feast mX8_feast [(0, a0), (0, a1)] μ := by
  have h' := h
  obtain ⟨wf, iw, ir, inn, idd, ii, il, im⟩ := h; have hW : wW μ = 3 ∨ wW μ = 12 := iw.1; have hnW := iw.2.2.1; have hnL := iw.2.2.2.1; have hnF := iw.2.2.2.2.1
  have hl := iw.2.2.2.2.2.2.2.2.2
  have w1 := wf_W11 wf iw.1
  have w2 := wf_W12 wf iw.1
  refine eX7_feast (fun Φ hΦ hR => bX7_feast_0 hΦ hR ⟨so_0, c7_hasFeast wf iw ha0 (fun c1 c2 => yes_ ⟨ha1, fun d => ?_, fun d => ?_, fun d => ?_⟩) (fun c => no_ ?_)⟩)
  · rw [w1]
    obtain ⟨⟨k1, k2, k3⟩, k4, k5, k6⟩ := hl a0 c1 c2
    refine ⟨so_W iw.1, ai_W7 iw.1 c1 (by omega), eX8_feast (fun Φ hΦ hR => bX8_feast_0 hΦ hR ⟨so_110, c8_isFeast (by omega) ha0 (fun _ _ => yes_ ⟨ha1, fun d' => absurd d d', fun _ => ?_⟩) (fun c => absurd ⟨c1, by omega⟩ c)⟩)⟩
    rw [wf_110_19 wf]
    exact ⟨ai_119 c1 (by omega), k1, ⟨by omega, by omega⟩, h'⟩
  · rw [w2]
    obtain ⟨⟨k1, k2, k3⟩, k4, k5, k6⟩ := hl a0 c1 c2
    refine ⟨so_W iw.1, ai_W8 iw.1 c1 (by omega), eX8_feast (fun Φ hΦ hR => bX8_feast_0 hΦ hR ⟨so_110, c8_isFeast (by omega) ha0 (fun _ _ => yes_ ⟨ha1, fun _ => ⟨fun d' => absurd d d', fun _ => ?_⟩, fun d' => absurd d' (by omega)⟩) (fun c => absurd ⟨c1, by omega⟩ c)⟩)⟩
    rw [wf_110_20 wf]
    exact ⟨ai_120 c1 (by omega), k4, ⟨by omega, by omega⟩, h'⟩
  · exact eX8_feast (fun Φ hΦ hR => bX8_feast_0 hΦ hR ⟨so_110, c8_isFeast (by omega) ha0 (fun _ _ => yes_ ⟨ha1, fun _ => ⟨fun _ => ⟨rfl, by decide, h'⟩, fun d' => absurd d' d.2⟩, fun d' => absurd d' d.1⟩) (fun c => absurd ⟨c1, by omega⟩ c)⟩)
  · exact eX8_feast (fun Φ hΦ hR => bX8_feast_0 hΦ hR ⟨so_110, c8_isFeast (by omega) ha0 (fun c1 c2 => absurd ⟨c1, by omega⟩ c) (fun _ => no_ ⟨rfl, by decide, h'⟩)⟩)
theorem st_stood {G : Gm} {μ : Mem} {a0 a1 a2 : Int} (h : Inv μ) (ha0 : R32 a0) (ha1 : R32 a1) (ha2 : R32 a2) : Both G mX7_stood mX8_stood [(0, a0), (0, a1), (0, a2)] μ := by
  have h' := h
  obtain ⟨wf, iw, ir, inn, idd, ii, il, im⟩ := h; have hW : wW μ = 3 ∨ wW μ = 12 := iw.1; have hnW := iw.2.2.1; have hnL := iw.2.2.2.1; have hnF := iw.2.2.2.2.1
  have e1 := wf_0_8 wf
  have out : 0 ≤ a0 → a0 < nW μ → ¬ ((0 ≤ a1 ∧ a1 ≤ 999) ∧ 0 ≤ a2 ∧ a2 ≤ 29) → Ci G mX8_stood [(2, 110), (0, a0), (0, a1), (0, a2)] SHl μ (fun r' μ2 => -1000000002 = r' ∧ R32 (-1000000002) ∧ Inv μ2) := fun c1 c2 c =>
    eX8_stood (fun Φ hΦ hR => bX8_stood_0 hΦ hR ⟨so_110, c8_isWheel (by omega) ha0 (fun _ _ => yes_ ⟨ha1, c_m_in (r64 ha1) ⟨by decide, by decide⟩ ⟨by decide, by decide⟩ (fun d1 d2 => yes'_ ⟨ha2, c_m_in (r64 ha2) ⟨by decide, by decide⟩ ⟨by decide, by decide⟩ (fun d3 d4 => absurd ⟨⟨d1, d2⟩, d3, d4⟩ c) (fun _ => no_ ⟨rfl, by decide, h'⟩)⟩) (fun _ => no'_ ⟨rfl, by decide, h'⟩)⟩) (fun d => absurd ⟨c1, by omega⟩ d)⟩)
  refine eX7_stood (fun Φ hΦ hR => bX7_stood_0 hΦ hR ⟨so_0, c7_hasWheel wf iw ha0 (fun c1 c2 => yes_ ⟨ha1, fun c => out c1 c2 (by omega), fun k1 => ⟨fun c => out c1 c2 (by omega), fun k2 => ⟨ha2, fun c => out c1 c2 (by omega), fun k3 => ⟨fun k4 => ?_, fun c => out c1 c2 (by omega)⟩⟩⟩⟩) (fun c => no_ (eX8_stood (fun Φ hΦ hR => bX8_stood_0 hΦ hR ⟨so_110, c8_isWheel (by omega) ha0 (fun c1 c2 => absurd ⟨c1, by omega⟩ c) (fun _ => no_ ⟨rfl, by decide, h'⟩)⟩)))⟩)
  rw [e1]
  have aj := aj_L (o := 94) (n := 12) (Or.inl ⟨rfl, rfl⟩)
  have w0 := wf_94_0 wf
  have w1 := wf_94_1 wf
  have w2 := wf_94_2 wf
  have x0 := wf_110_34 wf
  have x1 := wf_110_35 wf
  have x2 := wf_110_36 wf
  obtain ⟨⟨l1, l2, l3⟩, l4, l5, l6⟩ := il
  refine ⟨so_94, eX2_put (fun Φ hΦ hR => bX2_put_0 hΦ hR ⟨so_94, ?_⟩)⟩
  rw [w0]
  have al : aln SHl 95 = 12 := aj.2
  rw [al]
  refine ⟨aj.1, ⟨by omega, by omega⟩, ⟨by decide, by decide⟩, fun lt => ⟨ai_95 l2 lt, ?_⟩, fun ge => ?_⟩
  · rintro m6 e6
    have g1 : m6 94 1 = 96 := by rw [e6, mu_off2 (by omega)]; exact w1
    have g2 : m6 94 3 = μ 94 3 := by rw [e6, mu_off2 (by omega)]
    rw [g1, g2]
    refine ⟨ai_96 l2 lt, ?_⟩
    rintro m8 e8
    have g3 : m8 94 2 = 97 := by rw [e8, e6, mu_off2 (by omega), mu_off2 (by omega)]; exact w2
    have g4 : m8 94 3 = μ 94 3 := by rw [e8, e6, mu_off2 (by omega), mu_off2 (by omega)]
    rw [g3, g4]
    refine ⟨ai_97 l2 lt, ?_⟩
    rintro m10 e10 m11 e11
    have g5 : m10 94 3 = μ 94 3 := by rw [e10, e8, e6, mu_off2 (by omega), mu_off2 (by omega), mu_off2 (by omega)]
    have k : m11 = mu (mu (mu (mu μ 95 (μ 94 3) a0) 96 (μ 94 3) a1) 97 (μ 94 3) a2) 94 3 (μ 94 3 + 1) := by rw [e11, g5, e10, e8, e6]
    have k0 : m11 94 3 = μ 94 3 + 1 := by rw [k, mu_same]
    have k1 : m11 110 = μ 110 := by rw [k, mu_row (by omega), mu_row (by omega), mu_row (by omega), mu_row (by omega)]
    rw [k0]
    refine eX8_stood (fun Φ hΦ hR => bX8_stood_0 hΦ hR ⟨so_110, c8_isWheel (by rw [k1]; omega) ha0 (fun _ _ => yes_ ⟨ha1, c_m_in (r64 ha1) ⟨by decide, by decide⟩ ⟨by decide, by decide⟩ (fun d1 d2 => yes'_ ⟨ha2, c_m_in (r64 ha2) ⟨by decide, by decide⟩ ⟨by decide, by decide⟩ (fun d3 d4 => yes_ ?_) (fun c => absurd (by omega) c)⟩) (fun c => absurd (by omega) c)⟩) (fun d => absurd (by rw [k1]; omega) d)⟩)
    rw [k1, x0, ← l1]
    refine ⟨⟨by omega, by omega⟩, fun _ => ⟨ai_126 l2 lt, ?_⟩, fun d => absurd d (by omega)⟩
    rintro m12 e12
    have q1 : m12 110 = μ 110 := by rw [e12, mu_row (by omega), k1]
    rw [q1, x1, ← l1]
    refine ⟨ai_127 l2 lt, ?_⟩
    rintro m14 e14
    have q2 : m14 110 = μ 110 := by rw [e14, mu_row (by omega), q1]
    rw [q2, x2, ← l1]
    refine ⟨ai_128 l2 lt, ?_⟩
    rintro m16 e16 m17 e17
    have q3 : m16 110 = μ 110 := by rw [e16, mu_row (by omega), q2]
    rw [q3, ← l1] at e17
    have kk : m17 = mu (mu (mu (mu (mu (mu (mu (mu μ 95 (μ 94 3) a0) 96 (μ 94 3) a1) 97 (μ 94 3) a2) 94 3 (μ 94 3 + 1)) 126 (μ 94 3) a0) 127 (μ 94 3) a1) 128 (μ 94 3) a2) 110 37 (μ 94 3 + 1) := by rw [e17, e16, e14, e12, k]
    have kz : m17 110 37 = μ 94 3 + 1 := by rw [kk, mu_same]
    refine ⟨by rw [kz], ⟨by omega, by omega⟩, ?_⟩
    rw [kk]
    have sw : Sm (dW (wW μ) (nL μ)) μ (mu (mu (mu (mu (mu (mu (mu (mu μ 95 (μ 94 3) a0) 96 (μ 94 3) a1) 97 (μ 94 3) a2) 94 3 (μ 94 3 + 1)) 126 (μ 94 3) a0) 127 (μ 94 3) a1) 128 (μ 94 3) a2) 110 37 (μ 94 3 + 1)) := (fun k i d => by unfold dW at d; (repeat first | rw [mu_off2 (by omega)] | rw [mstd_off (by omega) (by omega)] | rw [mrow_off (by omega)]))
    have e := SW_of sw
    refine ⟨wf_sm wf (fun k i d => by unfold dF at d; (repeat first | rw [mu_off2 (by omega)] | rw [mstd_off (by omega) (by omega)] | rw [mrow_off (by omega)])), IW_sm iw sw, IR_sm ir (fun k i d => by unfold dR at d; (repeat first | rw [mu_off2 (by omega)] | rw [mstd_off (by omega) (by omega)] | rw [mrow_off (by omega)])), IN_sm inn hnW.2.2 e (fun k i d => by unfold dN at d; (repeat first | rw [mu_off2 (by omega)] | rw [mstd_off (by omega) (by omega)] | rw [mrow_off (by omega)])), ID_sm idd hnW.2.2 e (fun k i d => by unfold dD at d; (repeat first | rw [mu_off2 (by omega)] | rw [mstd_off (by omega) (by omega)] | rw [mrow_off (by omega)])), II_sm ii hnW.2.2 e (fun k i d => by unfold dI at d; (repeat first | rw [mu_off2 (by omega)] | rw [mstd_off (by omega) (by omega)] | rw [mrow_off (by omega)])), ⟨?_, ?_, ?_, ?_⟩, IM_sm im e (fun k i d => by unfold dM at d; (repeat first | rw [mu_off2 (by omega)] | rw [mstd_off (by omega) (by omega)] | rw [mrow_off (by omega)]))⟩
    · simp [mu]; omega
    · simpa [mu] using l4
    · rw [e.nw]
      intro j h0 h1
      have h1 : j < μ 94 3 + 1 := by simpa [mu] using h1
      by_cases c : j = μ 94 3
      · subst c; simp [mu]; omega
      · have := l5 j h0 (by omega)
        simpa [mu, c] using this
    · rw [e.nw]
      intro j h0 h1
      have h1 : j < μ 98 3 := by simpa [mu] using h1
      simpa [mu] using l6 j h0 h1
  · refine eX8_stood (fun Φ hΦ hR => bX8_stood_0 hΦ hR ⟨so_110, c8_isWheel (by omega) ha0 (fun _ _ => yes_ ⟨ha1, c_m_in (r64 ha1) ⟨by decide, by decide⟩ ⟨by decide, by decide⟩ (fun d1 d2 => yes'_ ⟨ha2, c_m_in (r64 ha2) ⟨by decide, by decide⟩ ⟨by decide, by decide⟩ (fun d3 d4 => yes_ ⟨⟨by omega, by omega⟩, fun d => absurd (by omega) d, fun _ => ⟨rfl, by decide, h'⟩⟩) (fun c => absurd (by omega) c)⟩) (fun c => absurd (by omega) c)⟩) (fun d => absurd (by omega) d)⟩)
theorem st_write {G : Gm} {μ : Mem} {a0 a1 a2 : Int} (h : Inv μ) (ha0 : R32 a0) (ha1 : R32 a1) (ha2 : R32 a2) : Both G mX7_write mX8_write [(0, a0), (0, a1), (0, a2)] μ := by
  have h' := h
  obtain ⟨wf, iw, ir, inn, idd, ii, il, im⟩ := h; have hW : wW μ = 3 ∨ wW μ = 12 := iw.1; have hnW := iw.2.2.1; have hnL := iw.2.2.2.1; have hnF := iw.2.2.2.2.1
  have e1 := wf_0_9 wf
  have out : 0 ≤ a0 → a0 < nW μ → ¬ ((0 ≤ a1 ∧ a1 ≤ 99999) ∧ 0 ≤ a2 ∧ a2 ≤ 29) → Ci G mX8_write [(2, 110), (0, a0), (0, a1), (0, a2)] SHl μ (fun r' μ2 => -1000000002 = r' ∧ R32 (-1000000002) ∧ Inv μ2) := fun c1 c2 c =>
    eX8_write (fun Φ hΦ hR => bX8_write_0 hΦ hR ⟨so_110, c8_isWheel (by omega) ha0 (fun _ _ => yes_ ⟨ha1, c_m_in (r64 ha1) ⟨by decide, by decide⟩ ⟨by decide, by decide⟩ (fun d1 d2 => yes'_ ⟨ha2, c_m_in (r64 ha2) ⟨by decide, by decide⟩ ⟨by decide, by decide⟩ (fun d3 d4 => absurd ⟨⟨d1, d2⟩, d3, d4⟩ c) (fun _ => no_ ⟨rfl, by decide, h'⟩)⟩) (fun _ => no'_ ⟨rfl, by decide, h'⟩)⟩) (fun d => absurd ⟨c1, by omega⟩ d)⟩)
  refine eX7_write (fun Φ hΦ hR => bX7_write_0 hΦ hR ⟨so_0, c7_hasWheel wf iw ha0 (fun c1 c2 => yes_ ⟨ha1, fun c => out c1 c2 (by omega), fun k1 => ⟨fun c => out c1 c2 (by omega), fun k2 => ⟨ha2, fun c => out c1 c2 (by omega), fun k3 => ⟨fun k4 => ?_, fun c => out c1 c2 (by omega)⟩⟩⟩⟩) (fun c => no_ (eX8_write (fun Φ hΦ hR => bX8_write_0 hΦ hR ⟨so_110, c8_isWheel (by omega) ha0 (fun c1 c2 => absurd ⟨c1, by omega⟩ c) (fun _ => no_ ⟨rfl, by decide, h'⟩)⟩)))⟩)
  rw [e1]
  have aj := aj_L (o := 98) (n := 15) (Or.inr ⟨rfl, rfl⟩)
  have w0 := wf_98_0 wf
  have w1 := wf_98_1 wf
  have w2 := wf_98_2 wf
  have x0 := wf_110_39 wf
  have x1 := wf_110_40 wf
  have x2 := wf_110_41 wf
  obtain ⟨l4, ⟨l1, l2, l3⟩, l6, l5⟩ := il
  refine ⟨so_98, eX2_put (fun Φ hΦ hR => bX2_put_0 hΦ hR ⟨so_98, ?_⟩)⟩
  rw [w0]
  have al : aln SHl 99 = 15 := aj.2
  rw [al]
  refine ⟨aj.1, ⟨by omega, by omega⟩, ⟨by decide, by decide⟩, fun lt => ⟨ai_99 l2 lt, ?_⟩, fun ge => ?_⟩
  · rintro m6 e6
    have g1 : m6 98 1 = 100 := by rw [e6, mu_off2 (by omega)]; exact w1
    have g2 : m6 98 3 = μ 98 3 := by rw [e6, mu_off2 (by omega)]
    rw [g1, g2]
    refine ⟨ai_100 l2 lt, ?_⟩
    rintro m8 e8
    have g3 : m8 98 2 = 101 := by rw [e8, e6, mu_off2 (by omega), mu_off2 (by omega)]; exact w2
    have g4 : m8 98 3 = μ 98 3 := by rw [e8, e6, mu_off2 (by omega), mu_off2 (by omega)]
    rw [g3, g4]
    refine ⟨ai_101 l2 lt, ?_⟩
    rintro m10 e10 m11 e11
    have g5 : m10 98 3 = μ 98 3 := by rw [e10, e8, e6, mu_off2 (by omega), mu_off2 (by omega), mu_off2 (by omega)]
    have k : m11 = mu (mu (mu (mu μ 99 (μ 98 3) a0) 100 (μ 98 3) a1) 101 (μ 98 3) a2) 98 3 (μ 98 3 + 1) := by rw [e11, g5, e10, e8, e6]
    have k0 : m11 98 3 = μ 98 3 + 1 := by rw [k, mu_same]
    have k1 : m11 110 = μ 110 := by rw [k, mu_row (by omega), mu_row (by omega), mu_row (by omega), mu_row (by omega)]
    rw [k0]
    refine eX8_write (fun Φ hΦ hR => bX8_write_0 hΦ hR ⟨so_110, c8_isWheel (by rw [k1]; omega) ha0 (fun _ _ => yes_ ⟨ha1, c_m_in (r64 ha1) ⟨by decide, by decide⟩ ⟨by decide, by decide⟩ (fun d1 d2 => yes'_ ⟨ha2, c_m_in (r64 ha2) ⟨by decide, by decide⟩ ⟨by decide, by decide⟩ (fun d3 d4 => yes_ ?_) (fun c => absurd (by omega) c)⟩) (fun c => absurd (by omega) c)⟩) (fun d => absurd (by rw [k1]; omega) d)⟩)
    rw [k1, x0, ← l1]
    refine ⟨⟨by omega, by omega⟩, fun _ => ⟨ai_130 l2 lt, ?_⟩, fun d => absurd d (by omega)⟩
    rintro m12 e12
    have q1 : m12 110 = μ 110 := by rw [e12, mu_row (by omega), k1]
    rw [q1, x1, ← l1]
    refine ⟨ai_131 l2 lt, ?_⟩
    rintro m14 e14
    have q2 : m14 110 = μ 110 := by rw [e14, mu_row (by omega), q1]
    rw [q2, x2, ← l1]
    refine ⟨ai_132 l2 lt, ?_⟩
    rintro m16 e16 m17 e17
    have q3 : m16 110 = μ 110 := by rw [e16, mu_row (by omega), q2]
    rw [q3, ← l1] at e17
    have kk : m17 = mu (mu (mu (mu (mu (mu (mu (mu μ 99 (μ 98 3) a0) 100 (μ 98 3) a1) 101 (μ 98 3) a2) 98 3 (μ 98 3 + 1)) 130 (μ 98 3) a0) 131 (μ 98 3) a1) 132 (μ 98 3) a2) 110 42 (μ 98 3 + 1) := by rw [e17, e16, e14, e12, k]
    have kz : m17 110 42 = μ 98 3 + 1 := by rw [kk, mu_same]
    refine ⟨by rw [kz], ⟨by omega, by omega⟩, ?_⟩
    rw [kk]
    have sw : Sm (dW (wW μ) (nL μ)) μ (mu (mu (mu (mu (mu (mu (mu (mu μ 99 (μ 98 3) a0) 100 (μ 98 3) a1) 101 (μ 98 3) a2) 98 3 (μ 98 3 + 1)) 130 (μ 98 3) a0) 131 (μ 98 3) a1) 132 (μ 98 3) a2) 110 42 (μ 98 3 + 1)) := (fun k i d => by unfold dW at d; (repeat first | rw [mu_off2 (by omega)] | rw [mstd_off (by omega) (by omega)] | rw [mrow_off (by omega)]))
    have e := SW_of sw
    refine ⟨wf_sm wf (fun k i d => by unfold dF at d; (repeat first | rw [mu_off2 (by omega)] | rw [mstd_off (by omega) (by omega)] | rw [mrow_off (by omega)])), IW_sm iw sw, IR_sm ir (fun k i d => by unfold dR at d; (repeat first | rw [mu_off2 (by omega)] | rw [mstd_off (by omega) (by omega)] | rw [mrow_off (by omega)])), IN_sm inn hnW.2.2 e (fun k i d => by unfold dN at d; (repeat first | rw [mu_off2 (by omega)] | rw [mstd_off (by omega) (by omega)] | rw [mrow_off (by omega)])), ID_sm idd hnW.2.2 e (fun k i d => by unfold dD at d; (repeat first | rw [mu_off2 (by omega)] | rw [mstd_off (by omega) (by omega)] | rw [mrow_off (by omega)])), II_sm ii hnW.2.2 e (fun k i d => by unfold dI at d; (repeat first | rw [mu_off2 (by omega)] | rw [mstd_off (by omega) (by omega)] | rw [mrow_off (by omega)])), ⟨?_, ?_, ?_, ?_⟩, IM_sm im e (fun k i d => by unfold dM at d; (repeat first | rw [mu_off2 (by omega)] | rw [mstd_off (by omega) (by omega)] | rw [mrow_off (by omega)]))⟩
    · simpa [mu] using l4
    · simp [mu]; omega
    · rw [e.nw]
      intro j h0 h1
      have h1 : j < μ 94 3 := by simpa [mu] using h1
      simpa [mu] using l6 j h0 h1
    · rw [e.nw]
      intro j h0 h1
      have h1 : j < μ 98 3 + 1 := by simpa [mu] using h1
      by_cases c : j = μ 98 3
      · subst c; simp [mu]; omega
      · have := l5 j h0 (by omega)
        simpa [mu, c] using this
  · refine eX8_write (fun Φ hΦ hR => bX8_write_0 hΦ hR ⟨so_110, c8_isWheel (by omega) ha0 (fun _ _ => yes_ ⟨ha1, c_m_in (r64 ha1) ⟨by decide, by decide⟩ ⟨by decide, by decide⟩ (fun d1 d2 => yes'_ ⟨ha2, c_m_in (r64 ha2) ⟨by decide, by decide⟩ ⟨by decide, by decide⟩ (fun d3 d4 => yes_ ⟨⟨by omega, by omega⟩, fun d => absurd (by omega) d, fun _ => ⟨rfl, by decide, h'⟩⟩) (fun c => absurd (by omega) c)⟩) (fun c => absurd (by omega) c)⟩) (fun d => absurd (by omega) d)⟩)
