def FB (k i : Int) : Prop := (k = 29 ∧ 0 ≤ i ∧ i ≤ 2) ∨ k = 30 ∨ (k = 0 ∧ i = 12) ∨ (k = 31 ∧ 1 ≤ i ∧ i ≤ 2) ∨ FM 21 k i ∨ (k = 111 ∧ 0 ≤ i ∧ i < 12) ∨ (k = 110 ∧ i = 31)
theorem st_goBack {G : Gm} {μ : Mem} {a0 : Int} (h : Inv μ) (ha0 : R32 a0) : Both G mX7_goBack mX8_goBack [(0, a0)] μ := by
  have h' := h
  obtain ⟨wf, iw, ir, inn, idd, ii, il, im⟩ := h; have hW : wW μ = 3 ∨ wW μ = 12 := iw.1; have hnW := iw.2.2.1; have hnL := iw.2.2.2.1; have hnF := iw.2.2.2.2.1
  have out : ¬ (0 ≤ a0 ∧ a0 ≤ 1) → Ci G mX8_goBack [(2, 110), (0, a0)] SHl μ (fun r' μ2 => -1000000001 = r' ∧ R32 (-1000000001) ∧ Inv μ2) := fun c =>
    eX8_goBack (fun Φ hΦ hR => bX8_goBack_0 hΦ hR ⟨ha0, c_m_in (r64 ha0) ⟨by decide, by decide⟩ ⟨by decide, by decide⟩ (fun c1 c2 => absurd ⟨c1, c2⟩ c) (fun _ => no_ ⟨rfl, by decide, h'⟩)⟩)
  refine eX7_goBack (fun Φ hΦ hR => bX7_goBack_0 hΦ hR ⟨ha0, fun c => out (by omega), fun c => ⟨fun c1 => ⟨so_0, ?_⟩, fun c1 => out (by omega)⟩⟩)
  have hi : a0 = 0 ∨ a0 = 1 := by omega
  have w93 : μ 93 a0 = 104 + 3 * a0 := by rcases hi with rfl | rfl; exact wf_93_0 wf; exact wf_93_1 wf
  have w104 : μ (104 + 3 * a0) 0 = 105 + 3 * a0 := by rcases hi with rfl | rfl; exact wf_104_0 wf; exact wf_107_0 wf
  have s104 : So SHl (104 + 3 * a0) (.inl 1) := by rcases hi with rfl | rfl; exact so_104; exact so_107
  have hS : isS (105 + 3 * a0) := by rcases hi with rfl | rfl; exact Or.inr (Or.inl rfl); exact Or.inr (Or.inr (Or.inl rfl))
  rw [wf_0_7 wf, w93, w104, wf_0_5 wf]
  obtain ⟨⟨q1, q1', q1''⟩, q2⟩ := ii a0 (by omega) (by omega)
  refine ⟨ai_93 (by omega) (by omega), s104, ⟨by omega, by omega⟩, fun kp => ⟨so_29, ?_⟩, fun kp => ?_⟩
  · refine c5_become wf (Or.inl rfl) hS (by omega) ?_
    generalize e7 : mstd μ 29 (105 + 3 * a0) = m7
    have f7 : ∀ k i, ¬ (k = 29 ∧ 0 ≤ i ∧ i ≤ 2) → ¬ (k = 29 + 1 ∧ 0 ≤ i ∧ i < 8) → m7 k i = μ k i := fun k i c1 c2 => by rw [← e7]; exact mstd_off c1 c2
    rw [f7 0 7 (by omega) (by omega), wf_0_7 wf, f7 93 a0 (by omega) (by omega), w93, f7 (104 + 3 * a0) 1 (by omega) (by omega)]
    refine ⟨ai_93 (by omega) (by omega), s104, ?_⟩
    rintro m10 e10
    rw [show m10 0 6 = 31 by rw [e10, mu_off2 (by omega), f7 _ _ (by omega) (by omega)]; exact wf_0_6 wf]
    refine ⟨so_31, ?_⟩
    rintro m12 e12
    have k12 : m12 = mu (mu (mstd μ 29 (105 + 3 * a0)) 0 12 (μ (104 + 3 * a0) 1)) 31 2 0 := by rw [e12, e10, e7]
    have q3 : μ 112 a0 = 1 := by omega
    obtain ⟨im1, im2, im3, im4⟩ := q2 q3
    have sw12 : Sm (dW (wW μ) (nL μ)) μ m12 := by rw [k12]; exact (fun k i d => by unfold dW at d; (repeat first | rw [mu_off2 (by omega)] | rw [mstd_off (by omega) (by omega)] | rw [mrow_off (by omega)]))
    have e12' := SW_of sw12
    have iw12 := IW_sm iw sw12
    have c12 : m12 29 2 = μ (105 + 3 * a0) 2 := by rw [k12, mu_off2 (by omega), mu_off2 (by omega), mstd_f (by omega)]
    refine c7_reckonNow (wf_sm wf (by rw [k12]; exact (fun k i d => by unfold dF at d; (repeat first | rw [mu_off2 (by omega)] | rw [mstd_off (by omega) (by omega)] | rw [mrow_off (by omega)])))) iw12 ⟨by rw [c12]; exact im1.2.2.1.1, by rw [c12, e12'.nl]; exact im1.2.2.1.2⟩ (fun μ13 of13 im13 => ?_)
    have wf13 : WF μ13 := off_wf (wf_sm wf (by rw [k12]; exact (fun k i d => by unfold dF at d; (repeat first | rw [mu_off2 (by omega)] | rw [mstd_off (by omega) (by omega)] | rw [mrow_off (by omega)])))) (Or.inl rfl) of13
    have g1 : μ13 112 a0 = 1 := by rw [of13 _ _ (by unfold FM; omega), k12]; (repeat first | rw [mu_off2 (by omega)] | rw [mstd_off (by omega) (by omega)] | rw [mrow_off (by omega)]); exact q3
    refine eX8_goBack (fun Φ hΦ hR => bX8_goBack_0 hΦ hR ⟨ha0, c_m_in (r64 ha0) ⟨by decide, by decide⟩ ⟨by decide, by decide⟩ (fun c1 c2 => yes_ ⟨so_110, ?_⟩) (fun d => absurd (by omega) d)⟩)
    rw [wf_110_1 wf13, g1]
    refine ⟨ai_112 (by omega) (by omega), R32_1, fun _ => c8_copy wf13 (by omega) (by omega) (by omega) ?_, fun d => absurd d (by decide)⟩
    rintro m8 e8
    refine ⟨rfl, by decide, ?_⟩
    have hF : ∀ k i, ¬ FB k i → m8 k i = μ k i := fun k i c => by
      unfold FB FM at c
      rw [e8, mu_off2 (by omega), mrow_off (by omega), of13 k i (by unfold FM; omega), k12]
      (repeat first | rw [mu_off2 (by omega)] | rw [mstd_off (by omega) (by omega)] | rw [mrow_off (by omega)])
    have sw : Sm (dW (wW μ) (nL μ)) μ m8 := fun k i d => hF k i (by unfold dW at d; unfold FB FM; omega)
    have e := SW_of sw
    have r111 : ∀ i, 0 ≤ i → i < 12 → m8 111 i = μ 111 (12 + 12 * a0 + i) := fun i i0 i1 => by
      rw [e8, mu_off2 (by omega), mrow_on (by omega), of13 _ _ (by unfold FM; omega), k12, show 12 + 12 * a0 + (i - 0) = 12 + 12 * a0 + i by omega]
      (repeat first | rw [mu_off2 (by omega)] | rw [mstd_off (by omega) (by omega)] | rw [mrow_off (by omega)])
    refine ⟨wf_sm wf (fun k i d => hF k i (by unfold dF at d; unfold FB FM; omega)), IW_sm iw sw, IR_sm ir (fun k i d => hF k i (by unfold dR at d; unfold FB FM; omega)), ⟨IS_cp im1 hnW.2.2 e (fun j h0 h1 => ?_) (fun j h0 h1 => ?_) (fun j h0 h1 => ?_), ?_⟩, ?_, II_sm ii hnW.2.2 e (fun k i d => hF k i (by unfold dI at d; unfold FB FM; omega)), IL_sm il e (fun k i d => hF k i (by unfold dL at d; unfold FB FM; omega)), ?_⟩
    · rw [e8, mu_off2 (by omega), mrow_off (by omega), of13 _ _ (by unfold FM; omega), k12, mu_off2 (by omega), mu_off2 (by omega), mstd_f (by omega)]
    · rw [e8, mu_off2 (by omega), mrow_off (by omega), of13 _ _ (by unfold FM; omega), k12, mu_off2 (by omega), mu_off2 (by omega), mstd_p (by omega)]
    · rw [show (0 : Int) + j = j by omega]; exact r111 j h0 (by omega)
    · rw [r111 11 (by decide) (by decide), show m8 0 12 = μ (104 + 3 * a0) 1 by rw [e8, mu_off2 (by omega), mrow_off (by omega), of13 _ _ (by unfold FM; omega), k12, mu_off2 (by omega), mu_same]]
      exact ⟨im2, im3, im4⟩
    · have v2 : m8 31 2 = 0 := by rw [e8, mu_off2 (by omega), mrow_off (by omega), of13 _ _ (by unfold FM; omega), k12, mu_same]
      have v1 : m8 31 1 = μ 31 1 := by rw [e8, mu_off2 (by omega), mrow_off (by omega), of13 _ _ (by unfold FM; omega), k12]; (repeat first | rw [mu_off2 (by omega)] | rw [mstd_off (by omega) (by omega)] | rw [mrow_off (by omega)])
      refine ⟨by rw [v2, e8, mu_same]; decide, by rw [v1]; exact idd.2.1, ?_⟩
      rw [v2]; intro j h0 h1; omega
    · have sw13 : ∀ k i, ¬ ((k = 111 ∧ 0 ≤ i ∧ i < 12) ∨ (k = 110 ∧ i = 31)) → m8 k i = μ13 k i := fun k i c => by rw [e8, mu_off2 (by omega), mrow_off (by omega)]
      have w13 : wW μ13 = wW μ := (of13 0 1 (by unfold FM; omega)).trans e12'.w
      exact IM_sm im13 (SW_of (fun k i d => sw13 k i (by unfold dW at d; rw [w13] at d; omega))) (fun k i d => sw13 k i (by unfold dM at d; omega))
  · refine eX8_goBack (fun Φ hΦ hR => bX8_goBack_0 hΦ hR ⟨ha0, c_m_in (r64 ha0) ⟨by decide, by decide⟩ ⟨by decide, by decide⟩ (fun c1 c2 => yes_ ⟨so_110, ?_⟩) (fun d => absurd (by omega) d)⟩)
    rw [wf_110_1 wf, ← q1]
    exact ⟨ai_112 (by omega) (by omega), ⟨by omega, by omega⟩, fun d => absurd kp d, fun _ => ⟨rfl, by decide, h'⟩⟩
/-- the first of a row that is so; -1: none -/
def Fst (p : Int → Prop) (n r : Int) : Prop := (0 ≤ r ∧ r < n ∧ p r ∧ ∀ j, 0 ≤ j → j < r → ¬ p j) ∨ (r = -1 ∧ ∀ j, 0 ≤ j → j < n → ¬ p j)
theorem st_judge {G : Gm} {μ : Mem} (h : Inv μ) : Both G mX7_judge mX8_judge [] μ := by
  have h' := h
  obtain ⟨wf, iw, ir, inn, idd, ii, il, im⟩ := h; have hW : wW μ = 3 ∨ wW μ = 12 := iw.1; have hnW := iw.2.2.1; have hnL := iw.2.2.2.1; have hnF := iw.2.2.2.2.1
  obtain ⟨-, ⟨l1, l2, l3⟩, -, l5⟩ := il
  let bad : Int → Prop := fun j => plc μ (μ 99 j) (μ 100 j) ≠ μ 101 j
  have ref : ∀ r, Fst bad (μ 98 3) r → Ci G mX8_judge [(2, 110)] SHl μ (fun r' μ2 => r = r' ∧ R32 r ∧ Inv μ2) := by
    intro r hr
    have rr : R32 r := by unfold Fst at hr; rcases hr with hr | hr <;> exact ⟨by omega, by omega⟩
    refine eX8_judge (fun Φ hΦ hR => bX8_judge_0 hΦ hR ⟨so_110, c8_rates h' (fun μ' rn => ?_)⟩)
    have wf' := (RN_inv h' rn).1
    have of := rn.1
    have loop : ∀ (m : Nat) (i : Int), 0 ≤ i → i + m = μ 98 3 → (∀ j, 0 ≤ j → j < i → ¬ bad j) → Ex G Φ 2 6 [some (2, 110), some (0, i)] [] SHl μ' 0 0 := by
      intro m
      induction m with
      | zero =>
        intro i i0 i1 hb
        refine bX8_judge_6 hΦ hR ⟨so_110, ⟨by omega, by omega⟩, ?_⟩
        rw [of 110 42 (by unfold FR' FR; omega), ← l1]
        refine ⟨⟨by omega, by omega⟩, fun _ => ⟨?_, rr, RN_inv h' rn⟩, fun c => absurd (by omega) c⟩
        rcases hr with ⟨r0, r1, r2, r3⟩ | ⟨r0, r1⟩
        · exact absurd r2 (hb r r0 (by omega))
        · exact r0
      | succ m ih =>
        intro i i0 i1 hb
        obtain ⟨⟨a1, a2, a3⟩, ⟨b1, b2, b3⟩, c1, c2, c3⟩ := l5 i i0 (by omega)
        refine bX8_judge_6 hΦ hR ⟨so_110, ⟨by omega, by omega⟩, ?_⟩
        rw [of 110 42 (by unfold FR' FR; omega), ← l1, wf_110_39 wf', wf_110_40 wf', of 131 i (by unfold FR' FR; omega), of 130 i (by unfold FR' FR; omega), ← a1, ← b1]
        have rg := plc_rg h' a2 a3 (n := μ 100 i)
        have hT := h'.T a2 a3
        refine ⟨⟨by omega, by omega⟩, fun c => absurd c (by omega), fun _ => ⟨ai_130 i0 (by omega), ai_131 i0 (by omega), ⟨by omega, by omega⟩, c8_place h' rn a2 a3 ⟨by omega, by omega⟩ ?_⟩⟩
        rw [wf_110_41 wf', of 132 i (by unfold FR' FR; omega), ← c1]
        refine ⟨ai_132 i0 (by omega), ⟨by omega, by omega⟩, ⟨by omega, by omega⟩, fun q => ih (i + 1) (by omega) (by omega) (fun j j0 j1 => ?_), fun q => ⟨?_, rr, RN_inv h' rn⟩⟩
        · by_cases cj : j = i
          · rw [cj]; exact fun c => c q
          · exact hb j j0 (by omega)
        · rcases hr with ⟨r0, r1, r2, r3⟩ | ⟨r0, r1⟩
          · rcases Int.lt_trichotomy r i with c | c | c
            · exact absurd r2 (hb r r0 c)
            · exact c
            · exact absurd q (r3 i i0 c)
          · exact absurd q (r1 i i0 (by omega))
    exact loop (μ 98 3).toNat 0 (by decide) (by omega) (fun j j0 j1 => by omega)
  refine eX7_judge (fun Φ hΦ hR => bX7_judge_0 hΦ hR ?_)
  have loop : ∀ (m : Nat) (i : Int), 0 ≤ i → i + m = μ 98 3 → (∀ j, 0 ≤ j → j < i → ¬ bad j) → Ex G Φ 2 2 [some (2, 0), some (0, i)] [] SHl μ 0 0 := by
    intro m
    induction m with
    | zero =>
      intro i i0 i1 hb
      refine bX7_judge_2 hΦ hR ⟨so_0, ?_⟩
      rw [wf_0_9 wf]
      exact ⟨so_98, ⟨by omega, by omega⟩, ⟨by omega, by omega⟩, fun _ => ref _ (Or.inr ⟨rfl, fun j j0 j1 => hb j j0 (by omega)⟩), fun c => absurd (by omega) c⟩
    | succ m ih =>
      intro i i0 i1 hb
      obtain ⟨⟨a1, a2, a3⟩, ⟨b1, b2, b3⟩, c1, c2, c3⟩ := l5 i i0 (by omega)
      have rg := plc_rg h' a2 a3 (n := μ 100 i)
      have hT := h'.T a2 a3
      refine bX7_judge_2 hΦ hR ⟨so_0, ?_⟩
      rw [wf_0_9 wf, wf_98_0 wf, wf_98_1 wf]
      refine ⟨so_98, ⟨by omega, by omega⟩, ⟨by omega, by omega⟩, fun c => absurd c (by omega), fun _ => ⟨ai_99 i0 (by omega), ai_100 i0 (by omega), c7_place h' a2 a3 ⟨by omega, by omega⟩ ?_⟩⟩
      rw [wf_0_9 wf, wf_98_2 wf]
      refine ⟨so_98, ai_101 i0 (by omega), ⟨by omega, by omega⟩, ⟨by omega, by omega⟩, fun q => ih (i + 1) (by omega) (by omega) (fun j j0 j1 => ?_), fun q => ref _ (Or.inl ⟨i0, by omega, q, hb⟩)⟩
      by_cases cj : j = i
      · rw [cj]; exact fun c => c q
      · exact hb j j0 (by omega)
  exact loop (μ 98 3).toNat 0 (by decide) (by omega) (fun j j0 j1 => by omega)
theorem c3_turns' {G : Gm} {μ : Mem} {Q : Int → Mem → Prop} {w : Int} (h : Inv μ) (h0 : 0 ≤ w) (h1 : w < nW μ) (k : Q (if μ 22 w ≠ 0 then 1 else 0) μ) : Ci G mX3_turns [(2, 21), (0, w)] SHl μ Q := by
  have hn := h.nw
  have im := h.2.2.2.2.2.2.2
  have p := pw10 (n := (nW μ).toNat) (by omega)
  have tr := im.2.1
  have hb := im.2.2 w h0 h1
  refine c3_turns (Or.inl rfl) ⟨by omega, by omega⟩ h0 (by omega) ?_
  by_cases c : μ 22 w ≠ 0
  · rw [if_pos c] at k; rw [if_pos (hb.mpr c)]; exact k
  · rw [if_neg c] at k; rw [if_neg (fun q => c (hb.mp q))]; exact k
theorem c3_turnAlike {G : Gm} {μ : Mem} {Q : Int → Mem → Prop} {o a b : Int} (wf : WF μ) (ho : isM o) (ha : 0 ≤ a ∧ a < 8) (hb : 0 ≤ b ∧ b < 8) (ra : R64 (μ (o + 1) a)) (rb : R64 (μ (o + 1) b)) (k : Q (if (0 < μ (o + 1) a ↔ 0 < μ (o + 1) b) then 1 else 0) μ) : Ci G mX3_turnAlike [(2, o), (0, a), (0, b)] SHl μ Q := by
  refine eX3_turnAlike (fun Φ hΦ hR => bX3_turnAlike_0 hΦ hR ⟨so_M ho, ?_⟩)
  rw [wf_M0 wf ho]
  refine ⟨ai_M1 ho ha.1 ha.2, ra, fun c => bX3_turnAlike_16 hΦ hR ⟨so_M ho, ?_⟩, fun c => bX3_turnAlike_16 hΦ hR ⟨so_M ho, ?_⟩⟩
  · rw [wf_M0 wf ho]
    refine ⟨ai_M1 ho hb.1 hb.2, rb, fun d => ⟨R32_0, fun e => absurd rfl e, fun _ => ?_⟩, fun d => ⟨R32_0, fun e => ?_, fun e => absurd e (by decide)⟩⟩
    · rw [if_pos (by omega)] at k; exact k
    · rw [if_neg (by omega)] at k; exact k
  · rw [wf_M0 wf ho]
    refine ⟨ai_M1 ho hb.1 hb.2, rb, fun d => ⟨R32_1, fun e => ?_, fun e => absurd e (by decide)⟩, fun d => ⟨R32_1, fun e => absurd rfl e, fun _ => ?_⟩⟩
    · rw [if_neg (by omega)] at k; exact k
    · rw [if_pos (by omega)] at k; exact k
theorem c7_areTwo {G : Gm} {μ : Mem} {Q : Int → Mem → Prop} {a b : Int} (h : Inv μ) (ha : R32 a) (hb : R32 b) (k1 : 0 ≤ a → a < nW μ → 0 ≤ b → b < nW μ → a ≠ b → Q 1 μ) (k0 : ¬ ((0 ≤ a ∧ a < nW μ) ∧ (0 ≤ b ∧ b < nW μ) ∧ a ≠ b) → Q 0 μ) : Ci G mX7_areTwoWheels [(2, 0), (0, a), (0, b)] SHl μ Q := by
  refine eX7_areTwoWheels (fun Φ hΦ hR => bX7_areTwoWheels_0 hΦ hR ⟨so_0, c7_hasW h ha (fun a0 a1 => yes'_ (c7_hasW h hb (fun b0 b1 => yes'_ ⟨ha, hb, fun e => k0 (fun q => q.2.2 e), fun e => k1 a0 a1 b0 b1 e⟩) (fun c => no'_ (k0 (fun q => c q.2.1))))) (fun c => no'_ (k0 (fun q => c q.1)))⟩)
theorem Inv.r22 {μ : Mem} (h : Inv μ) {w : Int} (h0 : 0 ≤ w) (h1 : w < nW μ) : (1 ≤ μ 23 w ∧ μ 23 w ≤ 810000) ∧ -24300000 ≤ μ 22 w ∧ μ 22 w ≤ 24300000 := by
  obtain ⟨⟨-, g2, g3, g4, g5⟩, -⟩ := h.G h0 h1
  exact ⟨⟨g2, g3⟩, g4, g5⟩
theorem st_alike {G : Gm} {μ : Mem} {a0 a1 : Int} (h : Inv μ) (ha0 : R32 a0) (ha1 : R32 a1) : Both G mX7_alike mX8_alike [(0, a0), (0, a1)] μ := by
  have wf := h.1
  have hn := h.nw
  have un : ¬ ((0 ≤ a0 ∧ a0 < nW μ) ∧ (0 ≤ a1 ∧ a1 < nW μ) ∧ a0 ≠ a1) → Ci G mX8_alike [(2, 110), (0, a0), (0, a1)] SHl μ (fun r' μ2 => -1000000001 = r' ∧ R32 (-1000000001) ∧ Inv μ2) := fun c =>
    eX8_alike (fun Φ hΦ hR => bX8_alike_0 hΦ hR ⟨so_110, c8_isW h ha0 (fun x0 x1 => yes'_ (c8_isW h ha1 (fun y0 y1 => yes'_ ⟨ha0, ha1, fun e => absurd ⟨⟨x0, x1⟩, ⟨y0, y1⟩, e⟩ c, fun _ => ⟨rfl, by decide, h⟩⟩) (fun _ => no'_ ⟨rfl, by decide, h⟩))) (fun _ => no'_ ⟨rfl, by decide, h⟩)⟩)
  refine eX7_alike (fun Φ hΦ hR => bX7_alike_0 hΦ hR ⟨so_0, c7_areTwo h ha0 ha1 (fun x0 x1 y0 y1 ne => yes_ ?_) (fun c => no_ (un c))⟩)
  obtain ⟨b1, b2⟩ := h.r22 x0 x1
  obtain ⟨b3, b4⟩ := h.r22 y0 y1
  rw [wf_0_3 wf]
  have ref : ∀ r, r = (if μ 22 a0 = 0 ∨ μ 22 a1 = 0 then -1000000003 else if (0 < μ 22 a0 ↔ 0 < μ 22 a1) then 1 else 0) → R32 r → Ci G mX8_alike [(2, 110), (0, a0), (0, a1)] SHl μ (fun r' μ2 => r = r' ∧ R32 r ∧ Inv μ2) := fun r hr rr =>
    eX8_alike (fun Φ hΦ hR => bX8_alike_0 hΦ hR ⟨so_110, c8_isW h ha0 (fun _ _ => yes'_ (c8_isW h ha1 (fun _ _ => yes'_ ⟨ha0, ha1, fun _ => c8_rates h (fun μ' rn => by
      have wf' := (RN_inv h rn).1
      rw [wf_110_27 wf', (rn.2.1 a0 x0 x1).1, (rn.2.1 a1 y0 y1).1]
      refine ⟨ai_122 x0 (by omega), ⟨by omega, by omega⟩, fun c => ⟨?_, rr, RN_inv h rn⟩, fun c => ⟨ai_122 y0 (by omega), ⟨by omega, by omega⟩, fun d => ⟨fun e => bX8_alike_72 hΦ hR ⟨so_110, ?_⟩, fun e => bX8_alike_72 hΦ hR ⟨so_110, ?_⟩⟩, fun d => ⟨?_, rr, RN_inv h rn⟩⟩⟩
      · rw [if_pos (Or.inl c)] at hr; exact hr
      · rw [wf_110_27 wf', (rn.2.1 a1 y0 y1).1]
        rw [if_neg (by omega)] at hr
        refine ⟨ai_122 y0 (by omega), ⟨by omega, by omega⟩, fun f => ⟨R32_0, fun q => absurd rfl q, fun _ => c_m_one R32_1 ⟨?_, rr, RN_inv h rn⟩⟩, fun f => ⟨R32_0, fun _ => c_m_one R32_0 ⟨?_, rr, RN_inv h rn⟩, fun q => absurd q (by decide)⟩⟩
        · rw [if_pos (by omega)] at hr; exact hr
        · rw [if_neg (by omega)] at hr; exact hr
      · rw [wf_110_27 wf', (rn.2.1 a1 y0 y1).1]
        rw [if_neg (by omega)] at hr
        refine ⟨ai_122 y0 (by omega), ⟨by omega, by omega⟩, fun f => ⟨R32_1, fun _ => c_m_one R32_0 ⟨?_, rr, RN_inv h rn⟩, fun q => absurd q (by decide)⟩, fun f => ⟨R32_1, fun q => absurd rfl q, fun _ => c_m_one R32_1 ⟨?_, rr, RN_inv h rn⟩⟩⟩
        · rw [if_neg (by omega)] at hr; exact hr
        · rw [if_pos (by omega)] at hr; exact hr
      · rw [if_pos (Or.inr d)] at hr; exact hr), fun e => absurd e ne⟩) (fun c => absurd ⟨y0, y1⟩ c))) (fun c => absurd ⟨x0, x1⟩ c)⟩)
  refine ⟨so_21, c3_turns' h x0 x1 ?_⟩
  by_cases c : μ 22 a0 ≠ 0
  · rw [if_pos c, wf_0_3 wf]
    refine ⟨R32_1, fun q => absurd q (by decide), fun _ => ⟨so_21, c3_turns' h y0 y1 ?_⟩⟩
    by_cases d : μ 22 a1 ≠ 0
    · rw [if_pos d, wf_0_3 wf]
      have ra : R64 (μ (21 + 1) a0) := by show R64 (μ 22 a0); exact ⟨by omega, by omega⟩
      have rb : R64 (μ (21 + 1) a1) := by show R64 (μ 22 a1); exact ⟨by omega, by omega⟩
      refine ⟨R32_1, fun _ => ⟨so_21, c3_turnAlike wf (Or.inl rfl) ⟨x0, by omega⟩ ⟨y0, by omega⟩ ra rb ?_⟩, fun q => absurd q (by decide)⟩
      simp only [show (21 : Int) + 1 = 22 from rfl]
      by_cases e : (0 < μ 22 a0 ↔ 0 < μ 22 a1)
      · rw [if_pos e]
        exact ⟨R32_1, fun q => absurd q (by decide), fun _ => ref 1 (by rw [if_neg (by omega), if_pos e]) R32_1⟩
      · rw [if_neg e]
        exact ⟨R32_0, fun _ => ref 0 (by rw [if_neg (by omega), if_neg e]) R32_0, fun q => absurd rfl q⟩
    · rw [if_neg d]
      exact ⟨R32_0, fun q => absurd rfl q, fun _ => ref _ (by rw [if_pos (by omega)]) (by decide)⟩
  · rw [if_neg c]
    exact ⟨R32_0, fun _ => ref _ (by rw [if_pos (by omega)]) (by decide), fun q => absurd rfl q⟩
