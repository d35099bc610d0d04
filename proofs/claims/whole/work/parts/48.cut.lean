theorem cut_rg {x l : Int} {n : Nat} (hn : n ≤ 10) (h : 0 ≤ x ∧ x < 2 ^ n) (l0 : 0 ≤ l) (l1 : l < n) : 0 ≤ mxor x (1 * 2 ^ l.toNat) ∧ mxor x (1 * 2 ^ l.toNat) < 2 ^ n := by
  have p := pw10 hn
  refine rg_bt (mxor_r _ _) (by omega) (fun k k0 k1 => ?_)
  rw [Int.one_mul, bt_mxor ⟨by omega, by omega⟩ (r32_2 (by omega)) k1, bt_lt h.1 h.2 k0, bt_2]
  have : ¬ k = l.toNat := by omega
  simp [this]
theorem st_cut {G : Gm} {μ : Mem} {a0 a1 : Int} (h : Inv μ) (ha0 : R32 a0) (ha1 : a1 = 0 ∨ a1 = 1) : Both G mX7_cut mX8_cut [(0, a0), (0, a1)] μ := by
  have wf := h.1
  have iw := h.2.1
  have hnL := iw.2.2.2.1
  obtain ⟨⟨d1, d2, d3⟩, ⟨d4, d5⟩, d6⟩ := id h.2.2.2.2.1
  have ic := h.2.2.2.1.c
  have icr := ic.r iw
  have hr := RM_inv h
  have hm := MK_inv hr
  have r1' : R32 a1 := by rcases ha1 with e | e <;> rw [e] <;> exact ⟨by decide, by decide⟩
  have on1 : (if a1 = 0 then (0 : Int) else 1) = a1 := by rcases ha1 with e | e <;> rw [e] <;> rfl
  have rb : ∀ t : Int, (t = 0 ∨ t = 1) → (if t = 0 then (0 : Int) else 1) = t := fun t e => by rcases e with e | e <;> rw [e] <;> rfl
  -- the reference, behind any memory of the class
  have ref : ∀ {K : Int → Mem → Prop} {κ : Mem} (t : Int), t = (if bt_ (μ 29 2) a0 = 0 then 1 else 0) → WF κ → EqR κ μ → 0 ≤ a0 → a0 < nL μ → (t ≠ a1 → K t κ) → (t = a1 → ∀ κ', EqR κ' (MK (RM μ)) → (∀ a i, a < 110 → κ' a i = κ a i) → K t (mu κ' 111 10 (mxor (μ 29 2) (1 * 2 ^ a0.toNat)))) → Ci G mX8_cut [(2, 110), (0, a0), (0, a1)] SHl κ K := by
    intro K κ t ht wk ek c1 c2 k0 k1
    have t01 : t = 0 ∨ t = 1 := by rw [ht]; split; exact Or.inr rfl; exact Or.inl rfl
    have g3 : κ 110 3 = nL μ := (ek 110 3 (by decide) (by unfold FR' FR; omega)).trans hnL.1.symm
    have g10 : κ 111 10 = μ 29 2 := (ek 111 10 (by decide) (by unfold FR' FR; omega)).trans ic.1
    have at30 : ∀ Φ, St G Φ cX8_cut RX8 4 7 168 0 0 → Rt G Φ (Pi SHl K) 0 0 (some .int) → Ex G Φ 4 30 [some (2, 110), some (0, a0), some (0, a1), none] [(0, t)] SHl κ 0 0 := by
      intro Φ hΦ hR
      refine bX8_cut_30 hΦ hR (c_m_one (by rcases t01 with e | e <;> rw [e] <;> exact ⟨by decide, by decide⟩) (c_m_one r1' ?_))
      rw [on1, rb t t01]
      refine ⟨by rcases t01 with e | e <;> rw [e] <;> exact ⟨by decide, by decide⟩, r1', k0, fun q => ⟨so_110, c8_remember wk (by rw [ek 110 31 (by decide) (by unfold FR' FR; omega), ← d1]; omega) ?_⟩⟩
      have eR := RM_r h ek
      have o8 : ∀ a i, a < 110 → R8 κ a i = κ a i := fun a i c => R8_off (by rw [ek 110 31 (by decide) (by unfold FR' FR; omega), ← d1]; omega) (by omega)
      have wf4 := wf_R wk hr.1 eR o8
      refine c8_markToday wf4 eR hr (fun κ5 e5 o5 => ?_)
      have wf5 := wf_R wf4 hm.1 e5 o5
      have g5 : κ5 111 10 = μ 29 2 := by
        rw [e5 111 10 (by decide) (by unfold FR' FR; omega), MK_off hr.nw.2.2 (by omega)]
        unfold RM
        rw [R8_off (by rw [R7_off ⟨d4, d5⟩ (by omega)]; omega) (by omega), R7_off ⟨d4, d5⟩ (by omega)]
        exact ic.1
      rw [wf_110_0 wf5, g5]
      refine ⟨ai_111 (by decide) (by decide), c1, by omega, ?_⟩
      rintro m11 e11
      rw [e11]
      exact k1 q κ5 e5 (fun a i c => (o5 a i c).trans (o8 a i c))
    refine eX8_cut (fun Φ hΦ hR => bX8_cut_0 hΦ hR ⟨so_110, c8_isLink (by rw [g3]; omega) ha0 (fun _ _ => yes_ ?_) (fun c => absurd ⟨c1, by rw [g3]; exact c2⟩ c)⟩)
    rw [wf_110_0 wk, g10]
    refine ⟨ai_111 (by decide) (by decide), c_m_has ⟨by omega, by omega⟩ c1 (by omega) ⟨R32_one (bt_rg _ _), fun c => ?_, fun c => ?_⟩⟩
    · have := at30 Φ hΦ hR
      rw [if_neg c] at ht; rw [ht] at this; exact this
    · have := at30 Φ hΦ hR
      rw [if_pos c] at ht; rw [ht] at this; exact this
  have un : ¬ (0 ≤ a0 ∧ a0 < nL μ) → Ci G mX8_cut [(2, 110), (0, a0), (0, a1)] SHl μ (fun r' μ2 => -1000000001 = r' ∧ R32 (-1000000001) ∧ Inv μ2) := fun c => eX8_cut (fun Φ hΦ hR => bX8_cut_0 hΦ hR ⟨so_110, c8_isLink (by omega) ha0 (fun c1 c2 => absurd ⟨c1, by omega⟩ c) (fun _ => no_ ⟨rfl, by decide, h⟩)⟩)
  refine eX7_cut (fun Φ hΦ hR => bX7_cut_0 hΦ hR ⟨so_0, c7_hasLink wf iw ha0 (fun c1 c2 => yes_ (c7_isOn wf ⟨by omega, by omega⟩ c1 (by omega) ?_)) (fun c => no_ (un c))⟩)
  generalize ht : (if bt_ (μ 29 2) a0 = 0 then (1 : Int) else 0) = t
  have t01 : t = 0 ∨ t = 1 := by rw [← ht]; split; exact Or.inr rfl; exact Or.inl rfl
  have rt : R32 t := by rcases t01 with e | e <;> rw [e] <;> exact ⟨by decide, by decide⟩
  have sel : ∀ {P : Int → Prop}, P t → (t = 0 → P 0) ∧ (¬ t = 0 → P 1) := fun {P} hp => by
    rcases t01 with e | e
    · rw [e] at hp ⊢; exact ⟨fun _ => hp, fun q => absurd rfl q⟩
    · rw [e] at hp ⊢; exact ⟨fun q => absurd q (by decide), fun _ => hp⟩
  refine ⟨rt, r1', fun ne => sel (P := fun r => Ci G mX8_cut [(2, 110), (0, a0), (0, a1)] SHl μ (fun r' μ2 => r = r' ∧ R32 r ∧ Inv μ2)) (ref t ht.symm wf EqR.rf c1 c2 (fun _ => ⟨rfl, rt, h⟩) (fun e => absurd e ne)), fun eq => ?_⟩
  rw [wf_0_6 wf, wf_0_5 wf]
  refine ⟨so_31, c0_remember wf ⟨d4, d5⟩ ⟨d2, d3⟩ ?_⟩
  have eC := RM_c h EqC.rf
  have o7 : ∀ a i, 110 ≤ a → R7 μ a i = μ a i := fun a i c => R7_off ⟨d4, d5⟩ (by omega)
  have wf7 := wf_C wf hr.1 eC o7
  refine c7_setMark wf7 eC hr (fun κ2 e2 o2 => ?_)
  have wf2 := wf_C wf7 hm.1 e2 o2
  have rmo : ∀ k i, ¬ ((33 ≤ k ∧ k ≤ 92) ∨ (k = 31 ∧ 1 ≤ i ∧ i ≤ 2) ∨ (k = 111 ∧ 36 ≤ i) ∨ (k = 110 ∧ i = 31)) → RM μ k i = μ k i := fun k i c => by
    unfold RM
    rw [R8_off (by rw [R7_off ⟨d4, d5⟩ (by omega)]; omega) (by omega), R7_off ⟨d4, d5⟩ (by omega)]
  have mk2 : MK (RM μ) 29 2 = μ 29 2 := by rw [MK_off hr.nw.2.2 (by omega), rmo 29 2 (by omega)]
  have g2 : κ2 29 2 = μ 29 2 := (e2 29 2 (by decide)).trans mk2
  rw [wf_0_5 wf2, g2]
  refine ⟨so_29, c1, by omega, ?_⟩
  rintro m13 e13
  have hmW : wW (MK (RM μ)) = 3 ∨ wW (MK (RM μ)) = 12 := hm.2.1.1
  have hW0 : MK (RM μ) 0 1 = 3 ∨ MK (RM μ) 0 1 = 12 := hmW
  have o13 : ∀ a i, a < 110 → ¬ (a = 29 ∧ i = 2) → m13 a i = MK (RM μ) a i := fun a i q c => by rw [e13, mu_off2 c]; exact e2 a i q
  have r13 : ∀ a i, 110 ≤ a → m13 a i = μ a i := fun a i q => by rw [e13, mu_off2 (by omega), o2 a i q, o7 a i q]
  have wf13 : WF m13 := wf_sm wf2 (fun a i d => by unfold dF at d; rw [e13, mu_off2 (by omega)])
  have m110 : ∀ a i, 110 ≤ a → ¬ (a = 111 ∧ (i < 10 ∨ 36 ≤ i)) → ¬ (a = 110 ∧ i = 31) → MK (RM μ) a i = μ a i := fun a i q c c' => by rw [MK_off hr.nw.2.2 (by omega), rmo a i (by omega)]
  have sw13 : Sm (dW (wW (MK (RM μ))) (nL (MK (RM μ)))) (MK (RM μ)) m13 := fun a i d => by
    unfold dW at d
    by_cases q : a < 110
    · exact o13 a i q (by omega)
    · rw [r13 a i (by omega), m110 a i (by omega) (by omega) (by omega)]
  have e13' := SW_of sw13
  have nLe : nL (MK (RM μ)) = nL μ := by rw [hm.2.1.2.2.2.1.1, m110 110 3 (by omega) (by omega) (by omega)]; exact hnL.1.symm
  have ck : m13 29 2 = mxor (μ 29 2) (1 * 2 ^ a0.toNat) := by rw [e13, mu_same]
  have crg := cut_rg (n := (nL μ).toNat) (by omega) ⟨ic.2.1, ic.2.2⟩ c1 (by omega)
  refine c7_reckonNow wf13 (IW_sm hm.2.1 sw13) ⟨by rw [ck]; exact crg.1, by rw [ck, e13'.nl, nLe]; exact crg.2⟩ (fun κ4 of4 im4 => ?_)
  have wf4 := off_wf wf13 (Or.inl rfl) of4
  have eR4 : EqR κ4 μ := fun a i q _ => by rw [of4 a i (by unfold FM; omega)]; exact r13 a i q
  refine sel (P := fun r => Ci G mX8_cut [(2, 110), (0, a0), (0, a1)] SHl κ4 (fun r' μ2 => r = r' ∧ R32 r ∧ Inv μ2)) (ref t ht.symm wf4 eR4 c1 c2 (fun ne => absurd eq ne) (fun _ κ5 e5 o5 => ⟨rfl, rt, ?_⟩))
  generalize hv : mxor (μ 29 2) (1 * 2 ^ a0.toNat) = v at *
  have off : ∀ a i, ¬ FR' a i → ¬ FM 21 a i → ¬ (a = 29 ∧ i = 2) → ¬ (a = 111 ∧ i = 10) → mu κ5 111 10 v a i = MK (RM μ) a i := fun a i f1 f2 f3 f4 => by
    rw [mu_off2 f4]
    by_cases q : a < 110
    · rw [o5 a i q, of4 a i f2]; exact o13 a i q f3
    · exact e5 a i (by omega) f1
  obtain ⟨v1, v2, v3, v4, v5, v6, v7, v8⟩ := hm
  have hn' := v2.2.2.1
  have sw : Sm (dW (wW (MK (RM μ))) (nL (MK (RM μ)))) (MK (RM μ)) (mu κ5 111 10 v) := fun k i d => off k i (by unfold dW at d; unfold FR' FR; omega) (by unfold dW at d; unfold FM; omega) (by unfold dW at d; omega) (by unfold dW at d; omega)
  have e := SW_of sw
  obtain ⟨⟨⟨n1, n2, n3⟩, n4, n5, n6⟩, n7⟩ := v4
  refine ⟨wf_sm v1 (fun k i d => off k i (by unfold dF at d; unfold FR' FR; omega) (by unfold dF at d; unfold FM; omega) (by unfold dF at d; omega) (by unfold dF at d; omega)), IW_sm v2 sw, IR_sm v3 (fun k i d => off k i (by unfold dR at d; unfold FR' FR; omega) (by unfold dR at d; unfold FM; omega) (by unfold dR at d; omega) (by unfold dR at d; omega)), ⟨⟨⟨?_, ?_, ?_⟩, ?_, ?_, ?_⟩, ?_⟩, ID_sm v5 hn'.2.2 e (fun k i d => off k i (by unfold dD at d; unfold FR' FR; omega) (by unfold dD at d; unfold FM; omega) (by unfold dD at d; omega) (by unfold dD at d; omega)), II_sm v6 hn'.2.2 e (fun k i d => off k i (by unfold dI at d; unfold FR' FR; omega) (by unfold dI at d; unfold FM; omega) (by unfold dI at d; omega) (by unfold dI at d; omega)), IL_sm v7 e (fun k i d => off k i (by unfold dL at d; unfold FR' FR; omega) (by unfold dL at d; unfold FM; omega) (by unfold dL at d; omega) (by unfold dL at d; omega)), ?_⟩
  · rw [off 29 0 (by unfold FR' FR; omega) (by unfold FM; omega) (by omega) (by omega), off 111 (0 + 8) (by unfold FR' FR; omega) (by unfold FM; omega) (by omega) (by omega)]; exact n1
  · rw [off 29 1 (by unfold FR' FR; omega) (by unfold FM; omega) (by omega) (by omega), off 111 (0 + 9) (by unfold FR' FR; omega) (by unfold FM; omega) (by omega) (by omega)]; exact n2
  · rw [mu_on2 (k' := 111) rfl (by decide), mu_off2 (by omega), o5 29 2 (by decide), of4 29 2 (by unfold FM; omega), ck]
  · rw [off 29 0 (by unfold FR' FR; omega) (by unfold FM; omega) (by omega) (by omega), off 29 1 (by unfold FR' FR; omega) (by unfold FM; omega) (by omega) (by omega)]; exact n4
  · rw [mu_off2 (by omega), o5 29 2 (by decide), of4 29 2 (by unfold FM; omega), ck, e.nl, nLe]; exact crg
  · rw [e.nw, e.w]
    intro i h0 h1
    rw [off (29 + 1) i (by unfold FR' FR; omega) (by unfold FM; omega) (by omega) (by omega), off 111 (0 + i) (by unfold FR' FR; omega) (by unfold FM; omega) (by omega) (by omega), e.t]
    exact n6 i h0 h1
  · rw [off 0 12 (by unfold FR' FR; omega) (by unfold FM; omega) (by omega) (by omega), off 111 11 (by unfold FR' FR; omega) (by unfold FM; omega) (by omega) (by omega)]; exact n7
  · have w4 : wW κ4 = wW (MK (RM μ)) := (of4 0 1 (by unfold FM; omega)).trans e13'.w
    have n4' : nL κ4 = nL (MK (RM μ)) := by show κ4 (wW κ4) 1 = _; rw [w4, of4 _ _ (by unfold FM; omega)]; have := e13'.nl; rw [← this]; show _ = m13 (wW m13) 1; rw [e13'.w]
    refine IM_sm im4 (SW_of (fun k i d => ?_)) (fun k i d => by unfold dM at d; rw [mu_off2 (by omega)]; exact o5 k i (by omega))
    rw [w4] at d
    unfold dW at d
    rw [mu_off2 (by omega)]
    by_cases q : k < 110
    · exact o5 k i q
    · rw [e5 k i (by omega) (by unfold FR' FR; omega), of4 k i (by unfold FM; omega), r13 k i (by omega)]
      exact m110 k i (by omega) (by omega) (by omega)
