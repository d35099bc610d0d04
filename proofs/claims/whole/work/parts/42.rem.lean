/-! A DEED IS REMEMBERED -/
def R7 (κ : Mem) : Mem := mu (mu (mstd κ (33 + 2 * κ 31 1) 29) 31 1 ((κ 31 1 + 1) % 30)) 31 2 (if 30 < κ 31 2 + 1 then 30 else κ 31 2 + 1)
def shr (κ : Mem) (n : Int) : Mem := fun k i => if k = 111 ∧ 36 ≤ i ∧ i < 36 + 12 * n then κ 111 (i + 12) else κ k i
def R8 (κ : Mem) : Mem := if κ 110 31 = 30 then mu (mrow (shr κ 29) 0 (36 + 12 * 29) 12) 110 31 30 else mu (mrow κ 0 (36 + 12 * κ 110 31) 12) 110 31 (κ 110 31 + 1)
theorem R7_off {κ : Mem} {k i : Int} (b : 0 ≤ κ 31 1 ∧ κ 31 1 < 30) (h : ¬ ((33 ≤ k ∧ k ≤ 92) ∨ (k = 31 ∧ 1 ≤ i ∧ i ≤ 2))) : R7 κ k i = κ k i := by
  unfold R7
  rw [mu_off2 (by omega), mu_off2 (by omega), mstd_off (by omega) (by omega)]
theorem R8_off {κ : Mem} {k i : Int} (b : 0 ≤ κ 110 31) (h : ¬ ((k = 111 ∧ 36 ≤ i) ∨ (k = 110 ∧ i = 31))) : R8 κ k i = κ k i := by
  unfold R8
  split
  · rw [mu_off2 (by omega), mrow_off (by omega)]
    unfold shr; rw [if_neg (by omega)]
  · rw [mu_off2 (by omega), mrow_off (by omega)]
theorem R7_eq {κ ν : Mem} (e : EqC κ ν) (b : 0 ≤ ν 31 1 ∧ ν 31 1 < 30) : EqC (R7 κ) (R7 ν) := by
  intro k i hk
  unfold R7 mu mstd
  rw [e 31 1 (by decide), e 31 2 (by decide), e k i hk, e 29 i (by decide), e (29 + 1) i (by decide)]
theorem R8_eq {κ ν : Mem} (e : EqR κ ν) : EqR (R8 κ) (R8 ν) := by
  intro k i hk hf
  have c : κ 110 31 = ν 110 31 := e _ _ (by decide) (by unfold FR' FR; omega)
  have r : ∀ j, κ 111 j = ν 111 j := fun j => e _ _ (by decide) (by unfold FR' FR; omega)
  have q := e k i hk hf
  unfold R8
  rw [c]
  split
  · unfold mu mrow shr
    simp only [r, q]
  · unfold mu mrow
    simp only [r, q]
theorem c0_remember {G : Gm} {Q : Mem → Prop} {κ : Mem} (wf : WF κ) (b : 0 ≤ κ 31 1 ∧ κ 31 1 < 30) (c : 0 ≤ κ 31 2 ∧ κ 31 2 ≤ 30) (h : Q (R7 κ)) : Cv G mX0_remember [(2, 31), (2, 29)] SHl κ Q := by
  refine eX0_remember (fun Φ hΦ hR => bX0_remember_0 hΦ hR ⟨so_31, ?_⟩)
  rw [wf_31_0 wf, wf_ring wf b.1 b.2]
  have hs := isS_ring b.1 b.2
  refine ⟨⟨30, so_32, b.1, b.2, by decide⟩, so_29, so_S hs, c5_become wf hs (Or.inl rfl) (by omega) ?_⟩
  rw [mstd_off (k := 31) (i := 1) (by omega) (by omega)]
  refine ⟨⟨by omega, by omega⟩, ?_⟩
  rintro m7 e7
  rw [show m7 31 2 = κ 31 2 by rw [e7, mu_off2 (by omega), mstd_off (by omega) (by omega)]]
  refine ⟨⟨by omega, by omega⟩, ?_⟩
  rintro m9 e9
  have : m9 = R7 κ := by
    rw [e9, e7, tmod_pos (by decide), if_pos (Or.inl (by omega))]; rfl
  rw [this]; exact h
theorem shr_0 {κ : Mem} : shr κ 0 = κ := by funext k i; unfold shr; rw [if_neg (by omega)]
theorem shr_s {κ : Mem} {n : Int} (hn : 0 ≤ n) : mrow (shr κ n) (36 + 12 * (n + 1)) (36 + 12 * n) 12 = shr κ (n + 1) := by
  funext k i
  unfold mrow
  by_cases c : k = 111 ∧ 36 + 12 * n ≤ i ∧ i < 36 + 12 * n + 12
  · rw [if_pos c]
    unfold shr
    rw [if_neg (by omega), if_pos (by omega), show 36 + 12 * (n + 1) + (i - (36 + 12 * n)) = i + 12 by omega]
  · rw [if_neg c]
    unfold shr
    by_cases d : k = 111 ∧ 36 ≤ i ∧ i < 36 + 12 * n
    · rw [if_pos d, if_pos (by omega)]
    · rw [if_neg d, if_neg (by omega)]
theorem c8_remember {G : Gm} {Q : Mem → Prop} {κ : Mem} (wf : WF κ) (c : 0 ≤ κ 110 31 ∧ κ 110 31 ≤ 30) (h : Q (R8 κ)) : Cv G mX8_remember [(2, 110)] SHl κ Q := by
  refine eX8_remember (fun Φ hΦ hR => bX8_remember_0 hΦ hR ⟨so_110, ⟨by omega, by omega⟩, fun d => ?_, fun d => ?_⟩)
  · refine bX8_remember_53 hΦ hR ⟨so_110, c8_copy wf (by decide) (by omega) (by omega) ?_⟩
    rintro m3 e3
    have : m3 = R8 κ := by
      unfold R8
      rw [if_neg d, e3, mrow_off (by omega)]
    rw [this]; exact h
  · have loop : ∀ (m : Nat) (n : Int), 0 ≤ n → n + m = 29 → Ex G Φ 2 11 [some (2, 110), some (0, n + 1)] [] SHl (shr κ n) 0 0 := by
      intro m
      induction m with
      | zero =>
        intro n h0 hn
        obtain rfl : n = 29 := by omega
        refine bX8_remember_11 hΦ hR ⟨⟨by decide, by decide⟩, fun _ => ⟨so_110, ?_⟩, fun c => absurd (by decide) c⟩
        rintro m3 e3
        have k31 : shr κ 29 110 31 = 30 := by unfold shr; rw [if_neg (by omega)]; exact d
        have k3 : m3 = mu (shr κ 29) 110 31 29 := by rw [e3, k31]; rfl
        have g : m3 110 31 = 29 := by rw [k3, mu_same]
        have wf3 : WF m3 := wf_sm wf (fun k i q => by
          unfold dF at q
          rw [k3, mu_off2 (by omega)]
          unfold shr; rw [if_neg (by omega)])
        refine bX8_remember_53 hΦ hR ⟨so_110, ?_⟩
        rw [g]
        refine c8_copy wf3 (by decide) (by decide) (by decide) ?_
        rintro m4 e4
        have : m4 = R8 κ := by
          unfold R8
          rw [if_pos d, e4, mrow_off (by omega), g, k3]
          funext k i
          unfold mu mrow
          by_cases q : k = 110 ∧ i = 31
          · rw [if_pos q, if_pos q]; rfl
          · rw [if_neg q, if_neg q]
            by_cases r : k = 111 ∧ 36 + 12 * 29 ≤ i ∧ i < 36 + 12 * 29 + 12
            · rw [if_pos r, if_pos r]; rfl
            · rw [if_neg r, if_neg r]; exact if_neg q
        rw [this]; exact h
      | succ m ih =>
        intro n h0 hn
        have wf' : WF (shr κ n) := wf_sm wf (fun k i q => by
          unfold dF at q
          unfold shr; rw [if_neg (by omega)])
        refine bX8_remember_11 hΦ hR ⟨⟨by omega, by omega⟩, fun c => absurd c (by omega), fun _ => ⟨so_110, c8_copy wf' (by omega) (by omega) (by omega) ?_⟩⟩
        rw [show n + 1 - 1 = n by omega, shr_s h0]
        exact ih (n + 1) (by omega) (by omega)
    have := loop 29 0 (by decide) (by decide)
    rw [shr_0] at this
    exact this
def RM (ν : Mem) : Mem := R8 (R7 ν)
theorem RM_inv {ν : Mem} (h : Inv ν) : Inv (RM ν) := by
  obtain ⟨wf, iw, ir, inn, idd, ii, il, im⟩ := h
  obtain ⟨⟨d1, d2, d3⟩, ⟨d4, d5⟩, d6⟩ := idd
  have hnW := iw.2.2.1
  have hW : wW ν = 3 ∨ wW ν = 12 := iw.1
  have b31 : R7 ν 110 31 = ν 110 31 := R7_off ⟨d4, d5⟩ (by omega)
  have off : ∀ k i, ¬ ((33 ≤ k ∧ k ≤ 92) ∨ (k = 31 ∧ 1 ≤ i ∧ i ≤ 2) ∨ (k = 111 ∧ 36 ≤ i) ∨ (k = 110 ∧ i = 31)) → RM ν k i = ν k i := fun k i c => by
    unfold RM
    rw [R8_off (by omega) (by omega), R7_off ⟨d4, d5⟩ (by omega)]
  have sw : Sm (dW (wW ν) (nL ν)) ν (RM ν) := fun k i d => off k i (by unfold dW at d; omega)
  have e := SW_of sw
  have i1 := inn.1
  refine ⟨?_, IW_sm iw sw, IR_sm ir (fun k i d => off k i (by unfold dR at d; omega)), IN_sm inn hnW.2.2 e (fun k i d => off k i (by unfold dN at d; omega)), ?_, II_sm ii hnW.2.2 e (fun k i d => off k i (by unfold dI at d; omega)), IL_sm il e (fun k i d => off k i (by unfold dL at d; omega)), IM_sm im e (fun k i d => off k i (by unfold dM at d; omega))⟩
  · refine wf_sm wf (fun k i d => ?_)
    have c1 : ¬ ((k = 111 ∧ 36 ≤ i) ∨ (k = 110 ∧ i = 31)) := by unfold dF at d; omega
    unfold RM
    rw [R8_off (by omega) c1]
    unfold R7
    rw [mu_off2 (by unfold dF at d; omega), mu_off2 (by unfold dF at d; omega), mstd_off (by unfold dF at d; omega) (by unfold dF at d; omega)]
  · have lo : ∀ k i, k < 110 → RM ν k i = R7 ν k i := fun k i c => by unfold RM; exact R8_off (by omega) (by omega)
    have e1 : RM ν 31 1 = (ν 31 1 + 1) % 30 := by rw [lo _ _ (by decide)]; unfold R7; rw [mu_off2 (by omega), mu_same]
    have e2 : RM ν 31 2 = if 30 < ν 31 2 + 1 then 30 else ν 31 2 + 1 := by rw [lo _ _ (by decide)]; unfold R7; rw [mu_same]
    have st : ∀ k i, 33 ≤ k → k ≤ 92 → RM ν k i = mstd ν (33 + 2 * ν 31 1) 29 k i := fun k i c1 c2 => by rw [lo _ _ (by omega)]; unfold R7; rw [mu_off2 (by omega), mu_off2 (by omega)]
    have f111 : ∀ i, R7 ν 111 i = ν 111 i := fun i => R7_off ⟨d4, d5⟩ (by omega)
    have same : ∀ x j j', 0 ≤ x → x < 30 → x ≠ ν 31 1 → IS ν (33 + 2 * x) (36 + 12 * j) → (∀ i, 0 ≤ i → i < 11 → RM ν 111 (36 + 12 * j' + i) = ν 111 (36 + 12 * j + i)) → IS (RM ν) (33 + 2 * x) (36 + 12 * j') := fun x j j' x0 x1 xe is hr => IS_cp is hnW.2.2 e (fun i i0 i1 => by rw [st _ _ (by omega) (by omega), mstd_off (by omega) (by omega)]) (fun i i0 i1 => by rw [st _ _ (by omega) (by omega), mstd_off (by omega) (by omega)]) hr
    have newest : ∀ j', (∀ i, 0 ≤ i → i < 11 → RM ν 111 (36 + 12 * j' + i) = ν 111 (0 + i)) → IS (RM ν) (33 + 2 * ν 31 1) (36 + 12 * j') := fun j' hr => IS_cp i1 hnW.2.2 e (fun i i0 i1 => by rw [st _ _ (by omega) (by omega), mstd_f (by omega)]) (fun i i0 i1 => by rw [st _ _ (by omega) (by omega), mstd_p (by omega)]) hr
    by_cases c : ν 110 31 = 30
    · have r8 : RM ν = mu (mrow (shr (R7 ν) 29) 0 (36 + 12 * 29) 12) 110 31 30 := by unfold RM R8; rw [if_pos (by rw [b31]; exact c)]
      have k2 : RM ν 31 2 = 30 := by rw [e2, if_pos (by omega)]
      refine ⟨by rw [k2, r8, mu_same]; decide, by rw [e1]; omega, ?_⟩
      rw [k2, e1]
      intro j h0 h1
      by_cases cj : j = 29
      · subst cj
        rw [show ((ν 31 1 + 1) % 30 - 30 + 29) % 30 = ν 31 1 by omega]
        refine newest 29 (fun i i0 i1 => ?_)
        rw [r8, mu_off2 (by omega), mrow_on (by omega)]
        unfold shr
        rw [if_neg (by omega), f111, show 0 + (36 + 12 * 29 + i - (36 + 12 * 29)) = 0 + i by omega]
      · rw [show ((ν 31 1 + 1) % 30 - 30 + j) % 30 = (ν 31 1 - ν 31 2 + (j + 1)) % 30 by omega]
        refine same _ (j + 1) j (by omega) (by omega) (by omega) (d6 (j + 1) (by omega) (by omega)) (fun i i0 i1 => ?_)
        rw [r8, mu_off2 (by omega), mrow_off (by omega)]
        unfold shr
        rw [if_pos (by omega), f111, show 36 + 12 * j + i + 12 = 36 + 12 * (j + 1) + i by omega]
    · have r8 : RM ν = mu (mrow (R7 ν) 0 (36 + 12 * ν 110 31) 12) 110 31 (ν 110 31 + 1) := by unfold RM R8; rw [if_neg (by rw [b31]; exact c), b31]
      have k2 : RM ν 31 2 = ν 31 2 + 1 := by rw [e2, if_neg (by omega)]
      refine ⟨by rw [k2, r8, mu_same]; omega, by rw [e1]; omega, ?_⟩
      rw [k2, e1]
      intro j h0 h1
      by_cases cj : j = ν 31 2
      · subst cj
        rw [show ((ν 31 1 + 1) % 30 - (ν 31 2 + 1) + ν 31 2) % 30 = ν 31 1 by omega]
        refine newest _ (fun i i0 i1 => ?_)
        rw [r8, mu_off2 (by omega), mrow_on (by omega), f111, show 0 + (36 + 12 * ν 31 2 + i - (36 + 12 * ν 110 31)) = 0 + i by omega]
      · rw [show ((ν 31 1 + 1) % 30 - (ν 31 2 + 1) + j) % 30 = (ν 31 1 - ν 31 2 + j) % 30 by omega]
        refine same _ j j (by omega) (by omega) (by omega) (d6 j (by omega) (by omega)) (fun i i0 i1 => ?_)
        rw [r8, mu_off2 (by omega), mrow_off (by omega), f111]
theorem st_days {G : Gm} {μ : Mem} {a0 : Int} (h : Inv μ) (ha0 : R32 a0) : Both G mX7_days mX8_days [(0, a0)] μ := by
  have h' := h
  obtain ⟨wf, iw, ir, inn, idd, ii, il, im⟩ := h'
  have hnW := iw.2.2.1
  have hW : wW μ = 3 ∨ wW μ = 12 := iw.1
  obtain ⟨⟨m1, m2, m3⟩, ⟨m4, m5, m6⟩, m7⟩ := inn.N
  have b := RS_b im.1
  have idd' := idd
  obtain ⟨⟨d1, d2, d3⟩, ⟨d4, d5⟩, d6⟩ := idd'
  have out : ¬ (1 ≤ a0 ∧ a0 ≤ 9999) → Ci G mX8_days [(2, 110), (0, a0)] SHl μ (fun r' μ2 => -1000000002 = r' ∧ R32 (-1000000002) ∧ Inv μ2) := fun c =>
    eX8_days (fun Φ hΦ hR => bX8_days_0 hΦ hR ⟨ha0, c_m_in (r64 ha0) ⟨by decide, by decide⟩ ⟨by decide, by decide⟩ (fun c1 c2 => absurd ⟨c1, c2⟩ c) (fun _ => no_ ⟨rfl, by decide, h⟩)⟩)
  refine eX7_days (fun Φ hΦ hR => bX7_days_0 hΦ hR ⟨ha0, fun c => out (by omega), fun c => ⟨fun c1 => ⟨so_0, ?_⟩, fun c1 => out (by omega)⟩⟩)
  have c0 : 1 ≤ a0 := by omega
  rw [wf_0_3 wf, wf_0_5 wf, wf_0_6 wf]
  have ref : ∀ {K : Int → Mem → Prop} {κ : Mem}, WF κ → EqR κ μ → (∀ κ', RG κ μ κ' → (κ' 110 29 = 0 → κ' 111 8 ≤ 900000 → Cv G mX8_remember [(2, 110)] SHl κ' (fun μ9 => Ai SHl (μ9 110 0) 0 8 ∧ ∀ m11 : Mem, m11 = mu μ9 (μ9 110 0) 8 (μ9 (μ9 110 0) 8 + a0) → Ai SHl (m11 110 0) 0 8 ∧ K (m11 (m11 110 0) 8) m11)) ∧ (κ' 110 29 = 0 → ¬ κ' 111 8 ≤ 900000 → K (-1000000004) κ') ∧ (¬ κ' 110 29 = 0 → K (-1000000003) κ')) → Ci G mX8_days [(2, 110), (0, a0)] SHl κ K := fun {K κ} wk ek hk =>
    eX8_days (fun Φ hΦ hR => bX8_days_0 hΦ hR ⟨ha0, c_m_in (r64 ha0) ⟨by decide, by decide⟩ ⟨by decide, by decide⟩ (fun _ _ => yes_ ⟨so_110, c8_ratesG wk ek iw inn.c im (fun κ' rg => by
      have wk' := off_wf' wk rg.1
      have e8 : κ' 111 8 = μ 29 0 := ((rg.eq ek) 111 8 (by decide) (by unfold FR' FR; omega)).trans m1.symm
      obtain ⟨x1, x2, x3⟩ := hk κ' rg
      rw [wf_110_0 wk']
      refine ⟨?_, fun q => ⟨ai_111 (by decide) (by decide), by rw [e8]; exact ⟨by omega, by omega⟩, x1 q, x2 q⟩, x3⟩
      rw [rg.2.2]
      rcases b with e | e <;> rw [e] <;> exact ⟨by decide, by decide⟩)⟩) (fun d => absurd ⟨c0, c1⟩ d)⟩)
  have e8 : ∀ κ', RG μ μ κ' → κ' 111 8 = μ 29 0 := fun κ' rg => ((rg.eq EqR.rf) 111 8 (by decide) (by unfold FR' FR; omega)).trans m1.symm
  have rnI : ∀ κ', RG μ μ κ' → Inv κ' := fun κ' rg => RN_inv h rg
  refine ⟨so_21, by rcases b with e | e <;> rw [e] <;> exact ⟨by decide, by decide⟩, fun q => ⟨so_29, ⟨by omega, by omega⟩, fun q2 => ⟨so_31, ?_⟩, fun q2 => ?_⟩, fun q => ?_⟩
  · refine c0_remember wf ⟨d4, d5⟩ ⟨d2, d3⟩ ?_
    have o7 : ∀ k i, ¬ ((33 ≤ k ∧ k ≤ 92) ∨ (k = 31 ∧ 1 ≤ i ∧ i ≤ 2)) → R7 μ k i = μ k i := fun k i c => R7_off ⟨d4, d5⟩ c
    rw [o7 0 5 (by omega), wf_0_5 wf, o7 29 0 (by omega)]
    refine ⟨so_29, ?_⟩
    rintro m10 e10
    have g5 : m10 0 5 = 29 := by rw [e10, mu_off2 (by omega), o7 0 5 (by omega)]; exact wf_0_5 wf
    have g0 : m10 29 0 = μ 29 0 + a0 := by rw [e10, mu_same]
    rw [g5, g0]
    refine ⟨so_29, ?_⟩
    have wf10 : WF m10 := wf_sm (wf_sm wf (fun k i d => by
      unfold R7
      rw [mu_off2 (by unfold dF at d; omega), mu_off2 (by unfold dF at d; omega), mstd_off (by unfold dF at d; omega) (by unfold dF at d; omega)] : Sm dF μ (R7 μ))) (fun k i d => by unfold dF at d; rw [e10, mu_off2 (by omega)])
    have eq10 : EqR m10 μ := fun k i k0 _ => by rw [e10, mu_off2 (by omega), o7 k i (by omega)]
    refine ref wf10 eq10 (fun κ' rg => ⟨fun f0 f1 => ?_, fun f0 f1 => absurd ?_ f1, fun f0 => absurd (rg.2.2.trans q) f0⟩)
    · have wk' := off_wf' wf10 rg.1
      have ek' := rg.eq eq10
      have k31 : κ' 110 31 = μ 31 2 := (ek' 110 31 (by decide) (by unfold FR' FR; omega)).trans d1.symm
      refine c8_remember wk' (by omega) ?_
      have o8 : ∀ k i, ¬ ((k = 111 ∧ 36 ≤ i) ∨ (k = 110 ∧ i = 31)) → R8 κ' k i = κ' k i := fun k i c => R8_off (by omega) c
      rw [o8 110 0 (by omega), wf_110_0 wk', o8 111 8 (by omega)]
      refine ⟨ai_111 (by decide) (by decide), ?_⟩
      rintro m11 e11
      have r8 : κ' 111 8 = μ 29 0 := (ek' 111 8 (by decide) (by unfold FR' FR; omega)).trans m1.symm
      have g1 : m11 110 0 = 111 := by rw [e11, mu_off2 (by omega), o8 110 0 (by omega)]; exact wf_110_0 wk'
      have g2 : m11 111 8 = μ 29 0 + a0 := by rw [e11, mu_same, r8]
      rw [g1, g2]
      refine ⟨ai_111 (by decide) (by decide), rfl, ⟨by omega, by omega⟩, ?_⟩
      have hv := RM_inv h
      have er : EqR (R8 κ') (RM μ) := by
        have := R8_eq (κ := κ') (ν := R7 μ) (fun k i k0 kf => by rw [ek' k i k0 kf, o7 k i (by omega)])
        exact this
      have ff : ∀ k i, ¬ FR' k i → ¬ (k = 29 ∧ i = 0) → ¬ (k = 111 ∧ i = 8) → m11 k i = RM μ k i := fun k i f1 f2 f3 => by
        rw [e11, mu_off2 (by omega)]
        by_cases c : 110 ≤ k
        · exact er k i c f1
        · have x1 : R8 κ' k i = κ' k i := o8 k i (by omega)
          rw [x1, rg.1 k i f1, e10, mu_off2 (by omega)]
          unfold RM
          rw [R8_off (by rw [o7 110 31 (by omega)]; omega) (by omega)]
      obtain ⟨v1, v2, v3, v4, v5, v6, v7, v8⟩ := hv
      have off : ∀ k i, ¬ ((33 ≤ k ∧ k ≤ 92) ∨ (k = 31 ∧ 1 ≤ i ∧ i ≤ 2) ∨ (k = 111 ∧ 36 ≤ i) ∨ (k = 110 ∧ i = 31)) → RM μ k i = μ k i := fun k i c => by
        unfold RM
        rw [R8_off (by rw [o7 110 31 (by omega)]; omega) (by omega), o7 k i (by omega)]
      have hW' : wW (RM μ) = 3 ∨ wW (RM μ) = 12 := v2.1
      have hn' := v2.2.2.1
      have sw : Sm (dW (wW (RM μ)) (nL (RM μ))) (RM μ) m11 := fun k i d => ff k i (by unfold dW at d; unfold FR' FR; omega) (by unfold dW at d; omega) (by unfold dW at d; omega)
      have e := SW_of sw
      refine ⟨wf_sm v1 (fun k i d => ff k i (by unfold dF at d; unfold FR' FR; omega) (by unfold dF at d; omega) (by unfold dF at d; omega)), IW_sm v2 sw, IR_sm v3 (fun k i d => ff k i (by unfold dR at d; unfold FR' FR; omega) (by unfold dR at d; omega) (by unfold dR at d; omega)), ⟨?_, ?_⟩, ID_sm v5 hn'.2.2 e (fun k i d => ff k i (by unfold dD at d; unfold FR' FR; omega) (by unfold dD at d; omega) (by unfold dD at d; omega)), II_sm v6 hn'.2.2 e (fun k i d => ff k i (by unfold dI at d; unfold FR' FR; omega) (by unfold dI at d; omega) (by unfold dI at d; omega)), IL_sm v7 e (fun k i d => ff k i (by unfold dL at d; unfold FR' FR; omega) (by unfold dL at d; omega) (by unfold dL at d; omega)), IM_sm v8 e (fun k i d => ff k i (by unfold dM at d; unfold FR' FR; omega) (by unfold dM at d; omega) (by unfold dM at d; omega))⟩
      · obtain ⟨⟨⟨n1, n2, n3⟩, n4, n5, n6⟩, -⟩ := v4
        have t0 : m11 29 0 = μ 29 0 + a0 := by
          rw [e11, mu_off2 (by omega), o8 29 0 (by omega), rg.1 29 0 (by unfold FR' FR; omega)]; exact g0
        have t1 : m11 29 1 = RM μ 29 1 := ff 29 1 (by unfold FR' FR; omega) (by omega) (by omega)
        have t2 : m11 29 2 = RM μ 29 2 := ff 29 2 (by unfold FR' FR; omega) (by omega) (by omega)
        have t9 : m11 111 (0 + 9) = RM μ 111 (0 + 9) := ff 111 9 (by unfold FR' FR; omega) (by omega) (by omega)
        have t10 : m11 111 (0 + 10) = RM μ 111 (0 + 10) := ff 111 10 (by unfold FR' FR; omega) (by omega) (by omega)
        have z1 : RM μ 29 1 = μ 29 1 := off 29 1 (by omega)
        refine ⟨⟨by rw [t0]; exact g2.symm, by rw [t1, t9]; exact n2, by rw [t2, t10]; exact n3⟩, by rw [t0, t1, z1]; omega, by rw [t2, e.nl]; exact n5, ?_⟩
        rw [e.nw, e.w]
        intro i h0 h1
        rw [ff (29 + 1) i (by unfold FR' FR; omega) (by omega) (by omega), ff 111 (0 + i) (by unfold FR' FR; omega) (by omega) (by omega), e.t]
        exact n6 i h0 h1
      · rw [ff 0 12 (by unfold FR' FR; omega) (by omega) (by omega), ff 111 11 (by unfold FR' FR; omega) (by omega) (by omega)]
        exact v4.2
    · rw [((rg.eq eq10) 111 8 (by decide) (by unfold FR' FR; omega)).trans m1.symm]; exact q2
  · exact ref wf EqR.rf (fun κ' rg => ⟨fun _ f => absurd (by rw [e8 κ' rg] at f; exact f) q2, fun _ _ => ⟨rfl, by decide, rnI κ' rg⟩, fun f => absurd (rg.2.2.trans q) f⟩)
  · exact ref wf EqR.rf (fun κ' rg => ⟨fun f => absurd (rg.2.2.symm.trans f) q, fun f => absurd (rg.2.2.symm.trans f) q, fun _ => ⟨rfl, by decide, rnI κ' rg⟩⟩)
