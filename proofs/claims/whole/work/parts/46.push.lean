theorem Inv_eq {κ ν : Mem} (h : Inv ν) (c : EqC κ ν) (r : EqR κ ν) : Inv κ := by
  obtain ⟨wf, iw, ir, inn, idd, ii, il, im⟩ := h
  have hnW := iw.2.2.1
  have hW : wW ν = 3 ∨ wW ν = 12 := iw.1
  have off : ∀ k i, ¬ FR' k i → κ k i = ν k i := fun k i f => by
    by_cases q : k < 110
    · exact c k i q
    · exact r k i (by omega) f
  have sw : Sm (dW (wW ν) (nL ν)) ν κ := fun k i d => off k i (by unfold dW at d; unfold FR' FR; omega)
  have e := SW_of sw
  exact ⟨wf_sm wf (fun k i d => off k i (by unfold dF at d; unfold FR' FR; omega)), IW_sm iw sw, IR_sm ir (fun k i d => off k i (by unfold dR at d; unfold FR' FR; omega)), IN_sm inn hnW.2.2 e (fun k i d => off k i (by unfold dN at d; unfold FR' FR; omega)), ID_sm idd hnW.2.2 e (fun k i d => off k i (by unfold dD at d; unfold FR' FR; omega)), II_sm ii hnW.2.2 e (fun k i d => off k i (by unfold dI at d; unfold FR' FR; omega)), IL_sm il e (fun k i d => off k i (by unfold dL at d; unfold FR' FR; omega)), IM_sm im e (fun k i d => off k i (by unfold dM at d; unfold FR' FR; omega))⟩
theorem wf_C {κ κ' ν' : Mem} (wf : WF κ) (wn : WF ν') (c : EqC κ' ν') (o : ∀ a i, 110 ≤ a → κ' a i = κ a i) : WF κ' := fun q hq => by
  by_cases d : q.1 < 110
  · rw [c _ _ d]; exact wn q hq
  · rw [o _ _ (by omega)]; exact wf q hq
theorem wf_R {κ κ' ν' : Mem} (wf : WF κ) (wn : WF ν') (c : EqR κ' ν') (o : ∀ a i, a < 110 → κ' a i = κ a i) : WF κ' := fun q hq => by
  by_cases d : q.1 < 110
  · rw [o _ _ d]; exact wf q hq
  · have := ww_q q hq
    rw [c _ _ (by omega) (by unfold dF at this; unfold FR' FR; omega)]; exact wn q hq
def PS (ν : Mem) (w n : Int) : Mem := mu (mu (MK ν) 30 w ((MK ν 30 w + n) % ν (wW ν + 1) w)) 111 w ((MK ν 30 w + n) % ν (wW ν + 1) w)
theorem PS_inv {ν : Mem} {w n : Int} (h : Inv ν) (h0 : 0 ≤ w) (h1 : w < nW ν) : Inv (PS ν w n) := by
  have hT := h.T h0 h1
  have hv := MK_inv h
  have hn := h.nw
  have mo : ∀ k i, ¬ (k = 30 ∨ (k = 111 ∧ 0 ≤ i ∧ i < 8) ∨ (k = 29 ∧ i = 1) ∨ (k = 111 ∧ i = 9)) → MK ν k i = ν k i := fun k i c => MK_off hn.2.2 c
  have hW0 : wW ν = 3 ∨ wW ν = 12 := h.2.1.1
  have mW : wW (MK ν) = wW ν := mo 0 1 (by omega)
  have mN : nW (MK ν) = nW ν := by show MK ν (wW (MK ν)) 0 = _; rw [mW]; exact mo _ _ (by omega)
  have mT : ∀ i, MK ν (wW (MK ν) + 1) i = ν (wW ν + 1) i := fun i => by rw [mW]; exact mo _ _ (by omega)
  have em := Int.emod_lt_of_pos (MK ν 30 w + n) (show 0 < ν (wW ν + 1) w by omega)
  have em' := Int.emod_nonneg (MK ν 30 w + n) (show ν (wW ν + 1) w ≠ 0 by omega)
  unfold PS
  generalize hv' : (MK ν 30 w + n) % ν (wW ν + 1) w = v at *
  obtain ⟨wf, iw, ir, inn, idd, ii, il, im⟩ := hv
  have hnW := iw.2.2.1
  have hW : wW (MK ν) = 3 ∨ wW (MK ν) = 12 := iw.1
  have off : ∀ k i, ¬ (k = 30 ∨ (k = 111 ∧ 0 ≤ i ∧ i < 8)) → mu (mu (MK ν) 30 w v) 111 w v k i = MK ν k i := fun k i c => by rw [mu_off2 (by omega), mu_off2 (by omega)]
  have sw : Sm (dW (wW (MK ν)) (nL (MK ν))) (MK ν) (mu (mu (MK ν) 30 w v) 111 w v) := fun k i d => off k i (by unfold dW at d; omega)
  have e := SW_of sw
  obtain ⟨⟨n1, n2, n3⟩, n4, n5⟩ := inn.N
  refine ⟨wf_sm wf (fun k i d => off k i (by unfold dF at d; omega)), IW_sm iw sw, IR_sm ir (fun k i d => off k i (by unfold dR at d; omega)), ⟨⟨⟨?_, ?_, ?_⟩, ?_, ?_, ?_⟩, ?_⟩, ID_sm idd hnW.2.2 e (fun k i d => off k i (by unfold dD at d; omega)), II_sm ii hnW.2.2 e (fun k i d => off k i (by unfold dI at d; omega)), IL_sm il e (fun k i d => off k i (by unfold dL at d; omega)), IM_sm im e (fun k i d => off k i (by unfold dM at d; omega))⟩
  · rw [off 29 0 (by omega), off 111 (0 + 8) (by omega)]; exact n1
  · rw [off 29 1 (by omega), off 111 (0 + 9) (by omega)]; exact n2
  · rw [off 29 2 (by omega), off 111 (0 + 10) (by omega)]; exact n3
  · rw [off 29 1 (by omega), off 29 0 (by omega)]; exact n4
  · rw [off 29 2 (by omega), e.nl]; exact inn.1.2.2.1
  · rw [e.nw, e.w]
    intro i i0 i1
    rw [e.t]
    by_cases c : i = w
    · subst c
      rw [mu_off2 (by omega), mu_on2 (by omega) rfl, mu_on2 rfl (by omega), mT]
      exact ⟨rfl, em', em⟩
    · rw [mu_off2 (by omega), mu_off2 (by omega), mu_off2 (by omega), mu_off2 (by omega)]
      exact inn.1.2.2.2 i i0 i1
  · rw [off 0 12 (by omega), off 111 11 (by omega)]; exact inn.2
theorem c7_push {G : Gm} {Q : Mem → Prop} {κ ν : Mem} {w n : Int} (wf : WF κ) (e : EqC κ ν) (h : Inv ν) (h0 : 0 ≤ w) (h1 : w < nW ν) (hn : -99 ≤ n ∧ n ≤ 99) (k : ∀ κ', EqC κ' (PS ν w n) → (∀ a i, 110 ≤ a → κ' a i = κ a i) → Q κ') : Cv G mX7_push [(2, 0), (0, w), (0, n)] SHl κ Q := by
  have hT := h.T h0 h1
  have hm := MK_inv h
  have nw := h.nw
  have hW0 : wW ν = 3 ∨ wW ν = 12 := h.2.1.1
  refine eX7_push (fun Φ hΦ hR => bX7_push_0 hΦ hR ⟨so_0, c7_setMark wf e h (fun κ2 e2 o2 => ?_)⟩)
  have wf2 := wf_C wf hm.1 e2 o2
  have ew : κ2 0 1 = wW ν := (e2 0 1 (by decide)).trans (MK_off nw.2.2 (by omega))
  have iW : isW (κ2 0 1) := by rw [ew]; exact h.2.1.1
  have eT : κ2 (κ2 0 1 + 1) w = ν (wW ν + 1) w := by rw [ew, e2 _ _ (by omega)]; exact MK_off nw.2.2 (by omega)
  have ep : κ2 30 w = MK ν 30 w := e2 30 w (by decide)
  have pr : 0 ≤ MK ν 30 w ∧ MK ν 30 w < 30 := by rw [MK_p (Or.inl rfl) h0 h1]; have := plc_rg h h0 h1 (n := 0); omega
  rw [wf_0_5 wf2, wf_29_3 wf2, wf_W5 wf2 iW, eT, ep]
  refine ⟨so_29, ai_30 h0 (by omega), ⟨by omega, by omega⟩, so_W iW, ai_W1 iW h0 (by omega), ⟨by omega, by omega⟩, c_leftOver ⟨by omega, by omega⟩ (by omega) (by omega) ?_⟩
  rintro m10 e10
  refine k _ (fun a i ha => ?_) (fun a i ha => by rw [e10, mu_off2 (by omega)]; exact o2 a i ha)
  rw [e10]
  unfold PS
  rw [mu_off2 (k := 111) (by omega)]
  by_cases c : a = 30 ∧ i = w
  · rw [mu_on2 c.1 c.2, mu_on2 c.1 c.2]
  · rw [mu_off2 c, mu_off2 c]; exact e2 a i ha
theorem c8_slipBy {G : Gm} {Q : Mem → Prop} {κ ν : Mem} {w n : Int} (wf : WF κ) (e : EqR κ ν) (h : Inv ν) (h0 : 0 ≤ w) (h1 : w < nW ν) (hn : -99 ≤ n ∧ n ≤ 99) (k : ∀ κ', EqR κ' (PS ν w n) → (∀ a i, a < 110 → κ' a i = κ a i) → Q κ') : Cv G mX8_slipBy [(2, 110), (0, w), (0, n)] SHl κ Q := by
  have hT := h.T h0 h1
  have hm := MK_inv h
  have nw := h.nw
  refine eX8_slipBy (fun Φ hΦ hR => bX8_slipBy_0 hΦ hR ⟨so_110, c8_markToday wf e h (fun κ2 e2 o2 => ?_)⟩)
  have wf2 := wf_R wf hm.1 e2 o2
  have eT : κ2 113 w = ν (wW ν + 1) w := (e2 113 w (by decide) (by unfold FR' FR; omega)).trans ((MK_off nw.2.2 (by omega)).trans hT.1.symm)
  have ep : κ2 111 w = MK ν 30 w := by rw [e2 111 w (by decide) (by unfold FR' FR; omega), MK_p (Or.inr rfl) h0 h1, MK_p (Or.inl rfl) h0 h1]
  have pr : 0 ≤ MK ν 30 w ∧ MK ν 30 w < 30 := by rw [MK_p (Or.inl rfl) h0 h1]; have := plc_rg h h0 h1 (n := 0); omega
  rw [wf_110_0 wf2, wf_110_13 wf2, eT, ep]
  refine ⟨ai_111 h0 (by omega), ⟨by omega, by omega⟩, ai_113 h0 (by omega), c_m_over ⟨by omega, by omega⟩ (by omega) (by omega) ?_⟩
  rintro m7 e7
  refine k _ (fun a i ha hf => ?_) (fun a i ha => by rw [e7, mu_off2 (by omega)]; exact o2 a i ha)
  rw [e7]
  unfold PS
  by_cases c : a = 111 ∧ i = w
  · rw [mu_on2 c.1 c.2, mu_on2 c.1 c.2]
  · rw [mu_off2 c, mu_off2 c, mu_off2 (by omega)]; exact e2 a i ha hf
