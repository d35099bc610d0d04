theorem c8_markToday {G : Gm} {Q : Mem → Prop} {κ ν : Mem} (wf : WF κ) (e : EqR κ ν) (h : Inv ν) (k : ∀ κ', EqR κ' (MK ν) → (∀ a i, a < 110 → κ' a i = κ a i) → Q κ') : Cv G mX8_markToday [(2, 110)] SHl κ Q := by
  have hn := h.nw
  obtain ⟨⟨n1, n2, n3⟩, n4, n5⟩ := h.2.2.2.1.N
  refine eX8_markToday (fun Φ hΦ hR => bX8_markToday_0 hΦ hR ⟨so_110, c8_ratesG wf e h.2.1 h.2.2.2.1.c h.2.2.2.2.2.2.2 (fun κr rg => ?_)⟩)
  have wfr := off_wf' wf rg.1
  have er := rg.eq e
  have lo : ∀ a i, a < 110 → κr a i = κ a i := fun a i c => rg.1 a i (by unfold FR' FR; omega)
  have loop : ∀ (m : Nat) (n : Int) (κ1 : Mem), 0 ≤ n → n + m = nW ν → (∀ a i, κ1 a i = if a = 111 ∧ 0 ≤ i ∧ i < n then plc ν i 0 else κr a i) → Ex G Φ 2 6 [some (2, 110), some (0, n)] [] SHl κ1 0 0 := by
    intro m
    induction m with
    | zero =>
      intro n κ1 h0 hm f
      have o : ∀ a i, ¬ (a = 111 ∧ 0 ≤ i ∧ i < 8) → κ1 a i = κr a i := fun a i c => by rw [f, if_neg (by omega)]
      have wf1 : WF κ1 := wf_sm wfr (fun a i d => o a i (by unfold dF at d; omega))
      have e2 : κ1 110 2 = nW ν := (o 110 2 (by omega)).trans ((er 110 2 (by decide) (by unfold FR' FR; omega)).trans hn.1.symm)
      have e8 : κ1 111 8 = ν 29 0 := (o 111 8 (by omega)).trans ((er 111 8 (by decide) (by unfold FR' FR; omega)).trans n1.symm)
      refine bX8_markToday_6 hΦ hR ⟨so_110, ⟨by omega, by omega⟩, ?_⟩
      rw [e2, wf_110_0 wf1, e8]
      refine ⟨⟨by omega, by omega⟩, fun _ => ⟨ai_111 (by decide) (by decide), ai_111 (by decide) (by decide), ?_⟩, fun c => absurd (by omega) c⟩
      rintro m6 e6
      refine k _ (fun a i ha hf => ?_) (fun a i ha => by rw [e6, mu_off2 (by omega), o a i (by omega), lo a i ha])
      rw [e6]
      unfold MK
      by_cases c : a = 111 ∧ i = 9
      · rw [mu_on2 c.1 c.2, if_neg (by omega), if_pos (Or.inr c)]
      · rw [mu_off2 c, f]
        by_cases d : a = 111 ∧ 0 ≤ i ∧ i < nW ν
        · rw [if_pos (by omega), if_pos (by omega)]
        · rw [if_neg (by omega), if_neg (by omega), if_neg (by omega)]; exact er a i ha hf
    | succ m ih =>
      intro n κ1 h0 hm f
      have hn1 : n < nW ν := by omega
      have o : ∀ a i, ¬ (a = 111 ∧ 0 ≤ i ∧ i < n) → κ1 a i = κr a i := fun a i c => by rw [f, if_neg c]
      have wf1 : WF κ1 := wf_sm wfr (fun a i d => o a i (by unfold dF at d; omega))
      have e2 : κ1 110 2 = nW ν := (o 110 2 (by omega)).trans ((er 110 2 (by decide) (by unfold FR' FR; omega)).trans hn.1.symm)
      have hT := h.T h0 hn1
      have hg := (h.G h0 hn1).1
      have p := n5 n h0 hn1
      have e1 : κ1 111 n = ν 30 n := (o 111 n (by omega)).trans ((er 111 n (by decide) (by unfold FR' FR; omega)).trans p.1.symm)
      have e8 : κ1 111 8 = ν 29 0 := (o 111 8 (by omega)).trans ((er 111 8 (by decide) (by unfold FR' FR; omega)).trans n1.symm)
      have e9 : κ1 111 9 = ν 29 1 := (o 111 9 (by omega)).trans ((er 111 9 (by decide) (by unfold FR' FR; omega)).trans n2.symm)
      have eT : κ1 113 n = ν (wW ν + 1) n := (o 113 n (by omega)).trans ((er 113 n (by decide) (by unfold FR' FR; omega)).trans hT.1.symm)
      have r := rg.2.1 n h0 hn1
      have r1 : κ1 122 n = ν 22 n := (o 122 n (by omega)).trans r.1
      have r2 : κ1 123 n = ν 23 n := (o 123 n (by omega)).trans r.2
      have ep : plc8 κ1 n 0 = plc ν n 0 := by
        unfold plc8 plc
        rw [e1, e8, e9, eT, r1, r2]
      refine bX8_markToday_6 hΦ hR ⟨so_110, ⟨by omega, by omega⟩, ?_⟩
      rw [e2, wf_110_0 wf1]
      refine ⟨⟨by omega, by omega⟩, fun c => absurd c (by omega), fun _ => c8_placeR wf1 h0 (by omega) (by rw [eT]; exact hT.2) (by rw [r1, r2]; exact hg) (by rw [e1]; omega) (by rw [e8, e9]; omega) ⟨by decide, by decide⟩ ⟨ai_111 h0 (by omega), ?_⟩⟩
      rintro m10 e10
      refine ih (n + 1) m10 (by omega) (by omega) (fun a i => ?_)
      rw [e10, ep]
      by_cases c : a = 111 ∧ i = n
      · rw [mu_on2 c.1 c.2, if_pos (by omega), c.2]
      · rw [mu_off2 c, f]
        by_cases d : a = 111 ∧ 0 ≤ i ∧ i < n
        · rw [if_pos d, if_pos (by omega)]
        · rw [if_neg d, if_neg (by omega)]
  exact loop (nW ν).toNat 0 κr (by decide) (by omega) (fun a i => by rw [if_neg (by omega)])
