/-! ALL STAND FROM TODAY ON as they are -/
def MK (ν : Mem) : Mem := fun k i => if (k = 30 ∨ k = 111) ∧ 0 ≤ i ∧ i < nW ν then plc ν i 0 else if (k = 29 ∧ i = 1) ∨ (k = 111 ∧ i = 9) then ν 29 0 else ν k i
theorem MK_off {ν : Mem} {k i : Int} (hn : nW ν ≤ 8) (h : ¬ (k = 30 ∨ (k = 111 ∧ 0 ≤ i ∧ i < 8) ∨ (k = 29 ∧ i = 1) ∨ (k = 111 ∧ i = 9))) : MK ν k i = ν k i := by
  unfold MK; rw [if_neg (by omega), if_neg (by omega)]
theorem MK_p {ν : Mem} {k i : Int} (hk : k = 30 ∨ k = 111) (h0 : 0 ≤ i) (h1 : i < nW ν) : MK ν k i = plc ν i 0 := by unfold MK; rw [if_pos ⟨hk, h0, h1⟩]
theorem MK_inv {ν : Mem} (h : Inv ν) : Inv (MK ν) := by
  have h' := h
  obtain ⟨wf, iw, ir, inn, idd, ii, il, im⟩ := h'
  have hnW := iw.2.2.1
  have hW : wW ν = 3 ∨ wW ν = 12 := iw.1
  have off : ∀ k i, ¬ (k = 30 ∨ (k = 111 ∧ 0 ≤ i ∧ i < 8) ∨ (k = 29 ∧ i = 1) ∨ (k = 111 ∧ i = 9)) → MK ν k i = ν k i := fun k i c => MK_off hnW.2.2 c
  have sw : Sm (dW (wW ν) (nL ν)) ν (MK ν) := fun k i d => off k i (by unfold dW at d; omega)
  have e := SW_of sw
  obtain ⟨⟨n1, n2, n3⟩, ⟨n4, n5, n6⟩, n7⟩ := inn.N
  have m1 : MK ν 29 1 = ν 29 0 := by unfold MK; rw [if_neg (by omega), if_pos (by omega)]
  have m9 : MK ν 111 9 = ν 29 0 := by unfold MK; rw [if_neg (by omega), if_pos (by omega)]
  refine ⟨wf_sm wf (fun k i d => off k i (by unfold dF at d; omega)), IW_sm iw sw, IR_sm ir (fun k i d => off k i (by unfold dR at d; omega)), ⟨⟨⟨?_, ?_, ?_⟩, ?_, ?_, ?_⟩, ?_⟩, ID_sm idd hnW.2.2 e (fun k i d => off k i (by unfold dD at d; omega)), II_sm ii hnW.2.2 e (fun k i d => off k i (by unfold dI at d; omega)), IL_sm il e (fun k i d => off k i (by unfold dL at d; omega)), IM_sm im e (fun k i d => off k i (by unfold dM at d; omega))⟩
  · show MK ν 29 0 = MK ν 111 8
    rw [off _ _ (by omega), off _ _ (by omega)]; exact n1
  · show MK ν 29 1 = MK ν 111 9
    rw [m1, m9]
  · show MK ν 29 2 = MK ν 111 10
    rw [off _ _ (by omega), off _ _ (by omega)]; exact n3
  · rw [m1, off 29 0 (by omega)]; omega
  · rw [off 29 2 (by omega), e.nl]; exact inn.1.2.2.1
  · rw [e.nw, e.w]
    intro i h0 h1
    show MK ν 30 i = MK ν 111 (0 + i) ∧ 0 ≤ MK ν 30 i ∧ MK ν 30 i < _
    rw [Int.zero_add, MK_p (Or.inl rfl) h0 h1, MK_p (Or.inr rfl) h0 h1, e.t]
    exact ⟨rfl, plc_rg h h0 h1⟩
  · rw [off 0 12 (by omega), off 111 11 (by omega)]; exact inn.2
theorem c7_setMark {G : Gm} {Q : Mem → Prop} {κ ν : Mem} (wf : WF κ) (e : EqC κ ν) (h : Inv ν) (k : ∀ κ', EqC κ' (MK ν) → (∀ a i, 110 ≤ a → κ' a i = κ a i) → Q κ') : Cv G mX7_setMark [(2, 0)] SHl κ Q := by
  have iw := h.2.1
  have hW : wW ν = 3 ∨ wW ν = 12 := iw.1
  have hn := h.nw
  refine eX7_setMark (fun Φ hΦ hR => bX7_setMark_0 hΦ hR ?_)
  have loop : ∀ (m : Nat) (n : Int) (κ1 : Mem), 0 ≤ n → n + m = nW ν → (∀ a i, κ1 a i = if a = 30 ∧ 0 ≤ i ∧ i < n then plc ν i 0 else κ a i) → Ex G Φ 2 2 [some (2, 0), some (0, n)] [] SHl κ1 0 0 := by
    intro m
    induction m with
    | zero =>
      intro n κ1 h0 hm f
      have o : ∀ a i, a ≠ 30 → κ1 a i = κ a i := fun a i c => by rw [f, if_neg (by omega)]
      have wf1 : WF κ1 := wf_sm wf (fun a i d => o a i (by unfold dF at d; omega))
      have ew : wW κ1 = wW ν := (o 0 1 (by decide)).trans (e 0 1 (by decide))
      have en : nW κ1 = nW ν := by show κ1 (wW κ1) 0 = _; rw [ew, o _ _ (by omega)]; exact e _ _ (by omega)
      have en' : κ1 (κ1 0 1) 0 = nW ν := en
      refine bX7_setMark_2 hΦ hR ⟨so_0, so_W (by show isW (wW κ1); rw [ew]; exact iw.1), ⟨by omega, by omega⟩, ?_⟩
      rw [en', wf_0_5 wf1]
      refine ⟨⟨by omega, by omega⟩, fun _ => ⟨so_29, ?_⟩, fun c => absurd (by omega) c⟩
      rintro m6 e6
      refine k _ (fun a i ha => ?_) (fun a i ha => by rw [e6, mu_off2 (by omega), o a i (by omega)])
      rw [e6]
      unfold MK
      by_cases c : a = 29 ∧ i = 1
      · rw [mu_on2 c.1 c.2, if_neg (by omega), if_pos (Or.inl c), o 29 0 (by decide)]; exact e 29 0 (by decide)
      · rw [mu_off2 c, f]
        by_cases d : a = 30 ∧ 0 ≤ i ∧ i < nW ν
        · rw [if_pos (by omega), if_pos (by omega)]
        · rw [if_neg (by omega), if_neg (by omega), if_neg (by omega)]; exact e a i ha
    | succ m ih =>
      intro n κ1 h0 hm f
      have o : ∀ a i, a ≠ 30 → κ1 a i = κ a i := fun a i c => by rw [f, if_neg (by omega)]
      have oc : ∀ a i, a ≠ 30 → a < 110 → κ1 a i = ν a i := fun a i c d => (o a i c).trans (e a i d)
      have wf1 : WF κ1 := wf_sm wf (fun a i d => o a i (by unfold dF at d; omega))
      have ew : wW κ1 = wW ν := oc 0 1 (by decide) (by decide)
      have en : nW κ1 = nW ν := by show κ1 (wW κ1) 0 = _; rw [ew]; exact oc _ _ (by omega) (by omega)
      have en' : κ1 (κ1 0 1) 0 = nW ν := en
      have p30 : κ1 30 n = ν 30 n := by rw [f, if_neg (by omega)]; exact e 30 n (by decide)
      have eT : κ1 (wW κ1 + 1) n = ν (wW ν + 1) n := by rw [ew]; exact oc _ _ (by omega) (by omega)
      have hT := h.T h0 (show n < nW ν by omega)
      have hg := (h.G h0 (show n < nW ν by omega)).1
      obtain ⟨-, n2, n4⟩ := h.2.2.2.1.N
      have p := n4 n h0 (by omega)
      have ep : plc κ1 n 0 = plc ν n 0 := by
        unfold plc
        rw [eT, p30, oc 22 n (by decide) (by decide), oc 23 n (by decide) (by decide), oc 29 0 (by decide) (by decide), oc 29 1 (by decide) (by decide)]
      refine bX7_setMark_2 hΦ hR ⟨so_0, so_W (by show isW (wW κ1); rw [ew]; exact iw.1), ⟨by omega, by omega⟩, ?_⟩
      rw [en', wf_0_5 wf1, wf_29_3 wf1]
      refine ⟨⟨by omega, by omega⟩, fun c => absurd c (by omega), fun _ => ⟨so_29, c7_placeR wf1 (by rw [ew]; exact iw.1) h0 (by omega) (by rw [eT]; exact hT.2) (by rw [oc 22 n (by decide) (by decide), oc 23 n (by decide) (by decide)]; exact hg) (by rw [p30]; omega) (by rw [oc 29 0 (by decide) (by decide), oc 29 1 (by decide) (by decide)]; omega) ⟨by decide, by decide⟩ ⟨ai_30 h0 (by omega), ?_⟩⟩⟩
      rintro m10 e10
      refine ih (n + 1) m10 (by omega) (by omega) (fun a i => ?_)
      rw [e10, ep]
      by_cases c : a = 30 ∧ i = n
      · rw [mu_on2 c.1 c.2, if_pos (by omega), c.2]
      · rw [mu_off2 c, f]
        by_cases d : a = 30 ∧ 0 ≤ i ∧ i < n
        · rw [if_pos d, if_pos (by omega)]
        · rw [if_neg d, if_neg (by omega)]
  exact loop (nW ν).toNat 0 κ (by decide) (by omega) (fun a i => by rw [if_neg (by omega)])
