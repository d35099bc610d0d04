/-! A GHOST of the memory: the class has gone ahead, the reference hasn't yet -/
def EqC (κ ν : Mem) : Prop := ∀ k i, k < 110 → κ k i = ν k i
def EqR (κ ν : Mem) : Prop := ∀ k i, 110 ≤ k → ¬ FR' k i → κ k i = ν k i
/-- rates in the reference's cells, the ghost's -/
def RG (κ ν μ' : Mem) : Prop := Off FR' κ μ' ∧ (∀ w, 0 ≤ w → w < nW ν → μ' 122 w = ν 22 w ∧ μ' 123 w = ν 23 w) ∧ μ' 110 29 = ν 21 5
theorem c8_ratesG {G : Gm} {Q : Mem → Prop} {κ μ : Mem} (wf : WF κ) (eq : EqR κ μ) (iw : IW μ) (ic : IC μ) (im : IM μ) (h : ∀ μ', RG κ μ μ' → Q μ') : Cv G mX8_ratesNow [(2, 110)] SHl κ Q := by
  have icr := ic.r iw
  have hW : wW μ = 3 ∨ wW μ = 12 := iw.1
  obtain ⟨w1, w2, ⟨w3, w3'⟩, ⟨w4, w4'⟩, w5, ⟨w6, w6'⟩, ⟨w7, w7'⟩, w8, w9, w10⟩ := id iw
  refine eX8_ratesNow (fun Φ hΦ hR => bX8_ratesNow_0 hΦ hR ⟨so_110, ?_⟩)
  rintro m2 e2
  have of1 : ∀ k i, ¬ (k = 110 ∧ i = 30) → m2 k i = κ k i := fun k i c => by rw [e2, mu_off2 c]
  have of2 : ∀ k i, (110 ≤ k ∧ ¬ FR' k i) → m2 k i = μ k i := fun k i c => by rw [of1 k i (fun q => c.2 (Or.inr q))]; exact eq k i c.1 c.2
  have wf2 : WF m2 := wf_sm wf (fun k i d => of1 k i (by unfold dF at d; omega))
  have m30 : m2 110 30 = 0 := by rw [e2, mu_same]
  rw [wf_110_0 wf2, of2 111 10 (by unfold FR' FR; omega), ic.1]
  refine ⟨ai_111 (by decide) (by decide), ?_⟩
  by_cases hn : nW μ = 0
  · have hl : nL μ = 0 := by
      by_cases c : nL μ = 0
      · exact c
      · have := w9 0 (by omega) (by omega)
        omega
    refine c8_find0 (drv := 0) (R := 0) wf2 (by rw [of2 110 2 (by unfold FR' FR; omega), ← w3]; exact hn) (by rw [of2 110 3 (by unfold FR' FR; omega), ← w4]; exact hl) m30 ⟨by omega, by omega⟩ (fun μ' q => h μ' ⟨fun k i c => ?_, fun w h0 h1 => by omega, ?_⟩)
    · have c' : ¬ FR k i ∧ ¬ (k = 110 ∧ i = 30) := ⟨fun q => c (Or.inl q), fun q => c (Or.inr q)⟩
      rw [q.1 k i c'.1, of1 k i c'.2]
    · have a1 : μ' 110 29 = 0 := by rcases q.2 with ⟨e, _⟩ | ⟨_, e, _⟩; exact e; omega
      have a2 : μ 21 5 = 0 := by rcases im.1 with ⟨e, _⟩ | ⟨_, e, _⟩; exact e; omega
      rw [a1, a2]
  · have ee : E8 m2 (μ 29 2) 0 = Enow μ := by
      unfold E8 Enow
      refine Edg_eq (fun l l0 l1 on => ?_) (fun l l0 l1 on => ?_)
      · have on : (l ≠ 20 ∧ l < nL μ ∧ bt_ (μ 29 2) l = 0) := by
          unfold on8 at on
          rw [m30, of2 110 3 (by unfold FR' FR; omega), ← w4] at on
          omega
        obtain ⟨⟨k1, _⟩, ⟨k2, _⟩, ⟨k3, _⟩, _⟩ := w9 l l0 on.2.1
        refine ⟨l, l0, on.2.1, on.2.2, ?_, ?_, ?_⟩
        · unfold kd8; rw [bt_zero, if_neg (by omega), of2 115 l (by unfold FR' FR; omega)]; exact k1
        · rw [of2 116 l (by unfold FR' FR; omega)]; exact k2
        · rw [of2 117 l (by unfold FR' FR; omega)]; exact k3
      · obtain ⟨⟨k1, _⟩, ⟨k2, _⟩, ⟨k3, _⟩, _⟩ := w9 l l0 l1
        refine ⟨l, l0, by omega, ?_, ?_, ?_, ?_⟩
        · unfold on8; rw [m30, of2 110 3 (by unfold FR' FR; omega), ← w4]; exact Or.inr ⟨by omega, l1, on⟩
        · unfold kd8; rw [bt_zero, if_neg (by omega), of2 115 l (by unfold FR' FR; omega)]; exact k1.symm
        · rw [of2 116 l (by unfold FR' FR; omega)]; exact k2.symm
        · rw [of2 117 l (by unfold FR' FR; omega)]; exact k3.symm
    have tt : ∀ w, 0 ≤ w → w < nW μ → m2 113 w = μ (wW μ + 1) w := fun w h0 h1 => by rw [of2 113 w (by unfold FR' FR; omega)]; exact (w8 w h0 h1).1.symm
    have rp : RP8 m2 (μ 29 2) 0 (nW μ) (μ (wW μ) 3) (μ (wW μ) 4) := by
      refine ⟨wf2, ⟨by rw [of2 110 2 (by unfold FR' FR; omega)]; exact w3.symm, by rw [of2 110 5 (by unfold FR' FR; omega)]; exact w6.symm, by rw [of2 110 6 (by unfold FR' FR; omega)]; exact w7.symm⟩, ⟨by omega, w3'.2⟩, fun w h0 h1 => by rw [tt w h0 h1]; exact (w8 w h0 h1).2, fun l l0 l1 on => ?_, w7', ⟨w6'.1, w6'.2.1 (by omega)⟩, ⟨by omega, by omega⟩, R32_0, ?_, Or.inl m30⟩
      · have on : (l ≠ 20 ∧ l < nL μ ∧ bt_ (μ 29 2) l = 0) := by
          unfold on8 at on
          rw [m30, of2 110 3 (by unfold FR' FR; omega), ← w4] at on
          omega
        obtain ⟨⟨k1, k1', k1''⟩, ⟨k2, k2'⟩, ⟨k3, k3'⟩, k4, _⟩ := w9 l l0 on.2.1
        rw [of2 115 l (by unfold FR' FR; omega), of2 116 l (by unfold FR' FR; omega), of2 117 l (by unfold FR' FR; omega), ← k1, ← k2, ← k3]
        exact ⟨by omega, k2', k3', k4⟩
      · rw [of2 110 3 (by unfold FR' FR; omega), ← w4]; omega
    refine c8_find1 rp (fun μ' q => h μ' ?_)
    obtain ⟨of, rs⟩ := q
    rw [ee] at rs
    have rs' : RS (μ (wW μ + 1)) (μ (wW μ) 3) (μ (wW μ) 4) (nW μ) (Enow μ) (rr μ' 121) (μ' 110 29) := RS_T (fun k x y he => by
      obtain ⟨p, q⟩ := Enow_rg iw k x y he
      exact ⟨(tt x p.1 p.2).symm, (tt y q.1 q.2).symm⟩) rs
    have un := RS_un (by omega) (Enow_T iw) rs' im.1
    refine ⟨fun k i c => ?_, fun w h0 h1 => ?_, un.1⟩
    · have c' : ¬ FR k i ∧ ¬ (k = 110 ∧ i = 30) := ⟨fun q => c (Or.inl q), fun q => c (Or.inr q)⟩
      rw [of k i c'.1, of1 k i c'.2]
    · have := un.2 w h0 h1
      exact ⟨congrArg Prod.fst this, congrArg Prod.snd this⟩
theorem EqC.rf {ν : Mem} : EqC ν ν := fun _ _ _ => rfl
theorem EqR.rf {ν : Mem} : EqR ν ν := fun _ _ _ _ => rfl
theorem RG.eq {κ ν μ' : Mem} (r : RG κ ν μ') (e : EqR κ ν) : EqR μ' ν := fun k i h0 h1 => (r.1 k i h1).trans (e k i h0 h1)
theorem off_wf' {μ0 μ : Mem} (wf : WF μ0) (h : Off FR' μ0 μ) : WF μ := wf_sm wf (fun k i d => h k i (by unfold dF at d; unfold FR' FR; omega))
theorem c7_placeG {G : Gm} {Q : Int → Mem → Prop} {κ ν : Mem} {w n : Int} (wf : WF κ) (e : EqC κ ν) (h : Inv ν) (h0 : 0 ≤ w) (h1 : w < nW ν) (hn : 0 ≤ n ∧ n ≤ 100000) (k : Q (plc ν w n) κ) : Ci G mX7_placeIn [(2, 0), (0, w), (0, n)] SHl κ Q := by
  have hT := h.T h0 h1
  have hg := (h.G h0 h1).1
  obtain ⟨-, iw, ir, inn, idd, ii, il, im⟩ := h
  have hW : wW ν = 3 ∨ wW ν = 12 := iw.1
  have hnW := iw.2.2.1
  obtain ⟨-, n2, n4⟩ := inn.N
  have p := n4 w h0 h1
  have ew : wW κ = wW ν := e 0 1 (by decide)
  have eT : κ (wW κ + 1) w = ν (wW ν + 1) w := by rw [ew]; exact e _ _ (by omega)
  have ep : plc κ w n = plc ν w n := by
    unfold plc
    rw [eT, e 30 w (by decide), e 22 w (by decide), e 23 w (by decide), e 29 0 (by decide), e 29 1 (by decide)]
  rw [← ep] at k
  refine c7_placeR wf (by rw [ew]; exact iw.1) h0 (by omega) (by rw [eT]; exact hT.2) (by rw [e 22 w (by decide), e 23 w (by decide)]; exact hg) (by rw [e 30 w (by decide)]; omega) (by rw [e 29 0 (by decide), e 29 1 (by decide)]; omega) hn k
theorem c8_placeG {G : Gm} {Q : Int → Mem → Prop} {κ ν : Mem} {w n : Int} (wf : WF κ) (e : EqR κ ν) (h : Inv ν) (rt : ∀ w, 0 ≤ w → w < nW ν → κ 122 w = ν 22 w ∧ κ 123 w = ν 23 w) (h0 : 0 ≤ w) (h1 : w < nW ν) (hn : 0 ≤ n ∧ n ≤ 100000) (k : Q (plc ν w n) κ) : Ci G mX8_placeIn [(2, 110), (0, w), (1, n)] SHl κ Q := by
  have hT := h.T h0 h1
  have hg := (h.G h0 h1).1
  obtain ⟨-, iw, ir, inn, idd, ii, il, im⟩ := h
  have hW : wW ν = 3 ∨ wW ν = 12 := iw.1
  have hnW := iw.2.2.1
  obtain ⟨⟨d0, d1, d2⟩, n2, n4⟩ := inn.N
  have p := n4 w h0 h1
  have e1 : κ 111 w = ν 30 w := by rw [e 111 w (by decide) (by unfold FR' FR; omega), p.1]
  have e2 : κ 111 8 = ν 29 0 := by rw [e 111 8 (by decide) (by unfold FR' FR; omega)]; exact d0.symm
  have e3 : κ 111 9 = ν 29 1 := by rw [e 111 9 (by decide) (by unfold FR' FR; omega)]; exact d1.symm
  have e4 : κ 113 w = ν (wW ν + 1) w := by rw [e 113 w (by decide) (by unfold FR' FR; omega)]; exact hT.1.symm
  have ep : plc8 κ w n = plc ν w n := by
    unfold plc8 plc
    rw [e1, e2, e3, e4, (rt w h0 h1).1, (rt w h0 h1).2]
  rw [← ep] at k
  exact c8_placeR wf h0 (by omega) (by rw [e4]; exact hT.2) (by rw [(rt w h0 h1).1, (rt w h0 h1).2]; exact hg) (by rw [e1]; omega) (by rw [e2, e3]; omega) hn k
