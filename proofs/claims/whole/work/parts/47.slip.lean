theorem RM_c {κ ν : Mem} (h : Inv ν) (e : EqC κ ν) : EqC (R7 κ) (RM ν) := fun k i hk => by
  obtain ⟨⟨d1, d2, d3⟩, ⟨d4, d5⟩, d6⟩ := h.2.2.2.2.1
  rw [R7_eq e ⟨d4, d5⟩ k i hk]
  unfold RM
  rw [R8_off (by rw [R7_off ⟨d4, d5⟩ (by omega)]; omega) (by omega)]
theorem RM_r {κ ν : Mem} (h : Inv ν) (e : EqR κ ν) : EqR (R8 κ) (RM ν) := by
  obtain ⟨⟨d1, d2, d3⟩, ⟨d4, d5⟩, d6⟩ := h.2.2.2.2.1
  exact R8_eq (fun k i k0 kf => by rw [e k i k0 kf, R7_off ⟨d4, d5⟩ (by omega)])
theorem RM_W {ν : Mem} (h : Inv ν) : wW (RM ν) = wW ν ∧ nW (RM ν) = nW ν := by
  obtain ⟨⟨d1, d2, d3⟩, ⟨d4, d5⟩, d6⟩ := h.2.2.2.2.1
  have hW : ν 0 1 = 3 ∨ ν 0 1 = 12 := h.2.1.1
  have off : ∀ k i, k < 31 → RM ν k i = ν k i := fun k i c => by
    unfold RM
    rw [R8_off (by rw [R7_off ⟨d4, d5⟩ (by omega)]; omega) (by omega), R7_off ⟨d4, d5⟩ (by omega)]
  have e := off 0 1 (by decide)
  refine ⟨e, ?_⟩
  show RM ν (RM ν 0 1) 0 = _
  rw [e]; exact off _ _ (by omega)
theorem st_slip {G : Gm} {μ : Mem} {a0 a1 : Int} (h : Inv μ) (ha0 : R32 a0) (ha1 : R32 a1) : Both G mX7_slip mX8_slip [(0, a0), (0, a1)] μ := by
  have wf := h.1
  have id0 := h.2.2.2.2.1
  obtain ⟨⟨d1, d2, d3⟩, ⟨d4, d5⟩, d6⟩ := id0
  have out : 0 ≤ a0 → a0 < nW μ → ¬ (-99 ≤ a1 ∧ a1 ≤ 99) → Ci G mX8_slip [(2, 110), (0, a0), (0, a1)] SHl μ (fun r' μ2 => -1000000002 = r' ∧ R32 (-1000000002) ∧ Inv μ2) := fun c1 c2 c =>
    eX8_slip (fun Φ hΦ hR => bX8_slip_0 hΦ hR ⟨so_110, c8_isW h ha0 (fun _ _ => yes_ ⟨ha1, c_m_in (r64 ha1) ⟨by decide, by decide⟩ ⟨by decide, by decide⟩ (fun d1 d2 => absurd ⟨d1, d2⟩ c) (fun _ => no_ ⟨rfl, by decide, h⟩)⟩) (fun d => absurd ⟨c1, c2⟩ d)⟩)
  refine eX7_slip (fun Φ hΦ hR => bX7_slip_0 hΦ hR ⟨so_0, c7_hasW h ha0 (fun c1 c2 => yes_ ⟨ha1, fun c => out c1 c2 (by omega), fun k1 => ⟨fun k2 => ?_, fun k2 => out c1 c2 (by omega)⟩⟩) (fun c => no_ (eX8_slip (fun Φ hΦ hR => bX8_slip_0 hΦ hR ⟨so_110, c8_isW h ha0 (fun c1 c2 => absurd ⟨c1, c2⟩ c) (fun _ => no_ ⟨rfl, by decide, h⟩)⟩)))⟩)
  have hr := RM_inv h
  obtain ⟨rw1, rn1⟩ := RM_W h
  have hp := PS_inv (w := a0) (n := a1) hr c1 (by omega)
  have hn := h.nw
  have val : PS (RM μ) a0 a1 30 a0 = PS (RM μ) a0 a1 111 a0 ∧ R32 (PS (RM μ) a0 a1 30 a0) := by
    obtain ⟨-, -, n5⟩ := hp.2.2.2.1.N
    have o : ∀ k i, ¬ (k = 30 ∨ k = 111 ∨ k = 29) → PS (RM μ) a0 a1 k i = RM μ k i := fun k i c => by unfold PS; rw [mu_off2 (by omega), mu_off2 (by omega), MK_off hr.nw.2.2 (by omega)]
    have hW : wW (RM μ) = 3 ∨ wW (RM μ) = 12 := hr.2.1.1
    have e1 : wW (PS (RM μ) a0 a1) = wW (RM μ) := o 0 1 (by omega)
    have e2 : nW (PS (RM μ) a0 a1) = nW (RM μ) := by show PS (RM μ) a0 a1 (wW (PS (RM μ) a0 a1)) 0 = _; rw [e1]; exact o _ _ (by omega)
    have q := n5 a0 c1 (by omega)
    have t := hp.T (w := a0) c1 (by omega)
    exact ⟨q.1, by omega, by omega⟩
  rw [wf_0_6 wf, wf_0_5 wf]
  refine ⟨so_31, c0_remember wf ⟨d4, d5⟩ ⟨d2, d3⟩ ?_⟩
  have eC := RM_c h EqC.rf
  have o7 : ∀ a i, 110 ≤ a → R7 μ a i = μ a i := fun a i c => R7_off ⟨d4, d5⟩ (by omega)
  have wf7 := wf_C wf hr.1 eC o7
  refine c7_push wf7 eC hr c1 (by omega) ⟨by omega, k2⟩ (fun κ3 e3 o3 => ?_)
  have wf3 := wf_C wf7 hp.1 e3 o3
  rw [wf_0_5 wf3, wf_29_3 wf3, e3 30 a0 (by decide)]
  have eR3 : EqR κ3 μ := fun a i k0 _ => (o3 a i k0).trans (o7 a i k0)
  refine ⟨so_29, ai_30 c1 (by omega), eX8_slip (fun Φ hΦ hR => bX8_slip_0 hΦ hR ⟨so_110, c8_isWheel (x := a0) (by have := eR3 110 2 (by decide) (by unfold FR' FR; omega); omega) ha0 (fun _ _ => yes_ ⟨ha1, c_m_in (r64 ha1) ⟨by decide, by decide⟩ ⟨by decide, by decide⟩ (fun _ _ => yes_ ?_) (fun d => absurd ⟨by omega, k2⟩ d)⟩) (fun d => absurd ⟨c1, by have := eR3 110 2 (by decide) (by unfold FR' FR; omega); omega⟩ d)⟩)⟩
  have k31 : κ3 110 31 = μ 31 2 := (eR3 110 31 (by decide) (by unfold FR' FR; omega)).trans d1.symm
  refine c8_remember wf3 (by omega) ?_
  have eR4 := RM_r h eR3
  have o8 : ∀ a i, a < 110 → R8 κ3 a i = κ3 a i := fun a i c => R8_off (by omega) (by omega)
  have wf4 := wf_R wf3 hr.1 eR4 o8
  refine c8_slipBy wf4 eR4 hr c1 (by omega) ⟨by omega, k2⟩ (fun κ5 e5 o5 => ?_)
  have wf5 := wf_R wf4 hp.1 e5 o5
  rw [wf_110_0 wf5, e5 111 a0 (by decide) (by unfold FR' FR; omega)]
  exact ⟨ai_111 c1 (by omega), val.1, val.2, Inv_eq hp (fun a i c => (o5 a i c).trans ((o8 a i c).trans (e3 a i c))) e5⟩
