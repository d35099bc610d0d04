/-! DRIFT, both -/
theorem DY_c {κ ν : Mem} (e : EqC κ ν) : EqC (mu κ 29 0 (κ 29 0 + 1)) (DY ν) := fun k i hk => by
  unfold DY
  rw [mu_off2 (k := 111) (by omega), e 29 0 (by decide)]
  by_cases c : k = 29 ∧ i = 0
  · rw [mu_on2 c.1 c.2, mu_on2 c.1 c.2]
  · rw [mu_off2 c, mu_off2 c]; exact e k i hk
theorem DY_r {κ ν : Mem} (e : EqR κ ν) (h : Inv ν) : EqR (mu κ 111 8 (κ 111 8 + 1)) (DY ν) := fun k i hk hf => by
  unfold DY
  rw [e 111 8 (by decide) (by unfold FR' FR; omega), ← h.2.2.2.1.N.1.1]
  by_cases c : k = 111 ∧ i = 8
  · rw [mu_on2 c.1 c.2, mu_on2 c.1 c.2]
  · rw [mu_off2 c, mu_off2 c, mu_off2 (by omega)]; exact e k i hk hf
theorem st_no {ν : Mem} {i : Nat} (r : dr (stN ν i 0 12) / 65536 % 8 ≠ 0) : stN ν (i + 1) = DY (S1 (stN ν i)) := by
  show stp1 (stN ν i) = _
  unfold stp1
  rw [if_neg r]
theorem st_yes {ν : Mem} {i : Nat} (r : dr (stN ν i 0 12) / 65536 % 8 = 0) : stN ν (i + 1) = DY (PS (S1 (S1 (stN ν i))) (dr (S1 (stN ν i) 0 12) / 65536 % nW (stN ν i)) 1) := by
  show stp1 (stN ν i) = _
  unfold stp1
  rw [if_pos r]
theorem drift7 {G : Gm} {Φ : Fr} {Q : Int → Mem → Prop} (hΦ : St G Φ cX7_drift RX7 3 6 138 0 0) (hR : Rt G Φ (Pi SHl Q) 0 0 (some .int)) {ν κ0 : Mem} {n : Int} (h : Inv ν) (hw : 0 < nW ν) (hd : ν 29 0 ≤ 900000) (hn : 1 ≤ n ∧ n ≤ 99)
    (K : ∀ κ', EqC κ' (stN ν n.toNat) → (∀ a i, 110 ≤ a → κ' a i = κ0 a i) → WF κ' → Q (ν 29 0 + n) κ') : ∀ (m i : Nat) (κ : Mem), (i : Int) + m = n → EqC κ (stN ν i) → (∀ a i, 110 ≤ a → κ a i = κ0 a i) → WF κ → Ex G Φ 3 65 [some (2, 0), some (0, n), some (0, (i : Int))] [] SHl κ 0 0 := by
  intro m
  induction m with
  | zero =>
    intro i κ hi e o wf
    obtain ⟨hv, vn, vd⟩ := stN_inv h hw hd i (by omega)
    refine bX7_drift_65 hΦ hR ⟨⟨by omega, by omega⟩, ⟨by omega, by omega⟩, fun _ => ⟨so_0, ?_⟩, fun c => absurd (by omega) c⟩
    rw [wf_0_5 wf, e 29 0 (by decide), vd, show (i : Int) = n by omega]
    exact ⟨so_29, K κ (by rw [show n.toNat = i by omega]; exact e) o wf⟩
  | succ m ih =>
    intro i κ hi e o wf
    obtain ⟨hv, vn, vd⟩ := stN_inv h hw hd i (by omega)
    obtain ⟨hv', -, -⟩ := stN_inv h hw hd (i + 1) (by omega)
    obtain ⟨h1, n1, d1⟩ := S1_inv hv
    obtain ⟨h2, n2, d2⟩ := S1_inv h1
    have nx : ∀ κ', EqC κ' (stN ν (i + 1)) → (∀ a i, 110 ≤ a → κ' a i = κ a i) → Ex G Φ 3 65 [some (2, 0), some (0, n), some (0, (i : Int) + 1)] [] SHl κ' 0 0 := fun κ' a b => by
      have := ih (i + 1) κ' (by omega) a (fun a i q => (b a i q).trans (o a i q)) (wf_C wf hv'.1 a b)
      rw [show (((i + 1 : Nat)) : Int) = (i : Int) + 1 by omega] at this
      exact this
    refine bX7_drift_65 hΦ hR ⟨⟨by omega, by omega⟩, ⟨by omega, by omega⟩, fun c => absurd c (by omega), fun _ => ⟨so_0, c7_draw e ⟨by decide, by decide⟩ (fun κ1 e1 o1 => ⟨⟨by omega, by omega⟩, fun r0 => ?_, fun r0 => ?_⟩)⟩⟩
    · have wf1 := wf_C wf h1.1 e1 o1
      rw [wf_0_5 wf1]
      refine ⟨so_29, ?_⟩
      rintro m9 e9
      refine nx m9 ?_ (fun a i q => by rw [e9, mu_off2 (by omega)]; exact o1 a i q)
      rw [st_no r0, e9]
      exact DY_c e1
    · have wf1 := wf_C wf h1.1 e1 o1
      have hW1 : wW (S1 (stN ν i)) = 3 ∨ wW (S1 (stN ν i)) = 12 := h1.2.1.1
      have q1 : κ1 0 1 = wW (S1 (stN ν i)) := e1 0 1 (by decide)
      have q2 : κ1 (κ1 0 1) 0 = nW (stN ν i) := by rw [q1, ← n1]; exact e1 _ _ (by omega)
      have hb := hv.nw
      have r0' := Int.emod_nonneg (dr (S1 (stN ν i) 0 12) / 65536) (show nW (stN ν i) ≠ 0 by omega)
      have r1' := Int.emod_lt_of_pos (dr (S1 (stN ν i) 0 12) / 65536) (show 0 < nW (stN ν i) by omega)
      have hp := PS_inv (w := dr (S1 (stN ν i) 0 12) / 65536 % nW (stN ν i)) (n := 1) h2 r0' (by omega)
      refine ⟨by rw [q1]; exact so_W h1.2.1.1, ?_⟩
      rw [q2]
      refine c7_draw e1 ⟨by omega, by omega⟩ (fun κ2 e2 o2 => ?_)
      have wf2 := wf_C wf1 h2.1 e2 o2
      refine c7_push wf2 e2 h2 r0' (show dr (S1 (stN ν i) 0 12) / 65536 % nW (stN ν i) < nW (S1 (S1 (stN ν i))) by omega) ⟨by decide, by decide⟩ (fun κ3 e3 o3 => ?_)
      have wf3 := wf_C wf2 hp.1 e3 o3
      rw [wf_0_5 wf3]
      refine ⟨so_29, ?_⟩
      rintro m14 e14
      refine nx m14 ?_ (fun a i q => by rw [e14, mu_off2 (by omega)]; exact (o3 a i q).trans ((o2 a i q).trans (o1 a i q)))
      rw [st_yes r0, e14]
      exact DY_c e3
theorem drift8 {G : Gm} {Φ : Fr} {Q : Int → Mem → Prop} (hΦ : St G Φ cX8_drift RX8 3 8 190 0 0) (hR : Rt G Φ (Pi SHl Q) 0 0 (some .int)) {ν κ0 : Mem} {n : Int} (h : Inv ν) (hw : 0 < nW ν) (hd : ν 29 0 ≤ 900000) (hn : 1 ≤ n ∧ n ≤ 99)
    (K : ∀ κ', EqR κ' (stN ν n.toNat) → (∀ a i, a < 110 → κ' a i = κ0 a i) → Q (ν 29 0 + n) κ') : ∀ (m i : Nat) (κ : Mem), (i : Int) + m = n → EqR κ (stN ν i) → (∀ a i, a < 110 → κ a i = κ0 a i) → WF κ → Ex G Φ 3 59 [some (2, 110), some (0, n), some (0, (i : Int))] [] SHl κ 0 0 := by
  intro m
  induction m with
  | zero =>
    intro i κ hi e o wf
    obtain ⟨hv, vn, vd⟩ := stN_inv h hw hd i (by omega)
    refine bX8_drift_59 hΦ hR ⟨⟨by omega, by omega⟩, ⟨by omega, by omega⟩, fun _ => ⟨so_110, ?_⟩, fun c => absurd (by omega) c⟩
    rw [wf_110_0 wf, e 111 8 (by decide) (by unfold FR' FR; omega), ← hv.2.2.2.1.N.1.1, vd, show (i : Int) = n by omega]
    exact ⟨ai_111 (by decide) (by decide), K κ (by rw [show n.toNat = i by omega]; exact e) o⟩
  | succ m ih =>
    intro i κ hi e o wf
    obtain ⟨hv, vn, vd⟩ := stN_inv h hw hd i (by omega)
    obtain ⟨hv', -, -⟩ := stN_inv h hw hd (i + 1) (by omega)
    obtain ⟨h1, n1, d1⟩ := S1_inv hv
    obtain ⟨h2, n2, d2⟩ := S1_inv h1
    have nx : ∀ κ', EqR κ' (stN ν (i + 1)) → (∀ a i, a < 110 → κ' a i = κ a i) → Ex G Φ 3 59 [some (2, 110), some (0, n), some (0, (i : Int) + 1)] [] SHl κ' 0 0 := fun κ' a b => by
      have := ih (i + 1) κ' (by omega) a (fun a i q => (b a i q).trans (o a i q)) (wf_R wf hv'.1 a b)
      rw [show (((i + 1 : Nat)) : Int) = (i : Int) + 1 by omega] at this
      exact this
    refine bX8_drift_59 hΦ hR ⟨⟨by omega, by omega⟩, ⟨by omega, by omega⟩, fun c => absurd c (by omega), fun _ => ⟨so_110, c8_draw wf e hv ⟨by decide, by decide⟩ (fun κ1 e1 o1 => ⟨⟨by omega, by omega⟩, fun r0 => ?_, fun r0 => ?_⟩)⟩⟩
    · have wf1 := wf_R wf h1.1 e1 o1
      rw [wf_110_0 wf1]
      refine ⟨ai_111 (by decide) (by decide), ?_⟩
      rintro m9 e9
      refine nx m9 ?_ (fun a i q => by rw [e9, mu_off2 (by omega)]; exact o1 a i q)
      rw [st_no r0, e9]
      exact DY_r e1 h1
    · have wf1 := wf_R wf h1.1 e1 o1
      have q2 : κ1 110 2 = nW (stN ν i) := by rw [← n1, e1 110 2 (by decide) (by unfold FR' FR; omega)]; exact h1.nw.1.symm
      have hb := hv.nw
      have r0' := Int.emod_nonneg (dr (S1 (stN ν i) 0 12) / 65536) (show nW (stN ν i) ≠ 0 by omega)
      have r1' := Int.emod_lt_of_pos (dr (S1 (stN ν i) 0 12) / 65536) (show 0 < nW (stN ν i) by omega)
      have hp := PS_inv (w := dr (S1 (stN ν i) 0 12) / 65536 % nW (stN ν i)) (n := 1) h2 r0' (by omega)
      rw [q2]
      refine c8_draw wf1 e1 h1 ⟨by omega, by omega⟩ (fun κ2 e2 o2 => ?_)
      have wf2 := wf_R wf1 h2.1 e2 o2
      refine c8_slipBy wf2 e2 h2 r0' (show dr (S1 (stN ν i) 0 12) / 65536 % nW (stN ν i) < nW (S1 (S1 (stN ν i))) by omega) ⟨by decide, by decide⟩ (fun κ3 e3 o3 => ?_)
      have wf3 := wf_R wf2 hp.1 e3 o3
      rw [wf_110_0 wf3]
      refine ⟨ai_111 (by decide) (by decide), ?_⟩
      rintro m14 e14
      refine nx m14 ?_ (fun a i q => by rw [e14, mu_off2 (by omega)]; exact (o3 a i q).trans ((o2 a i q).trans (o1 a i q)))
      rw [st_yes r0, e14]
      exact DY_r e3 hp
theorem st_drift {G : Gm} {μ : Mem} {a0 : Int} (h : Inv μ) (ha0 : R32 a0) : Both G mX7_drift mX8_drift [(0, a0)] μ := by
  have h' := h
  obtain ⟨wf, iw, ir, inn, idd, ii, il, im⟩ := h'
  have hnW := iw.2.2.1
  have hW : wW μ = 3 ∨ wW μ = 12 := iw.1
  obtain ⟨⟨m1, m2, m3⟩, ⟨m4, m5, m6⟩, m7⟩ := inn.N
  have b := RS_b im.1
  have idd' := idd
  obtain ⟨⟨d1, d2, d3⟩, ⟨d4, d5⟩, d6⟩ := idd'
  have out : ¬ (1 ≤ a0 ∧ a0 ≤ 99) → Ci G mX8_drift [(2, 110), (0, a0)] SHl μ (fun r' μ2 => -1000000002 = r' ∧ R32 (-1000000002) ∧ Inv μ2) := fun c =>
    eX8_drift (fun Φ hΦ hR => bX8_drift_0 hΦ hR ⟨ha0, c_m_in (r64 ha0) ⟨by decide, by decide⟩ ⟨by decide, by decide⟩ (fun c1 c2 => absurd ⟨c1, c2⟩ c) (fun _ => no_ ⟨rfl, by decide, h⟩)⟩)
  refine eX7_drift (fun Φ hΦ hR => bX7_drift_0 hΦ hR ⟨ha0, fun c => out (by omega), fun c => ⟨fun c1 => ⟨so_0, ?_⟩, fun c1 => out (by omega)⟩⟩)
  have c0 : 1 ≤ a0 := by omega
  rw [wf_0_3 wf, wf_0_5 wf, wf_0_6 wf]
  have e8 : ∀ κ κ', EqR κ μ → RG κ μ κ' → κ' 111 8 = μ 29 0 := fun κ κ' ek rg => ((rg.eq ek) 111 8 (by decide) (by unfold FR' FR; omega)).trans m1.symm
  have e2 : ∀ κ κ', EqR κ μ → RG κ μ κ' → κ' 110 2 = nW μ := fun κ κ' ek rg => ((rg.eq ek) 110 2 (by decide) (by unfold FR' FR; omega)).trans hnW.1.symm
  have r5 : R32 (μ 21 5) := by rcases b with e | e <;> rw [e] <;> exact ⟨by decide, by decide⟩
  have rnI : ∀ κ', RG μ μ κ' → Inv κ' := fun κ' rg => RN_inv h rg
  refine ⟨so_21, r5, fun q => ?_, fun q => ⟨so_W iw.1, ⟨?_, ?_⟩, fun qn => ⟨so_29, ⟨by omega, by omega⟩, fun q2 => ⟨so_31, ?_⟩, fun q2 => ?_⟩, fun qn => ?_⟩⟩
  · refine eX8_drift (fun Φ hΦ hR => bX8_drift_0 hΦ hR ⟨ha0, c_m_in (r64 ha0) ⟨by decide, by decide⟩ ⟨by decide, by decide⟩ (fun _ _ => yes_ ⟨so_110, c8_ratesG wf EqR.rf iw inn.c im (fun κ' rg => ?_)⟩) (fun d => absurd ⟨c0, c1⟩ d)⟩)
    rw [rg.2.2]
    exact ⟨r5, fun _ => ⟨rfl, by decide, rnI κ' rg⟩, fun f => absurd f q⟩
  · show _ ≤ nW μ; omega
  · show nW μ ≤ _; omega
  · have qn : nW μ ≠ 0 := qn
    refine c0_remember wf ⟨d4, d5⟩ ⟨d2, d3⟩ ?_
    have hr := RM_inv h
    obtain ⟨rw1, rn1⟩ := RM_W h
    have eC := RM_c h EqC.rf
    have o7 : ∀ a i, 110 ≤ a → R7 μ a i = μ a i := fun a i c => R7_off ⟨d4, d5⟩ (by omega)
    have wf7 := wf_C wf hr.1 eC o7
    have rd : RM μ 29 0 = μ 29 0 := by rw [← eC 29 0 (by decide)]; exact R7_off ⟨d4, d5⟩ (by omega)
    have := drift7 (ν := RM μ) (κ0 := μ) hΦ hR hr (by omega) (by omega) ⟨c0, c1⟩ (fun κ1 e1 o1 wf1 => ?_) a0.toNat 0 (R7 μ) (by omega) eC o7 wf7
    · exact this
    have eR1 : EqR κ1 μ := fun a i k0 _ => o1 a i k0
    refine eX8_drift (fun Φ hΦ hR => bX8_drift_0 hΦ hR ⟨ha0, c_m_in (r64 ha0) ⟨by decide, by decide⟩ ⟨by decide, by decide⟩ (fun _ _ => yes_ ⟨so_110, c8_ratesG wf1 eR1 iw inn.c im (fun κ2 rg => ?_)⟩) (fun d => absurd ⟨c0, c1⟩ d)⟩)
    have wf2 := off_wf' wf1 rg.1
    rw [rg.2.2, e2 κ1 κ2 eR1 rg, wf_110_0 wf2, e8 κ1 κ2 eR1 rg]
    refine ⟨r5, fun f => absurd q f, fun _ => ⟨⟨by omega, by omega⟩, fun _ => ⟨ai_111 (by decide) (by decide), ⟨by omega, by omega⟩, fun _ => ?_, fun f => absurd q2 f⟩, fun f => absurd f qn⟩⟩
    have eR2 := rg.eq eR1
    have k31 : κ2 110 31 = μ 31 2 := (eR2 110 31 (by decide) (by unfold FR' FR; omega)).trans d1.symm
    refine c8_remember wf2 (by omega) ?_
    have eR3 := RM_r h eR2
    have o8 : ∀ a i, a < 110 → R8 κ2 a i = κ2 a i := fun a i c => R8_off (by omega) (by omega)
    have wf3 := wf_R wf2 hr.1 eR3 o8
    obtain ⟨hN, nN, dN⟩ := stN_inv hr (by omega) (by omega) a0.toNat (by omega)
    have := drift8 (ν := RM μ) (κ0 := κ2) hΦ hR hr (by omega) (by omega) ⟨c0, c1⟩ (fun κ4 e4 o4 => ?_) a0.toNat 0 (R8 κ2) (by omega) eR3 o8 wf3
    · exact this
    refine ⟨rfl, ⟨by omega, by omega⟩, Inv_eq hN (fun k i hk => ?_) e4⟩
    rw [o4 k i hk, rg.1 k i (by unfold FR' FR; omega)]
    exact e1 k i hk
  · refine eX8_drift (fun Φ hΦ hR => bX8_drift_0 hΦ hR ⟨ha0, c_m_in (r64 ha0) ⟨by decide, by decide⟩ ⟨by decide, by decide⟩ (fun _ _ => yes_ ⟨so_110, c8_ratesG wf EqR.rf iw inn.c im (fun κ' rg => ?_)⟩) (fun d => absurd ⟨c0, c1⟩ d)⟩)
    have wf' := off_wf' wf rg.1
    rw [rg.2.2, e2 μ κ' EqR.rf rg, wf_110_0 wf', e8 μ κ' EqR.rf rg]
    exact ⟨r5, fun f => absurd q f, fun _ => ⟨⟨by omega, by omega⟩, fun _ => ⟨ai_111 (by decide) (by decide), ⟨by omega, by omega⟩, fun f => absurd f q2, fun _ => ⟨rfl, by decide, rnI κ' rg⟩⟩, fun f => absurd f qn⟩⟩
  · have qn : nW μ = 0 := qn
    refine eX8_drift (fun Φ hΦ hR => bX8_drift_0 hΦ hR ⟨ha0, c_m_in (r64 ha0) ⟨by decide, by decide⟩ ⟨by decide, by decide⟩ (fun _ _ => yes_ ⟨so_110, c8_ratesG wf EqR.rf iw inn.c im (fun κ' rg => ?_)⟩) (fun d => absurd ⟨c0, c1⟩ d)⟩)
    rw [rg.2.2, e2 μ κ' EqR.rf rg]
    exact ⟨r5, fun f => absurd q f, fun _ => ⟨⟨by omega, by omega⟩, fun f => absurd qn f, fun _ => ⟨rfl, by decide, rnI κ' rg⟩⟩⟩
