/-! driven, feasts, clauses: the class -/
def drvM (κ : Mem) (W w r : Int) : Mem := mu (mu (mu κ W 3 w) W 4 r) 1 5 1
def feaM (κ : Mem) (W c w pl : Int) : Mem := mu (mu (mu κ (W + 7) c w) (W + 8) c pl) W 2 (c + 1)
theorem drvM_off {κ : Mem} {W w r k i : Int} (d1 : ¬ (k = W ∧ (i = 3 ∨ i = 4))) (d2 : ¬ (k = 1 ∧ i = 5)) : drvM κ W w r k i = κ k i := by
  unfold drvM
  rw [mu_off2 d2, mu_off2 (by omega), mu_off2 (by omega)]
theorem feaM_off {κ : Mem} {W c w pl k i : Int} (d1 : ¬ (W + 7 ≤ k ∧ k ≤ W + 8 ∧ i = c)) (d2 : ¬ (k = W ∧ i = 2)) : feaM κ W c w pl k i = κ k i := by
  unfold feaM
  rw [mu_off2 d2, mu_off2 (by omega), mu_off2 (by omega)]
theorem drvM_fc {κ : Mem} {W w r : Int} : Off (FC W) κ (drvM κ W w r) := fun k i d => drvM_off (by unfold FC at d; omega) (by unfold FC at d; omega)
theorem feaM_fc {κ : Mem} {W c w pl : Int} : Off (FC W) κ (feaM κ W c w pl) := fun k i d => feaM_off (by unfold FC at d; omega) (by unfold FC at d; omega)
theorem drvM_cs {T : Int → Int} {n b W w r : Int} {q : Int × Int} {κ : Mem} (hW : isW W) (h : CS T n b q κ) : CS T n b q (drvM κ W w r) := by
  have hW' : W = 3 ∨ W = 12 := hW
  exact CS.fc hW h (fun k i d => drvM_off (by unfold dF at d; omega) (by unfold dF at d; omega))
theorem feaM_cs {T : Int → Int} {n b W c w pl : Int} {q : Int × Int} {κ : Mem} (hW : isW W) (h : CS T n b q κ) : CS T n b q (feaM κ W c w pl) := by
  have hW' : W = 3 ∨ W = 12 := hW
  exact CS.fc hW h (fun k i d => feaM_off (by unfold dF at d; omega) (by unfold dF at d; omega))
theorem cg_drv {T : Int → Int} {n p W v1 v2 : Int} {g κ : Mem} (hW : isW W) (cg : CG W g κ) (y1 : v1 = numV T n (p + 1)) (y2 : v2 = numV T n (drvA T n g p)) : CG W (drvG T n g p) (drvM κ W v1 v2) := by
  have hW' : W = 3 ∨ W = 12 := hW
  obtain ⟨x1, x2, x3, x4, x5⟩ := cg
  have wg : ∀ k i, ¬ (k = 0 ∧ 3 ≤ i ∧ i ≤ 5) → drvG T n g p k i = g k i := fun k i d1 => by unfold drvG; rw [mu_off2 (by omega), mu_off2 (by omega), mu_off2 (by omega)]
  have e3 : drvG T n g p 0 3 = numV T n (p + 1) := by unfold drvG; rw [mu_off2 (by omega), mu_off2 (by omega), mu_same]
  have e4 : drvG T n g p 0 4 = numV T n (drvA T n g p) := by unfold drvG; rw [mu_off2 (by omega), mu_same]
  have e5 : drvG T n g p 0 5 = 1 := by unfold drvG; rw [mu_same]
  have f3 : drvM κ W v1 v2 W 3 = v1 := by unfold drvM; rw [mu_off2 (by omega), mu_off2 (by omega), mu_same]
  have f4 : drvM κ W v1 v2 W 4 = v2 := by unfold drvM; rw [mu_off2 (by omega), mu_same]
  have f5 : drvM κ W v1 v2 1 5 = 1 := by unfold drvM; rw [mu_same]
  refine ⟨fun i i0 i1 => ?_, by rw [f5, e5], fun i i0 i1 => ?_, fun l l0 l1 => ?_, fun f f0 f1 => ?_⟩
  · by_cases z : i = 3
    · rw [z, f3, e3, y1]
    · by_cases z4 : i = 4
      · rw [z4, f4, e4, y2]
      · rw [wg 0 i (by omega), drvM_off (by omega) (by omega)]; exact x1 i i0 i1
  · rw [wg 0 0 (by omega)] at i1
    rw [wg 1 i (by omega), wg 2 i (by omega), drvM_off (by omega) (by omega), drvM_off (by omega) (by omega)]; exact x3 i i0 i1
  · rw [wg 0 1 (by omega)] at l1
    rw [wg 3 l (by omega), wg 4 l (by omega), wg 5 l (by omega), wg 6 l (by omega), drvM_off (by omega) (by omega), drvM_off (by omega) (by omega), drvM_off (by omega) (by omega), drvM_off (by omega) (by omega)]; exact x4 l l0 l1
  · rw [wg 0 2 (by omega)] at f1
    rw [wg 7 f (by omega), wg 8 f (by omega), drvM_off (by omega) (by omega), drvM_off (by omega) (by omega)]; exact x5 f f0 f1
theorem cg_fea {T : Int → Int} {n p W v1 v2 : Int} {g κ : Mem} (hW : isW W) (cg : CG W g κ) (y1 : v1 = numV T n (p + 1)) (y2 : v2 = numV T n (drvA T n g p)) : CG W (feaG T n g p) (feaM κ W (g 0 2) v1 v2) := by
  have hW' : W = 3 ∨ W = 12 := hW
  obtain ⟨x1, x2, x3, x4, x5⟩ := cg
  have wg : ∀ k i, ¬ (k = 0 ∧ i = 2) → ¬ (7 ≤ k ∧ k ≤ 8 ∧ i = g 0 2) → feaG T n g p k i = g k i := fun k i d1 d2 => by unfold feaG; rw [mu_off2 d1, mu_off2 (by omega), mu_off2 (by omega)]
  have e2 : feaG T n g p 0 2 = g 0 2 + 1 := by unfold feaG; rw [mu_same]
  refine ⟨fun i i0 i1 => ?_, ?_, fun i i0 i1 => ?_, fun l l0 l1 => ?_, fun f f0 f1 => ?_⟩
  · by_cases z : i = 2
    · rw [z, e2]; unfold feaM; rw [mu_same]
    · rw [wg 0 i (by omega) (by omega), feaM_off (by omega) (by omega)]; exact x1 i i0 i1
  · rw [wg 0 5 (by omega) (by omega), feaM_off (by omega) (by omega)]; exact x2
  · rw [wg 0 0 (by omega) (by omega)] at i1
    rw [wg 1 i (by omega) (by omega), wg 2 i (by omega) (by omega), feaM_off (by omega) (by omega), feaM_off (by omega) (by omega)]; exact x3 i i0 i1
  · rw [wg 0 1 (by omega) (by omega)] at l1
    rw [wg 3 l (by omega) (by omega), wg 4 l (by omega) (by omega), wg 5 l (by omega) (by omega), wg 6 l (by omega) (by omega), feaM_off (by omega) (by omega), feaM_off (by omega) (by omega), feaM_off (by omega) (by omega), feaM_off (by omega) (by omega)]; exact x4 l l0 l1
  · rw [e2] at f1
    by_cases z : f = g 0 2
    · have t7 : feaG T n g p 7 f = numV T n (p + 1) := by unfold feaG; rw [mu_off2 (by omega), mu_off2 (by omega), mu_on2 rfl z]
      have t8 : feaG T n g p 8 f = numV T n (drvA T n g p) := by unfold feaG; rw [mu_off2 (by omega), mu_on2 rfl z]
      have s7 : feaM κ W (g 0 2) v1 v2 (W + 7) f = v1 := by unfold feaM; rw [mu_off2 (by omega), mu_off2 (by omega), mu_on2 rfl z]
      have s8 : feaM κ W (g 0 2) v1 v2 (W + 8) f = v2 := by unfold feaM; rw [mu_off2 (by omega), mu_on2 rfl z]
      rw [t7, t8, s7, s8]
      exact ⟨y1, y2⟩
    · rw [wg 7 f (by omega) (by omega), wg 8 f (by omega) (by omega), feaM_off (by omega) (by omega), feaM_off (by omega) (by omega)]; exact x5 f f0 (by omega)
theorem c6_addFeast {G : Gm} {Q : Mem → Prop} {κ : Mem} {W c v1 v2 : Int} (wf : WF κ) (hW : isW W) (k1 : κ W 2 = c) (c0 : 0 ≤ c) (c1 : c < 6) (q : Q (feaM κ W c v1 v2)) : Cv G mX6_addFeast [(2, W), (0, v1), (0, v2)] SHl κ Q := by
  have hW' : W = 3 ∨ W = 12 := hW
  refine eX6_addFeast (fun Φ2 hΦ2 hR2 => bX6_addFeast_0 hΦ2 hR2 ⟨so_W hW, ?_⟩)
  rw [wf_W11 wf hW, k1]
  refine ⟨ai_W7 hW c0 c1, ?_⟩
  rintro m3 e3
  rw [show m3 W 12 = W + 8 by rw [e3, mu_off2 (by omega)]; exact wf_W12 wf hW, show m3 W 2 = c by rw [e3, mu_off2 (by omega)]; exact k1]
  refine ⟨ai_W8 hW c0 c1, ?_⟩
  rintro m5 e5
  rw [show m5 W 2 = c by rw [e5, e3, mu_off2 (by omega), mu_off2 (by omega)]; exact k1]
  rintro m6 e6
  rw [e6, e5, e3]
  exact q
theorem c4_readDriven {G : Gm} {T : Int → Int} {n p W : Int} {g κ : Mem} {Q : Mem → Prop} (hW : isW W) (cs : CS T n 250 (0, p) κ) (cg : CG W g κ) (gr : GR g) (q : ∀ κ', Off (FC W) κ κ' → CS T n 255 (bnd (drvP T n g p) (pend T n)) κ' → ((bnd (drvP T n g p) (pend T n)).1 = 0 → CG W (drvG T n g p) κ') → Q κ') : Cv G mX4_readDriven [(2, 1), (2, W)] SHl κ Q := by
  have hW' : W = 3 ∨ W = 12 := hW
  have g1 := gr.1
  have g5 := gr.2.2.2.2.2.1
  refine eX4_readDriven (fun Φ hΦ hR => bX4_readDriven_0 hΦ hR ⟨so_1, ?_⟩)
  rw [cg.2.1]
  refine c4_passWord cs (by omega) (fun κ2 o2 cs2 => ⟨so_W hW, ?_⟩)
  have e2 : (if g 0 5 = 0 then ((0 : Int), p + 1) else (3, p)) = wrd (g 0 5 ≠ 0) p := by
    unfold wrd
    by_cases c : g 0 5 = 0
    · rw [if_pos c, if_neg (by omega)]
    · rw [if_neg c, if_pos c]
  rw [e2] at cs2
  rw [show κ2 W 0 = g 0 0 from (o2 _ _ (by unfold FRd; omega)).trans (cg.1 0 (by decide) (by decide))]
  refine c4_readNumber cs2 ⟨by decide, by decide⟩ ⟨by decide, by decide⟩ ⟨by omega, by omega⟩ (fun v1 κ4 o4 cs4 v1r v1e _ => c4_readNumber cs4 ⟨by decide, by decide⟩ ⟨by decide, by decide⟩ ⟨by decide, by decide⟩ (fun v2 κ5 o5 cs5 v2r v2e _ => c4_passEnd cs5 ⟨by decide, by decide⟩ (fun κ6 o6 cs6 => ?_)))
  have o : Off FRd κ κ6 := ((o2.tr o4).tr o5).tr o6
  have r6 := cs6.r6
  have cg6 := cg.off hW o
  have ok : CS T n 255 (bnd (drvP T n g p) (pend T n)) κ6 := ⟨cs6.1, ⟨cs6.2.1.1, by have := cs6.2.1.2; omega⟩, cs6.2.2⟩
  refine ⟨⟨by omega, by omega⟩, fun c => q κ6 o.fc ok (fun z => absurd (r6.2.2.mpr z) c), fun c => ?_⟩
  have z6 := r6.2.2.mp c
  have z5 := (bnd_z z6).1
  obtain ⟨c1, -, -, c6⟩ := drv_0 (g := g) z5
  have e1 : v1 = numV T n (p + 1) := by
    have := v1e (by rw [c6])
    rw [(wrd_0 (bnd_z (show (bnd (wrd (g 0 5 ≠ 0) p) (pnum T n 0 (g 0 0 - 1))).1 = 0 by rw [c6])).1).2] at this
    exact this
  have e2' : v2 = numV T n (drvA T n g p) := by
    have := v2e z5
    rw [c6] at this; exact this
  rintro m8 e8 m9 e9 m10 e10
  rw [e10, e9, e8]
  exact q _ (o.fc.tr drvM_fc) (drvM_cs hW ok) (fun _ => cg_drv hW cg6 e1 e2')
theorem c4_readFeast {G : Gm} {T : Int → Int} {n p W : Int} {g κ : Mem} {Q : Mem → Prop} (hW : isW W) (cs : CS T n 250 (0, p) κ) (cg : CG W g κ) (gr : GR g) (q : ∀ κ', Off (FC W) κ κ' → CS T n 255 (bnd (feaP T n g p) (pend T n)) κ' → ((bnd (feaP T n g p) (pend T n)).1 = 0 → CG W (feaG T n g p) κ') → Q κ') : Cv G mX4_readFeast [(2, 1), (2, W)] SHl κ Q := by
  have hW' : W = 3 ∨ W = 12 := hW
  have n2 := cg.1 2 (by decide) (by decide)
  have g1 := gr.1
  have g3 := gr.2.2.1
  have g7 := gr.2.2.2.2.2.2.1
  refine eX4_readFeast (fun Φ hΦ hR => bX4_readFeast_0 hΦ hR ⟨so_1, so_W hW, ?_⟩)
  rw [n2]
  have go : ∀ t, (t = 0 ∨ t = 1) → (t = 0 ↔ ¬ 6 ≤ g 0 2) → Ex G Φ 4 15 [some (2, 1), some (2, W), none, none] [(0, t), (2, 1)] SHl κ 0 0 := fun t ht tt => by
    refine bX4_readFeast_15 hΦ hR ⟨so_1, c4_passWord cs ht (fun κ2 o2 cs2 => ⟨so_1, so_W hW, ?_⟩)⟩
    have e2 : (if t = 0 then ((0 : Int), p + 1) else (3, p)) = wrd (6 ≤ g 0 2) p := by
      unfold wrd
      by_cases c : 6 ≤ g 0 2
      · rw [if_pos c, if_neg (by omega)]
      · rw [if_neg c, if_pos (by omega)]
    rw [e2] at cs2
    rw [show κ2 W 0 = g 0 0 from (o2 _ _ (by unfold FRd; omega)).trans (cg.1 0 (by decide) (by decide))]
    refine c4_readNumber cs2 ⟨by decide, by decide⟩ ⟨by decide, by decide⟩ ⟨by omega, by omega⟩ (fun v1 κ5 o5 cs5 v1r v1e _ => c4_readNumber cs5 ⟨by decide, by decide⟩ ⟨by decide, by decide⟩ ⟨by decide, by decide⟩ (fun v2 κ6 o6 cs6 v2r v2e v24 => ?_))
    have o : Off FRd κ κ6 := (o2.tr o5).tr o6
    have r6 := cs6.r6
    have cg6 := cg.off hW o
    -- how it ends, once the last check is done
    have fin : ∀ κ7, Off FRd κ6 κ7 → CS T n 251 (feaP T n g p) κ7 → Cv G mX4_passEnd [(2, 1)] SHl κ7 (fun μ8 => R32 (μ8 1 6) ∧ (((μ8 1 6) ≠ 0 → Q μ8) ∧ ((μ8 1 6) = 0 → Cv G mX6_addFeast [(2, W), (0, v1), (0, v2)] SHl μ8 (fun μ10 => Q μ10)))) := fun κ7 o7 cs7 =>
      c4_passEnd cs7 ⟨by decide, by decide⟩ (fun κ8 o8 cs8 => by
        have o' : Off FRd κ κ8 := (o.tr o7).tr o8
        have r8 := cs8.r6
        have cg8 := cg.off hW o'
        have ok : CS T n 255 (bnd (feaP T n g p) (pend T n)) κ8 := ⟨cs8.1, ⟨cs8.2.1.1, by have := cs8.2.1.2; omega⟩, cs8.2.2⟩
        refine ⟨⟨by omega, by omega⟩, fun c => q κ8 o'.fc ok (fun z => absurd (r8.2.2.mpr z) c), fun c => ?_⟩
        have z8 := r8.2.2.mp c
        obtain ⟨h1, lt⟩ := fea_0 (bnd_z z8).1
        obtain ⟨c1, -, -, c6⟩ := fea_1 h1
        have e1 : v1 = numV T n (p + 1) := by
          have := v1e (by rw [c6])
          rw [(wrd_0 (bnd_z (show (bnd (wrd (6 ≤ g 0 2) p) (pnum T n 0 (g 0 0 - 1))).1 = 0 by rw [c6])).1).2] at this
          exact this
        have e2' : v2 = numV T n (drvA T n g p) := by
          have := v2e h1
          rw [c6] at this; exact this
        exact c6_addFeast cs8.1.1 hW (cg8.1 2 (by decide) (by decide)) g3.1 c1 (q _ (o'.fc.tr feaM_fc) (feaM_cs hW ok) (fun _ => cg_fea hW cg8 e1 e2')))
    refine ⟨⟨by omega, by omega⟩, fun c => fin κ6 Off.rf ?_, fun c => ?_⟩
    · have z : (bnd (bnd (wrd (6 ≤ g 0 2) p) (pnum T n 0 (g 0 0 - 1))) (pnum T n 0 29)).1 ≠ 0 := fun z => c (r6.2.2.mpr z)
      unfold feaP
      rw [bnd_1 z]; exact cs6
    · have z := r6.2.2.mp c
      obtain ⟨c1, ⟨c2, c3⟩, ⟨c4, c5⟩, c6⟩ := fea_1 (g := g) z
      have e1 : v1 = numV T n (p + 1) := by
        have := v1e (by rw [c6])
        rw [(wrd_0 (bnd_z (show (bnd (wrd (6 ≤ g 0 2) p) (pnum T n 0 (g 0 0 - 1))).1 = 0 by rw [c6])).1).2] at this
        exact this
      have e2' : v2 = numV T n (drvA T n g p) := by
        have := v2e z
        rw [c6] at this; exact this
      have e4 : κ6 1 4 = skp T n (drvA T n g p) := by
        have := v24 (by rw [c6])
        rw [c6] at this; exact this
      have tv := cg6.2.2.1 v1 (by omega) (by omega)
      have tr := g7 v1 (by omega) (by omega)
      rw [wf_W5 cs6.1.1 hW, tv.1]
      refine ⟨ai_W1 hW (by omega) (by omega), ⟨by omega, by omega⟩, ⟨by omega, by omega⟩, fun d => fin κ6 Off.rf ?_, fun d => ?_⟩
      · unfold feaP
        rw [bnd_cong (g := fun c => (0, c)) (fun _ => ?_), bnd_eta]
        · exact cs6
        · unfold feaE; rw [← e1, ← e2', if_neg (by omega)]
      · obtain ⟨a, o', -, -⟩ := cs_fail (m := 4) (p := κ6 1 4) cs6 ⟨by decide, by decide⟩
        refine c4_fail ⟨by omega, by omega⟩ (fin _ o' ?_)
        unfold feaP
        rw [bnd_cong (g := fun _ => (4, κ6 1 4)) (fun _ => ?_)]
        · exact a
        · unfold feaE; rw [← e1, ← e2', if_pos (by omega), e4]
  refine ⟨⟨by omega, by omega⟩, fun c => go 0 (Or.inl rfl) ⟨fun _ => by omega, fun _ => rfl⟩, fun c => go 1 (Or.inr rfl) ⟨fun e => absurd e (by decide), fun e => by omega⟩⟩
theorem c4_readClause {G : Gm} {T : Int → Int} {n p W : Int} {g κ : Mem} {Q : Mem → Prop} (hW : isW W) (cs : CS T n 250 (0, p) κ) (cg : CG W g κ) (gr : GR g) (tr : 0 ≤ T p ∧ T p ≤ 255) (q : ∀ κ', Off (FC W) κ κ' → CS T n 255 (bnd (clP T n g p) (pend T n)) κ' → ((bnd (clP T n g p) (pend T n)).1 = 0 → CG W (clG T n g p) κ') → Q κ') : Cv G mX4_readClause [(2, 1), (0, T p), (2, W)] SHl κ Q := by
  refine eX4_readClause (fun Φ hΦ hR => bX4_readClause_0 hΦ hR ⟨⟨by omega, by omega⟩, fun c1 => ⟨fun c2 => ⟨fun c3 => ⟨fun c4 => ⟨so_1, ?_⟩, fun c4 => ⟨so_1, so_W hW, c4_readFeast hW cs cg gr (fun κ' o s z => q κ' o ?_ ?_)⟩⟩, fun c3 => ⟨so_1, so_W hW, c4_readDriven hW cs cg gr (fun κ' o s z => q κ' o ?_ ?_)⟩⟩, fun c2 => ⟨so_1, so_W hW, c4_readLink hW cs cg gr (fun κ' o s z => q κ' o ?_ ?_)⟩⟩, fun c1 => ⟨so_1, so_W hW, c4_readWheel hW cs cg gr (fun κ' o s z => q κ' o ?_ ?_)⟩⟩)
  · have r6 := cs.r6
    have e3 : κ 1 3 = p := (cs.2.2.1 rfl).2.1
    obtain ⟨a, o, -, -⟩ := cs_fail (m := 1) (p := κ 1 3) cs ⟨by decide, by decide⟩
    have e : bnd (clP T n g p) (pend T n) = (1, p) := by
      unfold clP
      rw [if_neg c1, if_neg c2, if_neg c3, if_neg c4, bnd_1 (show (1 : Int) ≠ 0 by decide)]
    refine c4_fail ⟨by omega, by omega⟩ (q _ o.fc ?_ (fun z => by rw [e] at z; exact absurd z (show ¬ (1 : Int) = 0 by decide)))
    rw [e]
    rw [bnd_0 rfl, e3] at a
    rw [e3]
    exact ⟨a.1, ⟨a.2.1.1, by have := a.2.1.2; omega⟩, a.2.2⟩
  · unfold clP; rw [if_neg c1, if_neg c2, if_neg c3, if_pos c4]; exact s
  · unfold clP clG; rw [if_neg c1, if_neg c2, if_neg c3, if_pos c4, if_neg c1, if_neg c2, if_neg c3, if_pos c4]; exact z
  · unfold clP; rw [if_neg c1, if_neg c2, if_pos c3]; exact s
  · unfold clP clG; rw [if_neg c1, if_neg c2, if_pos c3, if_neg c1, if_neg c2, if_pos c3]; exact z
  · unfold clP; rw [if_neg c1, if_pos c2]; exact s
  · unfold clP clG; rw [if_neg c1, if_pos c2, if_neg c1, if_pos c2]; exact z
  · unfold clP; rw [if_pos c1]; exact s
  · unfold clP clG; rw [if_pos c1, if_pos c1]; exact z
