/-! driven, feasts, clauses: the reference -/
theorem c8_takeDriven {G : Gm} {T : Int → Int} {n p : Int} {g κ : Mem} {Q : Mem → Prop} (h : R8s T n (0, p + 1) κ) (rg : G8 g κ) (gr : GR g) (p0 : 0 ≤ p) (p1 : p < n) (q : ∀ κ', Off FN κ κ' → R8s T n (drvP T n g p) κ' → ((drvP T n g p).1 = 0 → G8 (drvG T n g p) κ') → Q κ') : Cv G mX8_takeDriven [(2, 110), (0, p)] SHl κ Q := by
  have hn := h.1.2.2.1
  have g1 := gr.1
  have g6 := gr.2.2.2.2.2.1
  refine eX8_takeDriven (fun Φ hΦ hR => bX8_takeDriven_0 hΦ hR ⟨so_110, ?_⟩)
  rw [rg.1.2.2.2.2.2]
  refine ⟨⟨by omega, by omega⟩, fun c => bX8_takeDriven_13 hΦ hR ⟨so_110, c8_wantN h ⟨by decide, by decide⟩ (fun κ2 o2 _ h2 => ⟨R32_0, fun _ => ?_, fun e => absurd rfl e⟩)⟩, fun c => bX8_takeDriven_13 hΦ hR ⟨so_110, c8_wantY h R32_1 (by decide) (fun _ => ⟨R32_1, fun e => absurd e (by decide), fun _ => ⟨so_110, ?_⟩⟩) (fun e => absurd rfl e)⟩⟩
  · have e : drvP T n g p = (3, p) := by
      unfold drvP wrd
      rw [if_pos c, bnd_1 (r := (3, p)) (show (3 : Int) ≠ 0 by decide), bnd_1 (show (3 : Int) ≠ 0 by decide)]
    rw [bnd_0 rfl] at h2
    exact q κ2 o2.fn (by rw [e]; exact h2) (fun z => by rw [e] at z; exact absurd z (show ¬ (3 : Int) = 0 by decide))
  · rintro m5 e5
    have h5 : R8s T n (0, p + 1) m5 := h.w (fun k i c => by rw [e5, mu_off2 (by omega)])
    rw [show m5 110 7 = g 0 0 by rw [e5, mu_off2 (by omega)]; exact rg.1.1]
    refine c8_takeNumber h5 (fun _ => ⟨by show 0 ≤ p + 1; omega, by show p + 1 ≤ 300; omega⟩) ⟨by decide, by decide⟩ ⟨by omega, by omega⟩ (fun v1 κ6 o6 h6 v1r v1e _ => ?_)
    have e5' : bnd (wrd (g 0 5 ≠ 0) p) (pnum T n 0 (g 0 0 - 1)) = bnd (0, p + 1) (pnum T n 0 (g 0 0 - 1)) := by unfold wrd; rw [if_neg (by omega)]
    rw [← e5'] at h6 v1e
    have b6 : Bd (p + 1) n (bnd (wrd (g 0 5 ≠ 0) p) (pnum T n 0 (g 0 0 - 1))) := bd_bnd (bd_wrd p0 p1) (fun q q0 q1 => bd_pnum (by omega) q0 q1)
    rintro m7 e7
    have h7 : R8s T n (bnd (wrd (g 0 5 ≠ 0) p) (pnum T n 0 (g 0 0 - 1))) m7 := R8s.w h6 (fun k i c => by rw [e7, mu_off2 (by omega)])
    refine c8_takeNumber h7 (fun z => ⟨b6.2.1, by have := b6.2.2; omega⟩) ⟨by decide, by decide⟩ ⟨by decide, by decide⟩ (fun v2 κ8 o8 h8 v2r v2e _ => ?_)
    rintro m9 e9
    have of : ∀ k i, ¬ FR2 k i → ¬ (k = 110 ∧ 10 ≤ i ∧ i ≤ 12) → m9 k i = κ k i := fun k i d1 d2 => by
      rw [e9, mu_off2 (by omega), o8 k i d1, e7, mu_off2 (by omega), o6 k i d1, e5, mu_off2 (by omega)]
    have s3 : m9 110 10 = v1 := by rw [e9, mu_off2 (by omega), o8 _ _ (by unfold FR2; omega), e7, mu_same]
    have s4 : m9 110 11 = v2 := by rw [e9, mu_same]
    have s5 : m9 110 12 = 1 := by rw [e9, mu_off2 (by omega), o8 _ _ (by unfold FR2; omega), e7, mu_off2 (by omega), o6 _ _ (by unfold FR2; omega), e5, mu_same]
    refine q m9 (fun k i c => of k i (by unfold FN at c; unfold FR2; omega) (by unfold FN at c; omega)) (R8s.w h8 (fun k i c => by rw [e9, mu_off2 (by omega)])) (fun z => ?_)
    obtain ⟨c1, -, -, c6⟩ := drv_0 (g := g) z
    have e1 : v1 = numV T n (p + 1) := v1e (by rw [c6])
    have e2 : v2 = numV T n (drvA T n g p) := by
      have := v2e z
      rw [c6] at this; exact this
    have wg : ∀ k i, ¬ (k = 0 ∧ 3 ≤ i ∧ i ≤ 5) → drvG T n g p k i = g k i := fun k i d1 => by unfold drvG; rw [mu_off2 (by omega), mu_off2 (by omega), mu_off2 (by omega)]
    have w3 : drvG T n g p 0 3 = numV T n (p + 1) := by unfold drvG; rw [mu_off2 (by omega), mu_off2 (by omega), mu_same]
    have w4 : drvG T n g p 0 4 = numV T n (drvA T n g p) := by unfold drvG; rw [mu_off2 (by omega), mu_same]
    have w5 : drvG T n g p 0 5 = 1 := by unfold drvG; rw [mu_same]
    obtain ⟨⟨x1, x2, x3, x4, x5, x6⟩, y1, y2, y3⟩ := rg
    refine ⟨⟨?_, ?_, ?_, by rw [w3, s3, e1], by rw [w4, s4, e2], by rw [w5, s5]⟩, fun i i0 i1 => ?_, fun l l0 l1 => ?_, fun f f0 f1 => ?_⟩
    · rw [wg 0 0 (by omega), of _ _ (by unfold FR2; omega) (by omega)]; exact x1
    · rw [wg 0 1 (by omega), of _ _ (by unfold FR2; omega) (by omega)]; exact x2
    · rw [wg 0 2 (by omega), of _ _ (by unfold FR2; omega) (by omega)]; exact x3
    · rw [wg 0 0 (by omega)] at i1
      rw [wg 1 i (by omega), wg 2 i (by omega), of _ _ (by unfold FR2; omega) (by omega), of _ _ (by unfold FR2; omega) (by omega)]; exact y1 i i0 i1
    · rw [wg 0 1 (by omega)] at l1
      rw [wg 3 l (by omega), wg 4 l (by omega), wg 5 l (by omega), wg 6 l (by omega), of _ _ (by unfold FR2; omega) (by omega), of _ _ (by unfold FR2; omega) (by omega), of _ _ (by unfold FR2; omega) (by omega), of _ _ (by unfold FR2; omega) (by omega)]; exact y2 l l0 l1
    · rw [wg 0 2 (by omega)] at f1
      rw [wg 7 f (by omega), wg 8 f (by omega), of _ _ (by unfold FR2; omega) (by omega), of _ _ (by unfold FR2; omega) (by omega)]; exact y3 f f0 f1
def B2 (T : Int → Int) (n : Int) (g : Mem) (p : Int) : Int × Int := bnd (bnd (wrd (6 ≤ g 0 2) p) (pnum T n 0 (g 0 0 - 1))) (pnum T n 0 29)
theorem feaP_2 {T : Int → Int} {n : Int} {g : Mem} {p : Int} : feaP T n g p = bnd (B2 T n g p) (feaE T n g p) := rfl
theorem c8_takeFeast {G : Gm} {T : Int → Int} {n p : Int} {g κ : Mem} {Q : Mem → Prop} (h : R8s T n (0, p + 1) κ) (rg : G8 g κ) (gr : GR g) (p0 : 0 ≤ p) (p1 : p < n) (q : ∀ κ', Off FN κ κ' → R8s T n (feaP T n g p) κ' → ((feaP T n g p).1 = 0 → G8 (feaG T n g p) κ') → Q κ') : Cv G mX8_takeFeast [(2, 110), (0, p)] SHl κ Q := by
  have hn := h.1.2.2.1
  have wf := h.1.1
  have g1 := gr.1
  have g3 := gr.2.2.1
  have g7 := gr.2.2.2.2.2.2.1
  refine eX8_takeFeast (fun Φ hΦ hR => bX8_takeFeast_0 hΦ hR ⟨so_110, ?_⟩)
  rw [rg.1.2.2.1]
  refine ⟨⟨by omega, by omega⟩, fun c => bX8_takeFeast_15 hΦ hR ⟨so_110, c8_wantN h ⟨by decide, by decide⟩ (fun κ2 o2 _ h2 => ⟨R32_0, fun _ => ?_, fun e => absurd rfl e⟩)⟩, fun c => bX8_takeFeast_15 hΦ hR ⟨so_110, c8_wantY h R32_1 (by decide) (fun _ => ⟨R32_1, fun e => absurd e (by decide), fun _ => ⟨so_110, ?_⟩⟩) (fun e => absurd rfl e)⟩⟩
  · have e : feaP T n g p = (3, p) := by
      unfold feaP wrd
      rw [if_pos c, bnd_1 (r := (3, p)) (show (3 : Int) ≠ 0 by decide), bnd_1 (r := (3, p)) (show (3 : Int) ≠ 0 by decide), bnd_1 (show (3 : Int) ≠ 0 by decide)]
    rw [bnd_0 rfl] at h2
    exact q κ2 o2.fn (by rw [e]; exact h2) (fun z => by rw [e] at z; exact absurd z (show ¬ (3 : Int) = 0 by decide))
  · rw [rg.1.1, rg.1.2.2.1]
    refine c8_takeNumber h (fun _ => ⟨by show 0 ≤ p + 1; omega, by show p + 1 ≤ 300; omega⟩) ⟨by decide, by decide⟩ ⟨by omega, by omega⟩ (fun v1 κ5 o5 h5 v1r v1e _ => ?_)
    have e5 : bnd (wrd (6 ≤ g 0 2) p) (pnum T n 0 (g 0 0 - 1)) = bnd (0, p + 1) (pnum T n 0 (g 0 0 - 1)) := by unfold wrd; rw [if_neg (by omega)]
    rw [← e5] at h5 v1e
    have b5 : Bd (p + 1) n (bnd (wrd (6 ≤ g 0 2) p) (pnum T n 0 (g 0 0 - 1))) := bd_bnd (bd_wrd p0 p1) (fun q q0 q1 => bd_pnum (by omega) q0 q1)
    rw [wf_110_19 wf]
    refine ⟨ai_119 (by omega) (by omega), ?_⟩
    rintro m7 e7
    have h7 : R8s T n (bnd (wrd (6 ≤ g 0 2) p) (pnum T n 0 (g 0 0 - 1))) m7 := R8s.w h5 (fun k i c => by rw [e7, mu_off2 (by omega)])
    refine c8_takeNumber h7 (fun z => ⟨b5.2.1, by have := b5.2.2; omega⟩) ⟨by decide, by decide⟩ ⟨by decide, by decide⟩ (fun v2 κ8 o8 h8 v2r v2e v24 => ?_)
    rw [wf_110_20 h7.1.1]
    refine ⟨ai_120 (by omega) (by omega), ?_⟩
    rintro m10 e10
    have h10 : R8s T n (B2 T n g p) m10 := R8s.w h8 (fun k i c => by rw [e10, mu_off2 (by omega)])
    have of : ∀ k i, ¬ FR2 k i → ¬ ((k = 119 ∨ k = 120) ∧ i = 6 + g 0 2) → m10 k i = κ k i := fun k i d1 d2 => by
      rw [e10, mu_off2 (by omega), o8 k i d1, e7, mu_off2 (by omega), o5 k i d1]
    have s7 : m10 119 (6 + g 0 2) = v1 := by rw [e10, mu_off2 (by omega), o8 _ _ (by unfold FR2; omega), e7, mu_same]
    have s8 : m10 120 (6 + g 0 2) = v2 := by rw [e10, mu_same]
    have r10 := h10.r5
    have vals : (B2 T n g p).1 = 0 → (g 0 2 < 6 ∧ (0 ≤ v1 ∧ v1 < g 0 0)) ∧ v1 = numV T n (p + 1) ∧ v2 = numV T n (drvA T n g p) ∧ m10 110 24 = skp T n (drvA T n g p) := fun z => by
      obtain ⟨c1, ⟨c2, c3⟩, -, c6⟩ := fea_1 (g := g) (show (bnd (bnd (wrd (6 ≤ g 0 2) p) (pnum T n 0 (g 0 0 - 1))) (pnum T n 0 29)).1 = 0 from z)
      have e1 : v1 = numV T n (p + 1) := v1e (by rw [c6])
      have e2 := v2e z
      rw [c6] at e2
      have e4 := v24 (by rw [c6])
      rw [c6] at e4
      exact ⟨⟨c1, by omega, by omega⟩, e1, e2, by rw [e10, mu_off2 (by omega)]; exact e4⟩
    -- how it ends, behind the check of the place
    have fin : ∀ κ12, Off FR2 m10 κ12 → R8s T n (feaP T n g p) κ12 → ∀ m13 : Mem, m13 = mu κ12 110 9 ((κ12 110 9) + 1) → Q m13 := fun κ12 o12 h12 m13 e13 => by
      have f9 : κ12 110 9 = g 0 2 := by rw [o12 _ _ (by unfold FR2; omega), of _ _ (by unfold FR2; omega) (by omega)]; exact rg.1.2.2.1
      rw [f9] at e13
      have om : ∀ k i, ¬ FR2 k i → ¬ ((k = 119 ∨ k = 120) ∧ i = 6 + g 0 2) → ¬ (k = 110 ∧ i = 9) → m13 k i = κ k i := fun k i d1 d2 d3 => by rw [e13, mu_off2 d3, o12 k i d1, of k i d1 d2]
      refine q m13 (fun k i c => om k i (by unfold FN at c; unfold FR2; omega) (by unfold FN at c; omega) (by unfold FN at c; omega)) (R8s.w h12 (fun k i c => by rw [e13, mu_off2 (by omega)])) (fun z => ?_)
      rw [feaP_2] at z
      obtain ⟨⟨c1, -⟩, e1, e2, -⟩ := vals (bnd_z z).1
      have wg : ∀ k i, ¬ (k = 0 ∧ i = 2) → ¬ (7 ≤ k ∧ k ≤ 8 ∧ i = g 0 2) → feaG T n g p k i = g k i := fun k i d1 d2 => by unfold feaG; rw [mu_off2 d1, mu_off2 (by omega), mu_off2 (by omega)]
      have w2 : feaG T n g p 0 2 = g 0 2 + 1 := by unfold feaG; rw [mu_same]
      obtain ⟨⟨x1, x2, x3, x4, x5, x6⟩, y1, y2, y3⟩ := rg
      refine ⟨⟨?_, ?_, by rw [w2, e13, mu_same], ?_, ?_, ?_⟩, fun i i0 i1 => ?_, fun l l0 l1 => ?_, fun f f0 f1 => ?_⟩
      · rw [wg 0 0 (by omega) (by omega), om _ _ (by unfold FR2; omega) (by omega) (by omega)]; exact x1
      · rw [wg 0 1 (by omega) (by omega), om _ _ (by unfold FR2; omega) (by omega) (by omega)]; exact x2
      · rw [wg 0 3 (by omega) (by omega), om _ _ (by unfold FR2; omega) (by omega) (by omega)]; exact x4
      · rw [wg 0 4 (by omega) (by omega), om _ _ (by unfold FR2; omega) (by omega) (by omega)]; exact x5
      · rw [wg 0 5 (by omega) (by omega), om _ _ (by unfold FR2; omega) (by omega) (by omega)]; exact x6
      · rw [wg 0 0 (by omega) (by omega)] at i1
        rw [wg 1 i (by omega) (by omega), wg 2 i (by omega) (by omega), om _ _ (by unfold FR2; omega) (by omega) (by omega), om _ _ (by unfold FR2; omega) (by omega) (by omega)]; exact y1 i i0 i1
      · rw [wg 0 1 (by omega) (by omega)] at l1
        rw [wg 3 l (by omega) (by omega), wg 4 l (by omega) (by omega), wg 5 l (by omega) (by omega), wg 6 l (by omega) (by omega), om _ _ (by unfold FR2; omega) (by omega) (by omega), om _ _ (by unfold FR2; omega) (by omega) (by omega), om _ _ (by unfold FR2; omega) (by omega) (by omega), om _ _ (by unfold FR2; omega) (by omega) (by omega)]; exact y2 l l0 l1
      · rw [w2] at f1
        by_cases y : f = g 0 2
        · have t7 : feaG T n g p 7 f = numV T n (p + 1) := by unfold feaG; rw [mu_off2 (by omega), mu_off2 (by omega), mu_on2 rfl y]
          have t8 : feaG T n g p 8 f = numV T n (drvA T n g p) := by unfold feaG; rw [mu_off2 (by omega), mu_on2 rfl y]
          rw [t7, t8, y, e13, mu_off2 (by omega), mu_off2 (by omega), o12 _ _ (by unfold FR2; omega), o12 _ _ (by unfold FR2; omega), s7, s8]
          exact ⟨e1, e2⟩
        · rw [wg 7 f (by omega) (by omega), wg 8 f (by omega) (by omega), om _ _ (by unfold FR2; omega) (by omega) (by omega), om _ _ (by unfold FR2; omega) (by omega) (by omega)]; exact y3 f f0 (by omega)
    refine ⟨⟨by omega, by omega⟩, fun pos => ?_, fun pos => ?_⟩
    · have z : (B2 T n g p).1 ≠ 0 := fun z => by have := r10.2.2.mpr z; omega
      have h12 : R8s T n (feaP T n g p) m10 := by rw [feaP_2, bnd_1 z]; exact h10
      exact c8_wantY h10 R32_1 (by decide) (fun x => absurd x z) (fun _ => fin m10 Off.rf h12)
    · have z := r10.2.2.mp (by omega)
      obtain ⟨⟨c1, c2⟩, e1, e2, e4⟩ := vals z
      have tv : m10 113 (8 + v1) = g 1 v1 := by rw [of _ _ (by unfold FR2; omega) (by omega)]; exact (rg.2.1 v1 c2.1 c2.2).1
      have tr := g7 v1 c2.1 c2.2
      rw [wf_110_20 h10.1.1, wf_110_19 h10.1.1, wf_110_13 h10.1.1, s7, s8, tv, e4]
      refine ⟨ai_120 (by omega) (by omega), ai_119 (by omega) (by omega), ai_113 (by omega) (by omega), ⟨by omega, by omega⟩, ⟨by omega, by omega⟩, fun le => c8_wantN h10 ⟨by decide, by decide⟩ (fun κ12 o12 _ h12 => fin κ12 o12 ?_), fun le => c8_wantY h10 R32_1 (by decide) (fun _ => fin m10 Off.rf ?_) (fun x => absurd z x)⟩
      · have : feaP T n g p = bnd (B2 T n g p) (fun _ => (4, skp T n (drvA T n g p))) := by
          rw [feaP_2]
          refine bnd_cong (fun _ => ?_)
          unfold feaE
          rw [← e1, ← e2, if_pos le]
        rw [this]; exact h12
      · have : feaP T n g p = B2 T n g p := by
          rw [feaP_2, bnd_cong (g := fun c => (0, c)) (fun _ => ?_), bnd_eta]
          unfold feaE
          rw [← e1, ← e2, if_neg le]
        rw [this]; exact h10
theorem c8_takeClause {G : Gm} {T : Int → Int} {n p : Int} {g κ : Mem} {Q : Mem → Prop} (h : R8s T n (0, p) κ) (rg : G8 g κ) (gr : GR g) (p0 : 0 ≤ p) (p1 : p < n) (sk : skp T n p = p) (q : ∀ κ', Off FN κ κ' → R8s T n (clP T n g p) κ' → ((clP T n g p).1 = 0 → G8 (clG T n g p) κ') → Q κ') : Cv G mX8_takeClause [(2, 110)] SHl κ Q := by
  have hn := h.1.2.2.1
  have at_ : κ 110 23 = p := (h.2.1 rfl).2.1
  have tr := (h.1.2.2.2 p p0 p1).2
  refine eX8_takeClause (fun Φ hΦ hR => bX8_takeClause_0 hΦ hR ⟨so_110, c8_here h.1 ⟨by omega, by omega⟩ ?_⟩)
  rw [at_, sk, if_pos p1, show mu κ 110 23 p = κ by rw [← at_]; exact mu_id, at_]
  rintro m3 e3
  obtain ⟨h3, o3⟩ := r8_at (x := p + 1) (y := p + 1) h (fun _ => rfl)
  rw [← e3, bnd_0 rfl] at h3
  rw [← e3] at o3
  have rg3 := rg.off o3
  refine ⟨⟨by omega, by omega⟩, fun c1 => ⟨fun c2 => ⟨fun c3 => ⟨fun c4 => ?_, fun c4 => ?_⟩, fun c3 => ?_⟩, fun c2 => ?_⟩, fun c1 => ?_⟩
  · have e : clP T n g p = (1, p) := by unfold clP; rw [if_neg c1, if_neg c2, if_neg c3, if_neg c4]
    refine c8_wantN h3 ⟨by decide, by decide⟩ (fun κ' o' _ h' => ⟨R32_0, fun _ => q κ' ((o3.tr o').fn) (by rw [e]; rw [bnd_0 rfl] at h'; exact h') (fun z => by rw [e] at z; exact absurd z (show ¬ (1 : Int) = 0 by decide)), fun x => absurd rfl x⟩)
  · refine c8_wantY h3 R32_1 (by decide) (fun _ => ⟨R32_1, fun x => absurd x (by decide), fun _ => c8_takeFeast h3 rg3 gr p0 p1 (fun κ' o' h' g' => q κ' (o3.fn.tr o') ?_ ?_)⟩) (fun x => absurd rfl x)
    · unfold clP; rw [if_neg c1, if_neg c2, if_neg c3, if_pos c4]; exact h'
    · unfold clP clG; rw [if_neg c1, if_neg c2, if_neg c3, if_pos c4, if_neg c1, if_neg c2, if_neg c3, if_pos c4]; exact g'
  · refine c8_takeDriven h3 rg3 gr p0 p1 (fun κ' o' h' g' => q κ' (o3.fn.tr o') ?_ ?_)
    · unfold clP; rw [if_neg c1, if_neg c2, if_pos c3]; exact h'
    · unfold clP clG; rw [if_neg c1, if_neg c2, if_pos c3, if_neg c1, if_neg c2, if_pos c3]; exact g'
  · refine c8_takeLink h3 rg3 gr p0 p1 (fun κ' o' h' g' => q κ' (o3.fn.tr o') ?_ ?_)
    · unfold clP; rw [if_neg c1, if_pos c2]; exact h'
    · unfold clP clG; rw [if_neg c1, if_pos c2, if_neg c1, if_pos c2]; exact g'
  · refine c8_takeWheel h3 rg3 gr p0 p1 (fun κ' o' h' g' => q κ' (o3.fn.tr o') ?_ ?_)
    · unfold clP; rw [if_pos c1]; exact h'
    · unfold clP clG; rw [if_pos c1, if_pos c1]; exact g'
