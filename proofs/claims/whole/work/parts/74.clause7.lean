/-! A CLAUSE, the class -/
def FC (W k i : Int) : Prop := FRd k i ∨ (k = 1 ∧ i = 5) ∨ (k = W ∧ 0 ≤ i ∧ i ≤ 4) ∨ (W + 1 ≤ k ∧ k ≤ W + 8)
/-- the works being told, in the class -/
def CG (W : Int) (g κ : Mem) : Prop := (∀ i, 0 ≤ i → i ≤ 4 → κ W i = g 0 i) ∧ κ 1 5 = g 0 5 ∧ (∀ i, 0 ≤ i → i < g 0 0 → κ (W + 1) i = g 1 i ∧ κ (W + 2) i = g 2 i) ∧ (∀ l, 0 ≤ l → l < g 0 1 → κ (W + 3) l = g 3 l ∧ κ (W + 4) l = g 4 l ∧ κ (W + 5) l = g 5 l ∧ κ (W + 6) l = g 6 l) ∧ ∀ f, 0 ≤ f → f < g 0 2 → κ (W + 7) f = g 7 f ∧ κ (W + 8) f = g 8 f
theorem CG.off {W : Int} {g κ κ' : Mem} (hW : isW W) (h : CG W g κ) (o : Off FRd κ κ') : CG W g κ' := by
  have hW : W = 3 ∨ W = 12 := hW
  have r : ∀ k i, (k = 1 ∧ i = 5) ∨ 3 ≤ k → κ' k i = κ k i := fun k i c => o k i (by unfold FRd; omega)
  obtain ⟨a, b, c, d, e⟩ := h
  refine ⟨fun i i0 i1 => by rw [r _ _ (by omega)]; exact a i i0 i1, by rw [r _ _ (by omega)]; exact b, fun i i0 i1 => by rw [r _ _ (by omega), r _ _ (by omega)]; exact c i i0 i1, fun l l0 l1 => by rw [r _ _ (by omega), r _ _ (by omega), r _ _ (by omega), r _ _ (by omega)]; exact d l l0 l1, fun f f0 f1 => by rw [r _ _ (by omega), r _ _ (by omega)]; exact e f f0 f1⟩
theorem Off.fc {W : Int} {κ κ' : Mem} (o : Off FRd κ κ') : Off (FC W) κ κ' := o.mono (fun _ _ c => Or.inl c)
theorem CS.fc {T : Int → Int} {n b W : Int} {r : Int × Int} {κ κ' : Mem} (hW : isW W) (h : CS T n b r κ) (o : ∀ k i, (k = 1 ∧ i ≠ 5) ∨ k = 2 ∨ dF k i → κ' k i = κ k i) : CS T n b r κ' := by
  obtain ⟨⟨a1, a2, a3, a4⟩, b1, b2, b3, b4⟩ := h
  refine ⟨⟨wf_sm a1 (fun k i d => o k i (Or.inr (Or.inr d))), (o 1 2 (by omega)).trans a2, a3, fun i i0 i1 => by rw [o 2 i (by omega)]; exact a4 i i0 i1⟩, by rw [o 1 3 (by omega)]; exact b1, fun e => ?_, fun e => ?_, b4⟩
  · rw [o 1 6 (by omega), o 1 3 (by omega), o 1 7 (by omega)]; exact b2 e
  · rw [o 1 6 (by omega), o 1 7 (by omega)]; exact b3 e
theorem c4_readWheel {G : Gm} {T : Int → Int} {n p W : Int} {g κ : Mem} {Q : Mem → Prop} (hW : isW W) (cs : CS T n 250 (0, p) κ) (cg : CG W g κ) (gr : GR g) (q : ∀ κ', Off (FC W) κ κ' → CS T n 255 (bnd (wheelP T n g p) (pend T n)) κ' → ((bnd (wheelP T n g p) (pend T n)).1 = 0 → CG W (wheelG T n g p) κ') → Q κ') : Cv G mX4_readWheel [(2, 1), (2, W)] SHl κ Q := by
  have hW' : W = 3 ∨ W = 12 := hW
  have n0 := cg.1 0 (by decide) (by decide)
  have g1 := gr.1
  refine eX4_readWheel (fun Φ hΦ hR => bX4_readWheel_0 hΦ hR ⟨so_1, so_W hW, ?_⟩)
  rw [n0]
  have go : ∀ t, (t = 0 ∨ t = 1) → (t = 0 ↔ ¬ 8 ≤ g 0 0) → Ex G Φ 4 15 [some (2, 1), some (2, W), none, none] [(0, t), (2, 1)] SHl κ 0 0 := fun t ht tt => by
    refine bX4_readWheel_15 hΦ hR ⟨so_1, c4_passWord cs ht (fun κ2 o2 cs2 => ⟨so_1, ?_⟩)⟩
    have e2 : (if t = 0 then ((0 : Int), p + 1) else (3, p)) = wrd (8 ≤ g 0 0) p := by
      unfold wrd
      by_cases c : 8 ≤ g 0 0
      · rw [if_pos c, if_neg (by omega)]
      · rw [if_neg c, if_pos (by omega)]
    rw [e2] at cs2
    refine c4_readNumber cs2 ⟨by decide, by decide⟩ ⟨by decide, by decide⟩ ⟨by decide, by decide⟩ (fun v1 κ4 o4 cs4 v1r v1e _ => c4_readNumber cs4 ⟨by decide, by decide⟩ ⟨by decide, by decide⟩ ⟨by decide, by decide⟩ (fun v2 κ5 o5 cs5 v2r v2e _ => c4_passEnd cs5 ⟨by decide, by decide⟩ (fun κ6 o6 cs6 => ?_)))
    have o : Off FRd κ κ6 := ((o2.tr o4).tr o5).tr o6
    have r6 := cs6.r6
    have cg6 := cg.off hW o
    have ok : CS T n 255 (bnd (wheelP T n g p) (pend T n)) κ6 := ⟨cs6.1, ⟨cs6.2.1.1, by have := cs6.2.1.2; omega⟩, cs6.2.2⟩
    refine ⟨⟨by omega, by omega⟩, fun c => q κ6 o.fc ok (fun z => absurd (r6.2.2.mpr z) c), fun c => ⟨so_W hW, eX6_addWheel (fun Φ2 hΦ2 hR2 => bX6_addWheel_0 hΦ2 hR2 ⟨so_W hW, ?_⟩)⟩⟩
    have z6 := r6.2.2.mp c
    have z5 := (bnd_z z6).1
    obtain ⟨c1, ⟨c2, c3⟩, ⟨c4, c5⟩, c6⟩ := wheel_0 (g := g) z5
    have e1 : v1 = numV T n (p + 1) := by
      have := v1e (by rw [c6])
      rw [(wrd_0 (bnd_z (show (bnd (wrd (8 ≤ g 0 0) p) (pnum T n 3 30)).1 = 0 by rw [c6])).1).2] at this
      exact this
    have e2' : v2 = numV T n (wheelA T n p) := by
      have := v2e z5
      rw [c6] at this; exact this
    have w6 := cs6.1.1
    have k0 : κ6 W 0 = g 0 0 := cg6.1 0 (by decide) (by decide)
    rw [wf_W5 w6 hW, k0]
    refine ⟨ai_W1 hW g1.1 (by omega), ?_⟩
    rintro m3 e3
    refine ⟨⟨by omega, by omega⟩, ⟨by omega, by omega⟩, c_leftOver ⟨by omega, by omega⟩ (by omega) (by omega) ?_⟩
    have f6 : m3 W 6 = W + 2 := by rw [e3, mu_off2 (by omega)]; exact wf_W6 w6 hW
    have f0 : m3 W 0 = g 0 0 := by rw [e3, mu_off2 (by omega)]; exact k0
    rw [f6, f0]
    refine ⟨ai_W2 hW g1.1 (by omega), ?_⟩
    rintro m8 e8
    rw [show m8 W 0 = g 0 0 by rw [e8, mu_off2 (by omega)]; exact f0]
    rintro m9 e9
    have km : m9 = mu (mu (mu κ6 (W + 1) (g 0 0) v1) (W + 2) (g 0 0) (v2 % v1)) W 0 (g 0 0 + 1) := by rw [e9, e8, e3]
    have of : ∀ k i, ¬ (k = W + 1 ∧ i = g 0 0) → ¬ (k = W + 2 ∧ i = g 0 0) → ¬ (k = W ∧ i = 0) → m9 k i = κ6 k i := fun k i d1 d2 d3 => by rw [km, mu_off2 d3, mu_off2 d2, mu_off2 d1]
    refine q m9 (o.fc.tr (fun k i d => of k i (by unfold FC at d; omega) (by unfold FC at d; omega) (by unfold FC at d; omega))) (CS.fc hW ok (fun k i d => of k i (by unfold dF at d; omega) (by unfold dF at d; omega) (by unfold dF at d; omega))) (fun _ => ?_)
    obtain ⟨x1, x2, x3, x4, x5⟩ := cg6
    have wg : ∀ k i, ¬ (k = 0 ∧ i = 0) → ¬ (k = 1 ∧ i = g 0 0) → ¬ (k = 2 ∧ i = g 0 0) → wheelG T n g p k i = g k i := fun k i d1 d2 d3 => by unfold wheelG; rw [mu_off2 d1, mu_off2 d3, mu_off2 d2]
    have w0 : wheelG T n g p 0 0 = g 0 0 + 1 := by unfold wheelG; rw [mu_same]
    refine ⟨fun i i0 i1 => ?_, ?_, fun i i0 i1 => ?_, fun l l0 l1 => ?_, fun f f0' f1 => ?_⟩
    · by_cases z : i = 0
      · rw [z, w0, km, mu_same]
      · rw [wg 0 i (by omega) (by omega) (by omega), of W i (by omega) (by omega) (by omega)]; exact x1 i i0 i1
    · rw [wg 0 5 (by omega) (by omega) (by omega), of 1 5 (by omega) (by omega) (by omega)]; exact x2
    · rw [w0] at i1
      by_cases z : i = g 0 0
      · have y1 : wheelG T n g p 1 i = numV T n (p + 1) := by unfold wheelG; rw [mu_off2 (by omega), mu_off2 (by omega), mu_on2 rfl z]
        have y2 : wheelG T n g p 2 i = numV T n (wheelA T n p) % numV T n (p + 1) := by unfold wheelG; rw [mu_off2 (by omega), mu_on2 rfl z]
        rw [y1, y2, km, mu_off2 (by omega), mu_off2 (by omega), mu_on2 rfl z, mu_off2 (by omega), mu_on2 rfl z, e1, e2']
        exact ⟨rfl, rfl⟩
      · rw [wg 1 i (by omega) (by omega) (by omega), wg 2 i (by omega) (by omega) (by omega), of _ i (by omega) (by omega) (by omega), of _ i (by omega) (by omega) (by omega)]
        exact x3 i i0 (by omega)
    · rw [wg 0 1 (by omega) (by omega) (by omega)] at l1
      rw [wg 3 l (by omega) (by omega) (by omega), wg 4 l (by omega) (by omega) (by omega), wg 5 l (by omega) (by omega) (by omega), wg 6 l (by omega) (by omega) (by omega), of _ l (by omega) (by omega) (by omega), of _ l (by omega) (by omega) (by omega), of _ l (by omega) (by omega) (by omega), of _ l (by omega) (by omega) (by omega)]
      exact x4 l l0 l1
    · rw [wg 0 2 (by omega) (by omega) (by omega)] at f1
      rw [wg 7 f (by omega) (by omega) (by omega), wg 8 f (by omega) (by omega) (by omega), of _ f (by omega) (by omega) (by omega), of _ f (by omega) (by omega) (by omega)]
      exact x5 f f0' f1
  refine ⟨⟨by omega, by omega⟩, fun c => go 0 (Or.inl rfl) ⟨fun _ => by omega, fun _ => rfl⟩, fun c => go 1 (Or.inr rfl) ⟨fun e => absurd e (by decide), fun e => by omega⟩⟩
theorem bnd_eta {r : Int × Int} : bnd r (fun c => (0, c)) = r := by
  by_cases z : r.1 = 0
  · rw [bnd_0 z]; exact Prod.ext z.symm rfl
  · rw [bnd_1 z]
def lkM (κ : Mem) (W c kk va vb vo : Int) : Mem := mu (mu (mu (mu (mu κ (W + 4) c kk) (W + 5) c va) (W + 6) c vb) (W + 3) c vo) W 1 (c + 1)
theorem lkM_off {κ : Mem} {W c kk va vb vo k i : Int} (d1 : ¬ (W + 3 ≤ k ∧ k ≤ W + 6 ∧ i = c)) (d2 : ¬ (k = W ∧ i = 1)) : lkM κ W c kk va vb vo k i = κ k i := by
  unfold lkM
  rw [mu_off2 d2, mu_off2 (by omega), mu_off2 (by omega), mu_off2 (by omega), mu_off2 (by omega)]
theorem lkM_fc {κ : Mem} {W c kk va vb vo : Int} : Off (FC W) κ (lkM κ W c kk va vb vo) := fun k i d => lkM_off (by unfold FC at d; omega) (by unfold FC at d; omega)
theorem lkM_cs {T : Int → Int} {n b W c kk va vb vo : Int} {r : Int × Int} {κ : Mem} (hW : isW W) (h : CS T n b r κ) : CS T n b r (lkM κ W c kk va vb vo) := by
  have hW' : W = 3 ∨ W = 12 := hW
  exact CS.fc hW h (fun k i d => lkM_off (by unfold dF at d; omega) (by unfold dF at d; omega))
theorem c6_addLink {G : Gm} {Q : Mem → Prop} {κ : Mem} {W c kk va vb vo : Int} (wf : WF κ) (hW : isW W) (k1 : κ W 1 = c) (c0 : 0 ≤ c) (c1 : c < 10) (q : Q (lkM κ W c kk va vb vo)) : Cv G mX6_addLink [(2, W), (0, kk), (0, va), (0, vb), (0, vo)] SHl κ Q := by
  have hW' : W = 3 ∨ W = 12 := hW
  refine eX6_addLink (fun Φ2 hΦ2 hR2 => bX6_addLink_0 hΦ2 hR2 ⟨so_W hW, ?_⟩)
  rw [k1]
  refine eX6_setLink (fun Φ3 hΦ3 hR3 => bX6_setLink_0 hΦ3 hR3 ⟨so_W hW, ?_⟩)
  rw [wf_W8 wf hW]
  refine ⟨ai_W4 hW c0 (by omega), ?_⟩
  rintro m3 e3
  rw [show m3 W 9 = W + 5 by rw [e3, mu_off2 (by omega)]; exact wf_W9 wf hW]
  refine ⟨ai_W5 hW c0 (by omega), ?_⟩
  rintro m5 e5
  rw [show m5 W 10 = W + 6 by rw [e5, e3, mu_off2 (by omega), mu_off2 (by omega)]; exact wf_W10 wf hW]
  refine ⟨ai_W6 hW c0 (by omega), ?_⟩
  rintro m7 e7
  have f7 : m7 W 7 = W + 3 := by rw [e7, e5, e3, mu_off2 (by omega), mu_off2 (by omega), mu_off2 (by omega)]; exact wf_W7 wf hW
  have f1 : m7 W 1 = c := by rw [e7, e5, e3, mu_off2 (by omega), mu_off2 (by omega), mu_off2 (by omega)]; exact k1
  rw [f7, f1]
  refine ⟨ai_W3 hW c0 (by omega), ?_⟩
  rintro m4 e4
  rw [show m4 W 1 = c by rw [e4, mu_off2 (by omega)]; exact f1]
  rintro m9 e9
  rw [e9, e4, e7, e5, e3]
  exact q
theorem cg_link {T : Int → Int} {n p W kk va vb vo : Int} {g κ : Mem} (hW : isW W) (gr : GR g) (cg : CG W g κ) (y1 : kk = kd (T (skp T n (p + 1)))) (y2 : va = numV T n (linkA T n p)) (y3 : vb = numV T n (linkB T n g p)) (y4 : vo = numV T n (linkC T n g p)) : CG W (linkG T n g p) (lkM κ W (g 0 1) kk va vb vo) := by
  have hW' : W = 3 ∨ W = 12 := hW
  have g2 := gr.2.1
  obtain ⟨x1, x2, x3, x4, x5⟩ := cg
  have wg : ∀ k i, ¬ (k = 0 ∧ i = 1) → ¬ (3 ≤ k ∧ k ≤ 6 ∧ i = g 0 1) → linkG T n g p k i = g k i := fun k i d1 d2 => by unfold linkG; rw [mu_off2 d1, mu_off2 (by omega), mu_off2 (by omega), mu_off2 (by omega), mu_off2 (by omega)]
  have w1 : linkG T n g p 0 1 = g 0 1 + 1 := by unfold linkG; rw [mu_same]
  refine ⟨fun i i0 i1 => ?_, ?_, fun i i0 i1 => ?_, fun l l0 l1 => ?_, fun f f0' f1' => ?_⟩
  · by_cases z : i = 1
    · rw [z, w1]; unfold lkM; rw [mu_same]
    · rw [wg 0 i (by omega) (by omega), lkM_off (by omega) (by omega)]; exact x1 i i0 i1
  · rw [wg 0 5 (by omega) (by omega), lkM_off (by omega) (by omega)]; exact x2
  · rw [wg 0 0 (by omega) (by omega)] at i1
    rw [wg 1 i (by omega) (by omega), wg 2 i (by omega) (by omega), lkM_off (by omega) (by omega), lkM_off (by omega) (by omega)]
    exact x3 i i0 i1
  · rw [w1] at l1
    by_cases z : l = g 0 1
    · have t3 : linkG T n g p 3 l = numV T n (linkC T n g p) := by unfold linkG; rw [mu_off2 (by omega), mu_on2 rfl z]
      have t4 : linkG T n g p 4 l = kd (T (skp T n (p + 1))) := by unfold linkG; rw [mu_off2 (by omega), mu_off2 (by omega), mu_off2 (by omega), mu_off2 (by omega), mu_on2 rfl z]
      have t5 : linkG T n g p 5 l = numV T n (linkA T n p) := by unfold linkG; rw [mu_off2 (by omega), mu_off2 (by omega), mu_off2 (by omega), mu_on2 rfl z]
      have t6 : linkG T n g p 6 l = numV T n (linkB T n g p) := by unfold linkG; rw [mu_off2 (by omega), mu_off2 (by omega), mu_on2 rfl z]
      have s3 : lkM κ W (g 0 1) kk va vb vo (W + 3) l = vo := by unfold lkM; rw [mu_off2 (by omega), mu_on2 rfl z]
      have s4 : lkM κ W (g 0 1) kk va vb vo (W + 4) l = kk := by unfold lkM; rw [mu_off2 (by omega), mu_off2 (by omega), mu_off2 (by omega), mu_off2 (by omega), mu_on2 rfl z]
      have s5 : lkM κ W (g 0 1) kk va vb vo (W + 5) l = va := by unfold lkM; rw [mu_off2 (by omega), mu_off2 (by omega), mu_off2 (by omega), mu_on2 rfl z]
      have s6 : lkM κ W (g 0 1) kk va vb vo (W + 6) l = vb := by unfold lkM; rw [mu_off2 (by omega), mu_off2 (by omega), mu_on2 rfl z]
      rw [t3, t4, t5, t6, s3, s4, s5, s6]
      exact ⟨y4, y1, y2, y3⟩
    · rw [wg 3 l (by omega) (by omega), wg 4 l (by omega) (by omega), wg 5 l (by omega) (by omega), wg 6 l (by omega) (by omega), lkM_off (by omega) (by omega), lkM_off (by omega) (by omega), lkM_off (by omega) (by omega), lkM_off (by omega) (by omega)]
      exact x4 l l0 (by omega)
  · rw [wg 0 2 (by omega) (by omega)] at f1'
    rw [wg 7 f (by omega) (by omega), wg 8 f (by omega) (by omega), lkM_off (by omega) (by omega), lkM_off (by omega) (by omega)]
    exact x5 f f0' f1'
theorem c4_readLink {G : Gm} {T : Int → Int} {n p W : Int} {g κ : Mem} {Q : Mem → Prop} (hW : isW W) (cs : CS T n 250 (0, p) κ) (cg : CG W g κ) (gr : GR g) (q : ∀ κ', Off (FC W) κ κ' → CS T n 255 (bnd (linkP T n g p) (pend T n)) κ' → ((bnd (linkP T n g p) (pend T n)).1 = 0 → CG W (linkG T n g p) κ') → Q κ') : Cv G mX4_readLink [(2, 1), (2, W)] SHl κ Q := by
  have hW' : W = 3 ∨ W = 12 := hW
  have n1 := cg.1 1 (by decide) (by decide)
  have g1 := gr.1
  have g2 := gr.2.1
  refine eX4_readLink (fun Φ hΦ hR => bX4_readLink_0 hΦ hR ⟨so_1, so_W hW, ?_⟩)
  rw [n1]
  have go : ∀ t, (t = 0 ∨ t = 1) → (t = 0 ↔ ¬ 10 ≤ g 0 1) → Ex G Φ 6 15 [some (2, 1), some (2, W), none, none, none, none] [(0, t), (2, 1)] SHl κ 0 0 := fun t ht tt => by
    refine bX4_readLink_15 hΦ hR ⟨so_1, c4_passWord cs ht (fun κ2 o2 cs2 => ⟨so_1, ?_⟩)⟩
    have e2 : (if t = 0 then ((0 : Int), p + 1) else (3, p)) = wrd (10 ≤ g 0 1) p := by
      unfold wrd
      by_cases c : 10 ≤ g 0 1
      · rw [if_pos c, if_neg (by omega)]
      · rw [if_neg c, if_pos (by omega)]
    rw [e2] at cs2
    refine c4_readKind cs2 ⟨by decide, by decide⟩ (fun kk κ4 o4 cs4 kr ke => ⟨so_W hW, ?_⟩)
    have k40 : κ4 W 0 = g 0 0 := ((o2.tr o4) _ _ (by unfold FRd; omega)).trans (cg.1 0 (by decide) (by decide))
    rw [k40]
    refine c4_readNumber cs4 ⟨by decide, by decide⟩ ⟨by decide, by decide⟩ ⟨by omega, by omega⟩ (fun va κ6 o6 cs6 var vae _ => ?_)
    have k60 : κ6 W 0 = g 0 0 := (o6 _ _ (by unfold FRd; omega)).trans k40
    rw [k60]
    refine c4_readNumber cs6 ⟨by decide, by decide⟩ ⟨by decide, by decide⟩ ⟨by omega, by omega⟩ (fun vb κ7 o7 cs7 vbr vbe vb4 => ?_)
    -- up to the second wheel
    have vals : (bnd (bnd (bnd (wrd (10 ≤ g 0 1) p) (pkind T n)) (pnum T n 0 (g 0 0 - 1))) (pnum T n 0 (g 0 0 - 1))).1 = 0 → kk = kd (T (skp T n (p + 1))) ∧ va = numV T n (linkA T n p) ∧ vb = numV T n (linkB T n g p) ∧ κ7 1 4 = skp T n (linkB T n g p) := fun z => by
      obtain ⟨c1, -, -, -, ea, eb, ec⟩ := link_1 (g := g) z
      have y := (wrd_0 (bnd_z (show (bnd (wrd (10 ≤ g 0 1) p) (pkind T n)).1 = 0 by rw [ea])).1).2
      have x1 := ke (by rw [ea])
      rw [y] at x1
      have x2 := vae (by rw [eb])
      rw [ea] at x2
      have x3 := vbe z
      rw [eb] at x3
      have x4 := vb4 (by rw [eb])
      rw [eb] at x4
      exact ⟨x1, x2, x3, x4⟩
    have rest : ∀ κ10, Off FRd κ7 κ10 → CS T n 252 (bnd (bnd (bnd (bnd (wrd (10 ≤ g 0 1) p) (pkind T n)) (pnum T n 0 (g 0 0 - 1))) (pnum T n 0 (g 0 0 - 1))) (linkE T n g p)) κ10 → Ex G Φ 6 63 [some (2, 1), some (2, W), some (0, kk), some (0, va), some (0, vb), none] [] SHl κ10 0 0 := fun κ10 o10 cs10 => by
      refine bX4_readLink_63 hΦ hR ⟨so_1, c4_readNumber cs10 ⟨by decide, by decide⟩ ⟨by decide, by decide⟩ ⟨by decide, by decide⟩ (fun vo κ11 o11 cs11 vor voe _ => c4_passEnd cs11 ⟨by decide, by decide⟩ (fun κ12 o12 cs12 => ?_))⟩
      have o : Off FRd κ κ12 := ((((((o2.tr o4).tr o6).tr o7).tr o10).tr o11).tr o12)
      have r6 := cs12.r6
      have cg6 := cg.off hW o
      have ok : CS T n 255 (bnd (linkP T n g p) (pend T n)) κ12 := ⟨cs12.1, ⟨cs12.2.1.1, by have := cs12.2.1.2; omega⟩, cs12.2.2⟩
      refine ⟨⟨by omega, by omega⟩, fun c => q κ12 o.fc ok (fun z => absurd (r6.2.2.mpr z) c), fun c => ⟨so_W hW, ?_⟩⟩
      have z6 := r6.2.2.mp c
      have z5 := (bnd_z z6).1
      obtain ⟨h1, ne, ⟨v1, v2⟩, he⟩ := link_0 (g := g) z5
      obtain ⟨c1, ⟨kk1, kk2⟩, ⟨a1, a2⟩, ⟨b1, b2⟩, -⟩ := link_1 h1
      obtain ⟨y1, y2, y3, -⟩ := vals h1
      have y4 := voe z5
      rw [he] at y4
      have y4 : vo = numV T n (linkC T n g p) := y4
      exact c6_addLink cs12.1.1 hW (cg6.1 1 (by decide) (by decide)) g2.1 (by omega) (q _ (o.fc.tr lkM_fc) (lkM_cs hW ok) (fun _ => cg_link hW gr cg6 y1 y2 y3 y4))
    have up : CS T n 252 (bnd (bnd (bnd (wrd (10 ≤ g 0 1) p) (pkind T n)) (pnum T n 0 (g 0 0 - 1))) (pnum T n 0 (g 0 0 - 1))) κ7 := ⟨cs7.1, ⟨cs7.2.1.1, by have := cs7.2.1.2; omega⟩, cs7.2.2⟩
    refine ⟨⟨by omega, by omega⟩, ⟨by omega, by omega⟩, fun c => rest κ7 Off.rf ?_, fun c => ?_⟩
    · rw [bnd_cong (g := fun c => (0, c)) (fun z => ?_), bnd_eta]
      · exact up
      · obtain ⟨-, y2, y3, -⟩ := vals z
        unfold linkE
        rw [if_neg (by rw [← y2, ← y3]; exact c)]
    · have r7 := up.r6
      obtain ⟨a, o, -, -⟩ := cs_fail (m := 4) (p := κ7 1 4) up ⟨by decide, by decide⟩
      refine c4_fail ⟨by omega, by omega⟩ (rest _ o ?_)
      rw [bnd_cong (g := fun _ => (4, κ7 1 4)) (fun z => ?_)]
      · exact a
      · obtain ⟨-, y2, y3, y4⟩ := vals z
        unfold linkE
        rw [if_pos (by rw [← y2, ← y3]; exact c), y4]
  refine ⟨⟨by omega, by omega⟩, fun c => go 0 (Or.inl rfl) ⟨fun _ => by omega, fun _ => rfl⟩, fun c => go 1 (Or.inr rfl) ⟨fun e => absurd e (by decide), fun e => by omega⟩⟩
