/-! A CLAUSE, the reference -/
def FN (k i : Int) : Prop := (k = 110 ∧ 23 ≤ i ∧ i ≤ 26) ∨ (k = 110 ∧ 7 ≤ i ∧ i ≤ 12) ∨ ((k = 113 ∨ k = 114) ∧ 8 ≤ i) ∨ (115 ≤ k ∧ k ≤ 118 ∧ 10 ≤ i) ∨ ((k = 119 ∨ k = 120) ∧ 6 ≤ i)
theorem Off.fn {κ κ' : Mem} (o : Off FR2 κ κ') : Off FN κ κ' := o.mono (fun _ _ c => Or.inl c)
/-- the works being told, in the reference -/
def G8 (g κ : Mem) : Prop := (κ 110 7 = g 0 0 ∧ κ 110 8 = g 0 1 ∧ κ 110 9 = g 0 2 ∧ κ 110 10 = g 0 3 ∧ κ 110 11 = g 0 4 ∧ κ 110 12 = g 0 5) ∧ (∀ i, 0 ≤ i → i < g 0 0 → κ 113 (8 + i) = g 1 i ∧ κ 114 (8 + i) = g 2 i) ∧ (∀ l, 0 ≤ l → l < g 0 1 → κ 118 (10 + l) = g 3 l ∧ κ 115 (10 + l) = g 4 l ∧ κ 116 (10 + l) = g 5 l ∧ κ 117 (10 + l) = g 6 l) ∧ ∀ f, 0 ≤ f → f < g 0 2 → κ 119 (6 + f) = g 7 f ∧ κ 120 (6 + f) = g 8 f
theorem G8.off {g κ κ' : Mem} (h : G8 g κ) (o : Off FR2 κ κ') : G8 g κ' := by
  have r : ∀ k i, (k = 110 ∧ 7 ≤ i ∧ i ≤ 12) ∨ 113 ≤ k → κ' k i = κ k i := fun k i c => o k i (by unfold FR2; omega)
  obtain ⟨⟨a1, a2, a3, a4, a5, a6⟩, c, d, e⟩ := h
  refine ⟨⟨by rw [r _ _ (by omega)]; exact a1, by rw [r _ _ (by omega)]; exact a2, by rw [r _ _ (by omega)]; exact a3, by rw [r _ _ (by omega)]; exact a4, by rw [r _ _ (by omega)]; exact a5, by rw [r _ _ (by omega)]; exact a6⟩, fun i i0 i1 => by rw [r _ _ (by omega), r _ _ (by omega)]; exact c i i0 i1, fun l l0 l1 => by rw [r _ _ (by omega), r _ _ (by omega), r _ _ (by omega), r _ _ (by omega)]; exact d l l0 l1, fun f f0 f1 => by rw [r _ _ (by omega), r _ _ (by omega)]; exact e f f0 f1⟩
theorem R8s.w {T : Int → Int} {n : Int} {r : Int × Int} {κ κ' : Mem} (h : R8s T n r κ) (o : ∀ k i, ¬ ((k = 110 ∧ 7 ≤ i ∧ i ≤ 12) ∨ (113 ≤ k ∧ k ≤ 120)) → κ' k i = κ k i) : R8s T n r κ' := h.off (fun k i c => o k i (by unfold dF at c; omega))
theorem c8_takeWheel {G : Gm} {T : Int → Int} {n p : Int} {g κ : Mem} {Q : Mem → Prop} (h : R8s T n (0, p + 1) κ) (rg : G8 g κ) (gr : GR g) (p0 : 0 ≤ p) (p1 : p < n) (q : ∀ κ', Off FN κ κ' → R8s T n (wheelP T n g p) κ' → ((wheelP T n g p).1 = 0 → G8 (wheelG T n g p) κ') → Q κ') : Cv G mX8_takeWheel [(2, 110), (0, p)] SHl κ Q := by
  have hn := h.1.2.2.1
  have g1 := gr.1
  refine eX8_takeWheel (fun Φ hΦ hR => bX8_takeWheel_0 hΦ hR ⟨so_110, ?_⟩)
  rw [rg.1.1]
  refine ⟨⟨by omega, by omega⟩, fun c => bX8_takeWheel_15 hΦ hR ⟨so_110, c8_wantN h ⟨by decide, by decide⟩ (fun κ2 o2 _ h2 => ⟨R32_0, fun _ => ?_, fun e => absurd rfl e⟩)⟩, fun c => bX8_takeWheel_15 hΦ hR ⟨so_110, c8_wantY h R32_1 (by decide) (fun _ => ⟨R32_1, fun e => absurd e (by decide), fun _ => ⟨so_110, ?_⟩⟩) (fun e => absurd rfl e)⟩⟩
  · have e : wheelP T n g p = (3, p) := by
      unfold wheelP wrd
      rw [if_pos c, bnd_1 (r := (3, p)) (show (3 : Int) ≠ 0 by decide), bnd_1 (show (3 : Int) ≠ 0 by decide)]
    rw [bnd_0 rfl] at h2
    exact q κ2 o2.fn (by rw [e]; exact h2) (fun z => by rw [e] at z; exact absurd z (show ¬ (3 : Int) = 0 by decide))
  · refine c8_takeNumber h (fun _ => ⟨by show 0 ≤ p + 1; omega, by show p + 1 ≤ 300; omega⟩) ⟨by decide, by decide⟩ ⟨by decide, by decide⟩ (fun v1 κ5 o5 h5 v1r v1e _ => ?_)
    have e5 : bnd (wrd (8 ≤ g 0 0) p) (pnum T n 3 30) = bnd (0, p + 1) (pnum T n 3 30) := by unfold wrd; rw [if_neg c]
    rw [← e5] at h5 v1e
    have b5 : Bd (p + 1) n (bnd (wrd (8 ≤ g 0 0) p) (pnum T n 3 30)) := bd_bnd (bd_wrd p0 p1) (fun q q0 q1 => bd_pnum (by omega) q0 q1)
    refine c8_takeNumber h5 (fun z => ⟨b5.2.1, by have := b5.2.2; omega⟩) ⟨by decide, by decide⟩ ⟨by decide, by decide⟩ (fun v2 κ6 o6 h6 v2r v2e _ => ?_)
    have o : Off FR2 κ κ6 := o5.tr o6
    have r5 := h6.r5
    have rg6 := rg.off o
    have wf6 := h6.1.1
    have k7 : κ6 110 7 = g 0 0 := rg6.1.1
    rw [wf_110_13 wf6, k7]
    refine ⟨ai_113 (by omega) (by omega), ?_⟩
    rintro m8 e8
    have f8 : ∀ i, m8 110 i = κ6 110 i := fun i => by rw [e8, mu_off2 (by omega)]
    have on8 : ∀ k i, ¬ (k = 113 ∧ i = 8 + g 0 0) → m8 k i = κ6 k i := fun k i d => by rw [e8, mu_off2 d]
    rw [f8 25, f8 14, f8 7, k7, wf_110_14 wf6]
    refine ⟨⟨by omega, by omega⟩, fun d => ?_, fun d => ⟨ai_114 (by omega) (by omega), ?_⟩⟩
    · have z := r5.2.2.mp (by omega)
      obtain ⟨c1, ⟨c2, c3⟩, ⟨c4, c5⟩, c6⟩ := wheel_0 (g := g) z
      have e1 : v1 = numV T n (p + 1) := v1e (by rw [c6])
      have e2 : v2 = numV T n (wheelA T n p) := by
        have := v2e z
        rw [c6] at this; exact this
      refine ⟨⟨by omega, by omega⟩, ⟨by omega, by omega⟩, by omega, ai_114 (by omega) (by omega), ?_⟩
      rintro m14 e14 m15 e15
      rw [show m14 110 7 = g 0 0 by rw [e14, mu_off2 (by omega), f8]; exact k7] at e15
      have tm : Int.tmod v2 v1 = v2 % v1 := by rw [tmod_pos (by omega), if_pos (Or.inl v2r.1)]
      rw [tm] at e14
      have of : ∀ k i, ¬ (k = 113 ∧ i = 8 + g 0 0) → ¬ (k = 114 ∧ i = 8 + g 0 0) → ¬ (k = 110 ∧ i = 7) → m15 k i = κ6 k i := fun k i d1 d2 d3 => by rw [e15, mu_off2 d3, e14, mu_off2 d2, on8 k i d1]
      refine q m15 (o.fn.tr (fun k i c => of k i (by unfold FN at c; omega) (by unfold FN at c; omega) (by unfold FN at c; omega))) (h6.w (fun k i c => of k i (by omega) (by omega) (by omega))) (fun _ => ?_)
      have wg : ∀ k i, ¬ (k = 0 ∧ i = 0) → ¬ (k = 1 ∧ i = g 0 0) → ¬ (k = 2 ∧ i = g 0 0) → wheelG T n g p k i = g k i := fun k i d1 d2 d3 => by unfold wheelG; rw [mu_off2 d1, mu_off2 d3, mu_off2 d2]
      have w0 : wheelG T n g p 0 0 = g 0 0 + 1 := by unfold wheelG; rw [mu_same]
      obtain ⟨⟨x1, x2, x3, x4, x5, x6⟩, y1, y2, y3⟩ := rg6
      refine ⟨⟨by rw [w0, e15, mu_same], ?_, ?_, ?_, ?_, ?_⟩, fun i i0 i1 => ?_, fun l l0 l1 => ?_, fun f f0 f1 => ?_⟩
      · rw [wg 0 1 (by omega) (by omega) (by omega), of _ _ (by omega) (by omega) (by omega)]; exact x2
      · rw [wg 0 2 (by omega) (by omega) (by omega), of _ _ (by omega) (by omega) (by omega)]; exact x3
      · rw [wg 0 3 (by omega) (by omega) (by omega), of _ _ (by omega) (by omega) (by omega)]; exact x4
      · rw [wg 0 4 (by omega) (by omega) (by omega), of _ _ (by omega) (by omega) (by omega)]; exact x5
      · rw [wg 0 5 (by omega) (by omega) (by omega), of _ _ (by omega) (by omega) (by omega)]; exact x6
      · rw [w0] at i1
        by_cases y : i = g 0 0
        · have t1 : wheelG T n g p 1 i = numV T n (p + 1) := by unfold wheelG; rw [mu_off2 (by omega), mu_off2 (by omega), mu_on2 rfl y]
          have t2 : wheelG T n g p 2 i = numV T n (wheelA T n p) % numV T n (p + 1) := by unfold wheelG; rw [mu_off2 (by omega), mu_on2 rfl y]
          rw [t1, t2, e15, mu_off2 (by omega), mu_off2 (by omega), e14, mu_off2 (by omega), mu_on2 rfl (by omega), e8, mu_on2 rfl (by omega), e1, e2]
          exact ⟨rfl, rfl⟩
        · rw [wg 1 i (by omega) (by omega) (by omega), wg 2 i (by omega) (by omega) (by omega), of _ _ (by omega) (by omega) (by omega), of _ _ (by omega) (by omega) (by omega)]
          exact y1 i i0 (by omega)
      · rw [wg 0 1 (by omega) (by omega) (by omega)] at l1
        rw [wg 3 l (by omega) (by omega) (by omega), wg 4 l (by omega) (by omega) (by omega), wg 5 l (by omega) (by omega) (by omega), wg 6 l (by omega) (by omega) (by omega), of _ _ (by omega) (by omega) (by omega), of _ _ (by omega) (by omega) (by omega), of _ _ (by omega) (by omega) (by omega), of _ _ (by omega) (by omega) (by omega)]
        exact y2 l l0 l1
      · rw [wg 0 2 (by omega) (by omega) (by omega)] at f1
        rw [wg 7 f (by omega) (by omega) (by omega), wg 8 f (by omega) (by omega) (by omega), of _ _ (by omega) (by omega) (by omega), of _ _ (by omega) (by omega) (by omega)]
        exact y3 f f0 f1
    · rintro m17 e17 m18 e18
      have of : ∀ k i, ¬ (k = 113 ∧ i = 8 + g 0 0) → ¬ (k = 114 ∧ i = 8 + g 0 0) → ¬ (k = 110 ∧ i = 7) → m18 k i = κ6 k i := fun k i d1 d2 d3 => by rw [e18, mu_off2 d3, e17, mu_off2 d2, on8 k i d1]
      refine q m18 (o.fn.tr (fun k i c => of k i (by unfold FN at c; omega) (by unfold FN at c; omega) (by unfold FN at c; omega))) (h6.w (fun k i c => of k i (by omega) (by omega) (by omega))) (fun z => ?_)
      have := r5.2.2.mpr z
      omega
theorem c8_kindOf {G : Gm} {S : List Sh} {μ : Mem} {Q : Int → Mem → Prop} {c : Int} (hc : R32 c) (q : Q (kd c) μ) : Ci G mX8_kindOf [(0, c)] S μ Q := by
  unfold kd at q
  refine eX8_kindOf (fun Φ hΦ hR => bX8_kindOf_0 hΦ hR ⟨hc, fun d1 => ⟨fun d2 => ⟨fun d3 => ?_, fun d3 => ?_⟩, fun d2 => ?_⟩, fun d1 => ?_⟩)
  · rw [if_neg d1, if_neg d2, if_neg d3] at q; exact q
  · rw [if_neg d1, if_neg d2, if_pos d3] at q; exact q
  · rw [if_neg d1, if_pos d2] at q; exact q
  · rw [if_pos d1] at q; exact q
/-- the four rows of a link being told, and its count -/
def lk8 (κ : Mem) (c kk va vb vo : Int) : Mem → Prop := fun m => (∀ k i, (k = 110 ∧ 7 ≤ i ∧ i ≤ 12 ∧ i ≠ 8) ∨ (113 ≤ k ∧ k ≤ 120 ∧ ¬ (115 ≤ k ∧ k ≤ 118 ∧ i = 10 + c)) → m k i = κ k i) ∧ m 110 8 = c + 1 ∧ m 115 (10 + c) = kk ∧ m 116 (10 + c) = va ∧ m 117 (10 + c) = vb ∧ m 118 (10 + c) = vo
theorem g8_link {T : Int → Int} {n p kk va vb vo : Int} {g κ m : Mem} (rg : G8 g κ) (gr : GR g) (lk : lk8 κ (g 0 1) kk va vb vo m) (z1 : kk = kd (T (skp T n (p + 1)))) (z2 : va = numV T n (linkA T n p)) (z3 : vb = numV T n (linkB T n g p)) (z4 : vo = numV T n (linkC T n g p)) : G8 (linkG T n g p) m := by
  have g2 := gr.2.1
  obtain ⟨of, s8, s4, s5, s6, s3⟩ := lk
  obtain ⟨⟨x1, x2, x3, x4, x5, x6⟩, y1, y2, y3⟩ := rg
  have wg : ∀ k i, ¬ (k = 0 ∧ i = 1) → ¬ (3 ≤ k ∧ k ≤ 6 ∧ i = g 0 1) → linkG T n g p k i = g k i := fun k i d1 d2 => by unfold linkG; rw [mu_off2 d1, mu_off2 (by omega), mu_off2 (by omega), mu_off2 (by omega), mu_off2 (by omega)]
  have w1 : linkG T n g p 0 1 = g 0 1 + 1 := by unfold linkG; rw [mu_same]
  refine ⟨⟨?_, by rw [w1]; exact s8, ?_, ?_, ?_, ?_⟩, fun i i0 i1 => ?_, fun l l0 l1 => ?_, fun f f0 f1 => ?_⟩
  · rw [wg 0 0 (by omega) (by omega), of _ _ (by omega)]; exact x1
  · rw [wg 0 2 (by omega) (by omega), of _ _ (by omega)]; exact x3
  · rw [wg 0 3 (by omega) (by omega), of _ _ (by omega)]; exact x4
  · rw [wg 0 4 (by omega) (by omega), of _ _ (by omega)]; exact x5
  · rw [wg 0 5 (by omega) (by omega), of _ _ (by omega)]; exact x6
  · rw [wg 0 0 (by omega) (by omega)] at i1
    rw [wg 1 i (by omega) (by omega), wg 2 i (by omega) (by omega), of _ _ (by omega), of _ _ (by omega)]
    exact y1 i i0 i1
  · rw [w1] at l1
    by_cases z : l = g 0 1
    · have t3 : linkG T n g p 3 l = numV T n (linkC T n g p) := by unfold linkG; rw [mu_off2 (by omega), mu_on2 rfl z]
      have t4 : linkG T n g p 4 l = kd (T (skp T n (p + 1))) := by unfold linkG; rw [mu_off2 (by omega), mu_off2 (by omega), mu_off2 (by omega), mu_off2 (by omega), mu_on2 rfl z]
      have t5 : linkG T n g p 5 l = numV T n (linkA T n p) := by unfold linkG; rw [mu_off2 (by omega), mu_off2 (by omega), mu_off2 (by omega), mu_on2 rfl z]
      have t6 : linkG T n g p 6 l = numV T n (linkB T n g p) := by unfold linkG; rw [mu_off2 (by omega), mu_off2 (by omega), mu_on2 rfl z]
      rw [t3, t4, t5, t6, z, s3, s4, s5, s6]
      exact ⟨z4, z1, z2, z3⟩
    · rw [wg 3 l (by omega) (by omega), wg 4 l (by omega) (by omega), wg 5 l (by omega) (by omega), wg 6 l (by omega) (by omega), of _ _ (by omega), of _ _ (by omega), of _ _ (by omega), of _ _ (by omega)]
      exact y2 l l0 (by omega)
  · rw [wg 0 2 (by omega) (by omega)] at f1
    rw [wg 7 f (by omega) (by omega), wg 8 f (by omega) (by omega), of _ _ (by omega), of _ _ (by omega)]
    exact y3 f f0 f1
