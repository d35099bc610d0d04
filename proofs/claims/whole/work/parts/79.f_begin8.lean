/-! A NEW CLOCK, the reference -/
def r11 (κ : Mem) (x : Int) : Mem := fun k i => if k = 111 ∧ 0 ≤ i ∧ i < x then κ 114 i else κ k i
theorem r11_out {κ : Mem} {x k i : Int} (h : ¬ (k = 111 ∧ 0 ≤ i ∧ i < x)) : r11 κ x k i = κ k i := if_neg h
theorem r11_in {κ : Mem} {x i : Int} (h : 0 ≤ i ∧ i < x) : r11 κ x 111 i = κ 114 i := if_pos ⟨rfl, h⟩
theorem r11_0 {κ : Mem} : r11 κ 0 = κ := by
  funext k i
  exact r11_out (by omega)
theorem r11_s {κ m : Mem} {x : Int} (x0 : 0 ≤ x) (e : m = mu (r11 κ x) 111 x (r11 κ x 114 x)) : m = r11 κ (x + 1) := by
  funext k i
  by_cases c : k = 111 ∧ 0 ≤ i ∧ i < x + 1
  · rw [c.1, r11_in c.2, e]
    by_cases d : i = x
    · rw [mu_on2 rfl d, r11_out (by omega), d]
    · rw [mu_off2 (by omega), r11_in (by omega)]
  · rw [r11_out c, e, mu_off2 (by omega), r11_out (by omega)]
def FEn (k i : Int) : Prop := (k = 111 ∧ 0 ≤ i ∧ i ≤ 10) ∨ (k = 110 ∧ (i = 31 ∨ i = 37 ∨ i = 42)) ∨ (k = 112 ∧ 0 ≤ i ∧ i ≤ 1)
theorem c8_clockEnd {G : Gm} {Φ : Fr} {Q : Int → Mem → Prop} (hΦ : St G Φ cX8_clock RX8 2 4 95 0 0) (hR : Rt G Φ (Pi SHl Q) 0 0 (some .int)) {κ : Mem} (wf : WF κ) (q : ∀ m, Off FEn κ m → (∀ i, 0 ≤ i → i < 8 → m 111 i = κ 114 i) → (m 111 8 = 0 ∧ m 111 9 = 0 ∧ m 111 10 = 0) → (m 110 31 = 0 ∧ m 110 37 = 0 ∧ m 110 42 = 0) → (m 112 0 = 0 ∧ m 112 1 = 0) → Q (κ 110 2) m) : Ex G Φ 2 135 [some (2, 110), some (0, 0)] [] SHl κ 0 0 := by
  have wfr : ∀ x, WF (r11 κ x) := fun x => wf_sm wf (fun k i d => r11_out (by unfold dF at d; omega))
  have loop : ∀ (m : Nat) (x : Int), x + m = 8 → 0 ≤ x → Ex G Φ 2 135 [some (2, 110), some (0, x)] [] SHl (r11 κ x) 0 0 := by
    intro m
    induction m with
    | zero =>
      intro x hx x0
      have ex : x = 8 := by omega
      have w := wfr x
      refine bX8_clock_135 hΦ hR ⟨⟨by omega, by omega⟩, fun _ => ⟨so_110, ?_⟩, fun c => absurd (by omega) c⟩
      rw [wf_110_0 w]
      refine ⟨ai_111 (by decide) (by decide), ?_⟩
      rintro m4 e4
      rw [show m4 110 0 = 111 by rw [e4, mu_off2 (by omega)]; exact wf_110_0 w]
      refine ⟨ai_111 (by decide) (by decide), ?_⟩
      rintro m6 e6
      rw [show m6 110 0 = 111 by rw [e6, mu_off2 (by omega), e4, mu_off2 (by omega)]; exact wf_110_0 w]
      refine ⟨ai_111 (by decide) (by decide), ?_⟩
      rintro m8 e8 m9 e9 m10 e10 m11 e11
      have k11 : m11 = mu (mu (mu (mu (mu (mu (r11 κ x) 111 8 0) 111 9 0) 111 10 0) 110 37 0) 110 42 0) 110 31 0 := by rw [e11, e10, e9, e8, e6, e4]
      clear e4 e6 e8 e9 e10 e11
      have w11 : m11 110 1 = 112 := by rw [k11, mu_off2 (by omega), mu_off2 (by omega), mu_off2 (by omega), mu_off2 (by omega), mu_off2 (by omega), mu_off2 (by omega)]; exact wf_110_1 w
      rw [w11]
      refine ⟨ai_112 (by decide) (by decide), ?_⟩
      rintro m13 e13
      rw [show m13 110 1 = 112 by rw [e13, mu_off2 (by omega)]; exact w11]
      refine ⟨ai_112 (by decide) (by decide), ?_⟩
      rintro m15 e15
      have o11 : ∀ k i, ¬ FEn k i → m11 k i = κ k i := fun k i c => by
        unfold FEn at c
        rw [k11, mu_off2 (by omega), mu_off2 (by omega), mu_off2 (by omega), mu_off2 (by omega), mu_off2 (by omega), mu_off2 (by omega), r11_out (by omega)]
      have o15 : ∀ k i, k ≠ 112 → m15 k i = m11 k i := fun k i c => by rw [e15, mu_off2 (by omega), e13, mu_off2 (by omega)]
      have off : Off FEn κ m15 := fun k i c => by
        have c' := c
        unfold FEn at c'
        rw [e15, mu_off2 (by omega), e13, mu_off2 (by omega)]; exact o11 k i c
      have a2 : m15 110 2 = κ 110 2 := off _ _ (by unfold FEn; omega)
      rw [a2]
      refine q m15 off (fun i i0 i1 => ?_) ⟨?_, ?_, ?_⟩ ⟨?_, ?_, ?_⟩ ⟨?_, ?_⟩
      · rw [o15 _ _ (by decide), k11, mu_off2 (by omega), mu_off2 (by omega), mu_off2 (by omega), mu_off2 (by omega), mu_off2 (by omega), mu_off2 (by omega), r11_in (by omega)]
      · rw [o15 _ _ (by decide), k11, mu_off2 (by omega), mu_off2 (by omega), mu_off2 (by omega), mu_off2 (by omega), mu_off2 (by omega), mu_same]
      · rw [o15 _ _ (by decide), k11, mu_off2 (by omega), mu_off2 (by omega), mu_off2 (by omega), mu_off2 (by omega), mu_same]
      · rw [o15 _ _ (by decide), k11, mu_off2 (by omega), mu_off2 (by omega), mu_off2 (by omega), mu_same]
      · rw [o15 _ _ (by decide), k11, mu_same]
      · rw [o15 _ _ (by decide), k11, mu_off2 (by omega), mu_off2 (by omega), mu_same]
      · rw [o15 _ _ (by decide), k11, mu_off2 (by omega), mu_same]
      · rw [e15, mu_off2 (by omega), e13, mu_same]
      · rw [e15, mu_same]
    | succ m ih =>
      intro x hx x0
      have w := wfr x
      refine bX8_clock_135 hΦ hR ⟨⟨by omega, by omega⟩, fun c => absurd c (by omega), fun _ => ⟨so_110, ?_⟩⟩
      rw [wf_110_14 w, wf_110_0 w]
      refine ⟨ai_114 (by omega) (by omega), ai_111 (by omega) (by omega), ?_⟩
      rintro m19 e19
      rw [r11_s x0 e19]
      exact ih (x + 1) (by omega) (by omega)
  have := loop 8 0 (by decide) (by decide)
  rw [r11_0] at this
  exact this
/-- the works in use, in the reference -/
def GT (g κ : Mem) : Prop := (κ 110 2 = g 0 0 ∧ κ 110 3 = g 0 1 ∧ κ 110 4 = g 0 2 ∧ κ 110 5 = g 0 3 ∧ κ 110 6 = g 0 4) ∧ (∀ i, 0 ≤ i → i < g 0 0 → κ 113 i = g 1 i ∧ κ 114 i = g 2 i) ∧ (∀ l, 0 ≤ l → l < g 0 1 → κ 118 l = g 3 l ∧ κ 115 l = g 4 l ∧ κ 116 l = g 5 l ∧ κ 117 l = g 6 l) ∧ ∀ f, 0 ≤ f → f < g 0 2 → κ 119 f = g 7 f ∧ κ 120 f = g 8 f
theorem gt_tk {g κ : Mem} (h : G8 g κ) (gr : GR g) : GT g (tkA κ) := by
  obtain ⟨⟨x1, x2, x3, x4, x5, x6⟩, y1, y2, y3⟩ := h
  obtain ⟨g1, g2, g3, -⟩ := gr
  have o : ∀ i, tkA κ 110 i = tk5 κ 110 i := fun i => by unfold tkA; rw [cpy_out (by omega), cpy_out (by omega), cpy_out (by omega)]
  have t : ∀ k i, k ≠ 110 → tk5 κ k i = κ k i := fun k i c => tk5_off (by omega)
  refine ⟨⟨?_, ?_, ?_, ?_, ?_⟩, fun i i0 i1 => ?_, fun l l0 l1 => ?_, fun f f0 f1 => ?_⟩
  · rw [o, ← x1]; unfold tk5; rw [mu_off2 (by omega), mu_off2 (by omega), mu_off2 (by omega), mu_off2 (by omega), mu_same]
  · rw [o, ← x2]; unfold tk5; rw [mu_off2 (by omega), mu_off2 (by omega), mu_off2 (by omega), mu_same]
  · rw [o, ← x3]; unfold tk5; rw [mu_off2 (by omega), mu_off2 (by omega), mu_same]
  · rw [o, ← x4]; unfold tk5; rw [mu_off2 (by omega), mu_same]
  · rw [o, ← x5]; unfold tk5; rw [mu_same]
  · obtain ⟨z1, z2⟩ := y1 i i0 i1
    have r : ∀ k, (k = 113 ∨ k = 114) → tkA κ k i = κ k (8 + i) := fun k c => by
      unfold tkA; rw [cpy_out (by omega), cpy_out (by omega), cpy_in (by omega), t _ _ (by omega)]
    rw [r 113 (by omega), r 114 (by omega)]; exact ⟨z1, z2⟩
  · have z := y2 l l0 l1
    have r : ∀ k, (115 ≤ k ∧ k ≤ 118) → tkA κ k l = κ k (10 + l) := fun k c => by
      unfold tkA; rw [cpy_out (by omega), cpy_in (by omega), cpy_out (by omega), t _ _ (by omega)]
    rw [r 118 (by omega), r 115 (by omega), r 116 (by omega), r 117 (by omega)]; exact z
  · have z := y3 f f0 f1
    have r : ∀ k, (k = 119 ∨ k = 120) → tkA κ k f = κ k (6 + f) := fun k c => by
      unfold tkA; rw [cpy_in (by omega), cpy_out (by omega), cpy_out (by omega), t _ _ (by omega)]
    rw [r 119 (by omega), r 120 (by omega)]; exact z
def F8 (k i : Int) : Prop := (k = 110 ∧ (2 ≤ i ∧ i ≤ 12 ∨ 22 ≤ i ∧ i ≤ 26 ∨ i = 31 ∨ i = 37 ∨ i = 42)) ∨ (k = 111 ∧ 0 ≤ i ∧ i ≤ 10) ∨ (k = 112 ∧ 0 ≤ i ∧ i ≤ 1) ∨ (113 ≤ k ∧ k ≤ 120 ∧ 0 ≤ i)
def F9 (k i : Int) : Prop := FN k i ∨ (k = 110 ∧ i = 22)
theorem tkA_off {κ : Mem} {k i : Int} (h : ¬ (k = 110 ∧ 2 ≤ i ∧ i ≤ 6)) (h2 : ¬ (113 ≤ k ∧ k ≤ 120 ∧ 0 ≤ i)) : tkA κ k i = κ k i := by
  unfold tkA
  rw [cpy_out (by omega), cpy_out (by omega), cpy_out (by omega), tk5_off h]
theorem c8_clock {G : Gm} {Q : Int → Mem → Prop} {T : Int → Int} {n : Int} {κ : Mem} {N : Nat} (rt : RT T n κ) (na : ¬ act T n N) (pre : ∀ j, j < N → act T n j)
    (kf : (itr T n N).2.1 ≠ 0 → ∀ κ', Off F9 κ κ' → κ' 110 22 = 0 → κ' 110 26 = (itr T n N).2.2 → Q (-10 - (itr T n N).2.1) κ')
    (ko : (itr T n N).2.1 = 0 → ∀ κ', Off F8 κ κ' → κ' 110 22 = 0 → κ' 110 26 = -1 → GT (itr T n N).1 κ' → (∀ i, 0 ≤ i → i < (itr T n N).1 0 0 → κ' 111 i = (itr T n N).1 2 i) → (κ' 111 8 = 0 ∧ κ' 111 9 = 0 ∧ κ' 111 10 = 0) → (κ' 110 31 = 0 ∧ κ' 110 37 = 0 ∧ κ' 110 42 = 0) → (κ' 112 0 = 0 ∧ κ' 112 1 = 0) → Q ((itr T n N).1 0 0) κ') : Ci G mX8_clock [(2, 110)] SHl κ Q := by
  have hn := rt.2.2.1
  have gr := (itr_p (T := T) hn.1 N pre).1
  have rN := rt
  refine eX8_clock (fun Φ hΦ hR => bX8_clock_0 hΦ hR ⟨so_110, ?_⟩)
  rintro m2 e2 m3 e3 m4 e4 m5 e5 m6 e6 m7 e7 m8 e8 m9 e9 m10 e10
  have k10 : m10 = mu (mu (mu (mu (mu (mu (mu (mu (mu κ 110 23 0) 110 25 0) 110 26 (-1)) 110 7 0) 110 8 0) 110 9 0) 110 10 0) 110 11 1) 110 12 0 := by rw [e10, e9, e8, e7, e6, e5, e4, e3, e2]
  clear e2 e3 e4 e5 e6 e7 e8 e9 e10
  have o10 : Off FN κ m10 := fun k i c => by
    unfold FN at c
    rw [k10, mu_off2 (by omega), mu_off2 (by omega), mu_off2 (by omega), mu_off2 (by omega), mu_off2 (by omega), mu_off2 (by omega), mu_off2 (by omega), mu_off2 (by omega), mu_off2 (by omega)]
  have v23 : m10 110 23 = 0 := by rw [k10, mu_off2 (by omega), mu_off2 (by omega), mu_off2 (by omega), mu_off2 (by omega), mu_off2 (by omega), mu_off2 (by omega), mu_off2 (by omega), mu_off2 (by omega), mu_same]
  have v25 : m10 110 25 = 0 := by rw [k10, mu_off2 (by omega), mu_off2 (by omega), mu_off2 (by omega), mu_off2 (by omega), mu_off2 (by omega), mu_off2 (by omega), mu_off2 (by omega), mu_same]
  have v26 : m10 110 26 = -1 := by rw [k10, mu_off2 (by omega), mu_off2 (by omega), mu_off2 (by omega), mu_off2 (by omega), mu_off2 (by omega), mu_off2 (by omega), mu_same]
  have v7 : m10 110 7 = 0 := by rw [k10, mu_off2 (by omega), mu_off2 (by omega), mu_off2 (by omega), mu_off2 (by omega), mu_off2 (by omega), mu_same]
  have v8 : m10 110 8 = 0 := by rw [k10, mu_off2 (by omega), mu_off2 (by omega), mu_off2 (by omega), mu_off2 (by omega), mu_same]
  have v9 : m10 110 9 = 0 := by rw [k10, mu_off2 (by omega), mu_off2 (by omega), mu_off2 (by omega), mu_same]
  have v10 : m10 110 10 = 0 := by rw [k10, mu_off2 (by omega), mu_off2 (by omega), mu_same]
  have v11 : m10 110 11 = 1 := by rw [k10, mu_off2 (by omega), mu_same]
  have v12 : m10 110 12 = 0 := by rw [k10, mu_same]
  clear k10
  have rt10 : RT T n m10 := rt.off (fun k i c => o10 k i (by unfold dF at c; unfold FN; omega))
  have gz : ∀ i, i ≠ 4 → g0_ 0 i = 0 := fun i h => by unfold g0_; rw [if_neg (by omega)]
  have g4 : g0_ 0 4 = 1 := by unfold g0_; rw [if_pos ⟨rfl, rfl⟩]
  have st : R8s T n (hd T n 0) m10 := ⟨rt10, fun _ => ⟨v25, v23, v26⟩, fun e => absurd rfl e, by show (0 : Int) ≤ 0 ∧ (0 : Int) ≤ 4; decide⟩
  have sg : G8 (itr T n 0).1 m10 := by
    show G8 g0_ m10
    refine ⟨⟨by rw [v7, gz 0 (by decide)], by rw [v8, gz 1 (by decide)], by rw [v9, gz 2 (by decide)], by rw [v10, gz 3 (by decide)], by rw [v11, g4], by rw [v12, gz 5 (by decide)]⟩, fun i i0 i1 => ?_, fun i i0 i1 => ?_, fun i i0 i1 => ?_⟩
    · rw [gz 0 (by decide)] at i1; omega
    · rw [gz 1 (by decide)] at i1; omega
    · rw [gz 2 (by decide)] at i1; omega
  refine c8_clockLoop (κ0 := m10) (N := N) hΦ hR hn na pre (fun κ' h g of => ?_) N 0 m10 (by omega) st (fun _ => sg) Off.rf
  have of' : Off FN κ κ' := o10.tr of
  have r5 := h.r5
  have wf' := h.1.1
  refine bX8_clock_109 hΦ hR ⟨so_110, ?_⟩
  rintro m2 e2
  have a25 : m2 110 25 = κ' 110 25 := by rw [e2, mu_off2 (by omega)]
  have a26 : m2 110 26 = κ' 110 26 := by rw [e2, mu_off2 (by omega)]
  have a22 : m2 110 22 = 0 := by rw [e2, mu_same]
  have o2 : ∀ k i, ¬ (k = 110 ∧ i = 22) → m2 k i = κ' k i := fun k i c => by rw [e2, mu_off2 c]
  rw [a25]
  refine ⟨⟨by omega, by omega⟩, fun c => ?_, fun c => ?_⟩
  · have z := r5.2.2.mp (by omega)
    have g' := g z
    have wf2 : WF m2 := wf_sm wf' (fun k i d => o2 k i (by unfold dF at d; omega))
    have g2 : G8 (itr T n N).1 m2 := by
      obtain ⟨⟨x1, x2, x3, x4, x5, x6⟩, y1, y2, y3⟩ := g'
      refine ⟨⟨by rw [o2 _ _ (by omega)]; exact x1, by rw [o2 _ _ (by omega)]; exact x2, by rw [o2 _ _ (by omega)]; exact x3, by rw [o2 _ _ (by omega)]; exact x4, by rw [o2 _ _ (by omega)]; exact x5, by rw [o2 _ _ (by omega)]; exact x6⟩, fun i i0 i1 => by rw [o2 _ _ (by omega), o2 _ _ (by omega)]; exact y1 i i0 i1, fun l l0 l1 => by rw [o2 _ _ (by omega), o2 _ _ (by omega), o2 _ _ (by omega), o2 _ _ (by omega)]; exact y2 l l0 l1, fun f f0 f1 => by rw [o2 _ _ (by omega), o2 _ _ (by omega)]; exact y3 f f0 f1⟩
    have gt := gt_tk g2 gr
    refine c8_take wf2 (c8_clockEnd hΦ hR (wf_sm wf2 (fun k i d => tkA_off (by unfold dF at d; omega) (by unfold dF at d; omega))) (fun m om p8 d8 z8 i8 => ?_))
    have a2 : tkA m2 110 2 = (itr T n N).1 0 0 := gt.1.1
    have r : ∀ k i, ¬ FEn k i → m k i = tkA m2 k i := om
    rw [a2]
    refine ko z m (fun k i c => ?_) ?_ ?_ ?_ (fun i i0 i1 => ?_) d8 z8 i8
    · unfold F8 at c
      rw [r k i (by unfold FEn; omega), tkA_off (by omega) (by omega), o2 k i (by omega)]
      exact of' k i (by unfold FN; omega)
    · rw [r _ _ (by unfold FEn; omega), tkA_off (by omega) (by omega)]; exact a22
    · rw [r _ _ (by unfold FEn; omega), tkA_off (by omega) (by omega), a26]; exact (h.2.1 z).2.2
    · obtain ⟨⟨x1, x2, x3, x4, x5⟩, y1, y2, y3⟩ := gt
      refine ⟨⟨?_, ?_, ?_, ?_, ?_⟩, fun i i0 i1 => ?_, fun l l0 l1 => ?_, fun f f0 f1 => ?_⟩
      · rw [r _ _ (by unfold FEn; omega)]; exact x1
      · rw [r _ _ (by unfold FEn; omega)]; exact x2
      · rw [r _ _ (by unfold FEn; omega)]; exact x3
      · rw [r _ _ (by unfold FEn; omega)]; exact x4
      · rw [r _ _ (by unfold FEn; omega)]; exact x5
      · rw [r _ _ (by unfold FEn; omega), r _ _ (by unfold FEn; omega)]; exact y1 i i0 i1
      · rw [r _ _ (by unfold FEn; omega), r _ _ (by unfold FEn; omega), r _ _ (by unfold FEn; omega), r _ _ (by unfold FEn; omega)]; exact y2 l l0 l1
      · rw [r _ _ (by unfold FEn; omega), r _ _ (by unfold FEn; omega)]; exact y3 f f0 f1
    · have g0 := gr.1
      rw [p8 i i0 (by omega)]; exact (gt.2.1 i i0 i1).2
  · have z : (itr T n N).2.1 ≠ 0 := fun z => by have := r5.2.2.mpr z; omega
    obtain ⟨f1, f2⟩ := h.2.2.1 z
    rw [f1]
    refine kf z m2 (fun k i c => ?_) a22 (by rw [a26, f2])
    unfold F9 at c
    rw [o2 k i (fun y => c (Or.inr y))]
    exact of' k i (fun y => c (Or.inl y))
