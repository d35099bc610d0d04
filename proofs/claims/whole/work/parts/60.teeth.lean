/-! TEETH that fit to what stood; the next day to look -/
def pwt (μ : Mem) (w t n : Int) : Int := (plc μ w 0 + μ 22 w * n / μ 23 w) % t
def RX (μ κ : Mem) : Prop := Off (FT μ) μ κ ∧ ∀ w, 0 ≤ w → w < nW μ → κ 122 w = μ 22 w ∧ κ 123 w = μ 23 w
theorem RX.of {μ κ : Mem} (r : RN μ κ) : RX μ κ := ⟨r.1.tR, r.2.1⟩
theorem plc_FT {μ κ : Mem} (h : Inv μ) (of : Off (FT μ) μ κ) {w n : Int} : plc κ w n = plc μ w n := by
  have hW := h.W
  have r0 := FT_r0 h of
  have r : ∀ k i, 21 ≤ k → k ≤ 24 ∨ k = 30 → κ k i = μ k i := fun k i c d => of k i (by unfold FT FM FR' FR; omega)
  have ew : wW κ = wW μ := r0 0 1 (by omega)
  unfold plc
  rw [ew, r0 (wW μ + 1) w (by omega), r0 29 0 (by omega), r0 29 1 (by omega), r 30 w (by omega) (by omega), r 22 w (by omega) (by omega), r 23 w (by omega) (by omega)]
theorem c7_placeWith {G : Gm} {Q : Int → Mem → Prop} {μ κ : Mem} {w t n : Int} (h : Inv μ) (of : Off (FT μ) μ κ) (w0 : 0 ≤ w) (w1 : w < nW μ) (ht : 3 ≤ t ∧ t ≤ 30) (hn : 0 ≤ n ∧ n ≤ 100000) (k : Q (pwt μ w t n) κ) : Ci G mX7_placeWith [(2, 0), (0, w), (0, t), (0, n)] SHl κ Q := by
  obtain ⟨hi, en, el⟩ := off8 h of
  have hW := h.W
  have nw := h.nw
  have r : ∀ k i, 21 ≤ k → k ≤ 24 ∨ k = 30 → κ k i = μ k i := fun k i c d => of k i (by unfold FT FM FR' FR; omega)
  have p0 := plc_rg h w0 w1 (n := 0)
  have hT := h.T w0 w1
  have hg := (h.G w0 w1).1
  have rb := rate_bd (n := n) hg ⟨by omega, by omega⟩
  refine eX7_placeWith (fun Φ hΦ hR => bX7_placeWith_0 hΦ hR ⟨so_0, c7_place hi w0 (by omega) ⟨by decide, by decide⟩ ?_⟩)
  rw [plc_FT h of]
  refine ⟨⟨by omega, by omega⟩, ⟨by omega, by omega⟩, c7_turnedIn hi.1 w0 (by omega) (by rw [r 22 w (by omega) (by omega), r 23 w (by omega) (by omega)]; exact hg) ⟨by omega, by omega⟩ ?_⟩
  rw [r 22 w (by omega) (by omega), r 23 w (by omega) (by omega)]
  exact ⟨⟨by omega, by omega⟩, c_leftOver ⟨by omega, by omega⟩ (by omega) (by omega) k⟩
theorem c8_placeX {G : Gm} {Q : Int → Mem → Prop} {μ κ : Mem} {w n : Int} (h : Inv μ) (rx : RX μ κ) (w0 : 0 ≤ w) (w1 : w < nW μ) (hn : 0 ≤ n ∧ n ≤ 100000) (k : Q (plc μ w n) κ) : Ci G mX8_placeIn [(2, 110), (0, w), (1, n)] SHl κ Q := by
  have hT := h.T w0 w1
  have hg := (h.G w0 w1).1
  have hi := FT_inv h rx.1
  have nw := h.nw
  have hW := h.W
  obtain ⟨⟨d0, d1, d2⟩, n2, n4⟩ := h.2.2.2.1.N
  have p := n4 w w0 w1
  have r : ∀ k i, (k = 111 ∨ k = 113) → κ k i = μ k i := fun k i c => rx.1 k i (by unfold FT FM FR' FR; omega)
  obtain ⟨q1, q2⟩ := rx.2 w w0 w1
  have e4 : κ 113 w = μ (wW μ + 1) w := (r _ _ (by omega)).trans hT.1.symm
  have ep : plc8 κ w n = plc μ w n := by
    unfold plc8 plc
    rw [q1, q2, r 111 w (by omega), r 111 8 (by omega), r 111 9 (by omega), e4, ← p.1, ← d0, ← d1]
  rw [← ep] at k
  exact c8_placeR hi.1 w0 (by omega) (by rw [e4]; exact hT.2) (by rw [q1, q2]; exact hg) (by rw [r 111 w (by omega), ← p.1]; omega) (by rw [r 111 8 (by omega), r 111 9 (by omega), ← d0, ← d1]; omega) hn k
theorem c8_placeBy {G : Gm} {Q : Int → Mem → Prop} {μ κ : Mem} {w t n : Int} (h : Inv μ) (rx : RX μ κ) (w0 : 0 ≤ w) (w1 : w < nW μ) (ht : 3 ≤ t ∧ t ≤ 30) (hn : 0 ≤ n ∧ n ≤ 100000) (k : Q (pwt μ w t n) κ) : Ci G mX8_placeBy [(2, 110), (0, w), (0, t), (0, n)] SHl κ Q := by
  have hT := h.T w0 w1
  have hg := (h.G w0 w1).1
  have hi := FT_inv h rx.1
  have nw := h.nw
  obtain ⟨q1, q2⟩ := rx.2 w w0 w1
  have p0 := plc_rg h w0 w1 (n := 0)
  have rb := rate_bd (n := n) hg ⟨by omega, by omega⟩
  obtain ⟨b1, b2⟩ := h.r22 w0 w1
  have tm : Int.tmod (plc μ w 0) t = plc μ w 0 % t := by rw [tmod_pos (by omega), if_pos (Or.inl p0.1)]
  have em := emod_rg (x := plc μ w 0) (y := t) (by omega)
  refine eX8_placeBy (fun Φ hΦ hR => bX8_placeBy_0 hΦ hR ⟨so_110, c8_placeX h rx w0 w1 ⟨by decide, by decide⟩ ?_⟩)
  rw [wf_110_27 hi.1, wf_110_28 hi.1, tm, q1, q2]
  refine ⟨⟨by omega, by omega⟩, ⟨by omega, by omega⟩, by omega, ⟨by omega, by omega⟩, ai_122 w0 (by omega), ⟨by omega, by omega⟩, ai_123 w0 (by omega), c_m_down ⟨by omega, by omega⟩ (by omega) (by omega) (c_m_over ⟨by omega, by omega⟩ (by omega) (by omega) ?_)⟩
  rw [Int.emod_add_emod]
  exact k
def sees (μ : Mem) (w t : Int) : Prop := ∀ j, 0 ≤ j → j < μ 94 3 → μ 95 j = w → pwt μ w t (μ 96 j) = μ 97 j
theorem Inv.seen {μ : Mem} (h : Inv μ) : (μ 94 3 = μ 110 37 ∧ 0 ≤ μ 94 3 ∧ μ 94 3 ≤ 12) ∧ ∀ j, 0 ≤ j → j < μ 94 3 → (μ 95 j = μ 126 j ∧ 0 ≤ μ 95 j ∧ μ 95 j < nW μ) ∧ (μ 96 j = μ 127 j ∧ 0 ≤ μ 96 j ∧ μ 96 j ≤ 999) ∧ (μ 97 j = μ 128 j ∧ 0 ≤ μ 97 j ∧ μ 97 j ≤ 29) := by
  obtain ⟨q1, q2, q3, q4⟩ := h.2.2.2.2.2.2.1
  exact ⟨q1, q3⟩
theorem pwt_rg {μ : Mem} {w t n : Int} (ht : 3 ≤ t) : 0 ≤ pwt μ w t n ∧ pwt μ w t n < t := emod_rg (by omega)
theorem c7_isAsSeen {G : Gm} {Q : Int → Mem → Prop} {μ : Mem} {w t : Int} (h : Inv μ) (w0 : 0 ≤ w) (w1 : w < nW μ) (ht : 3 ≤ t ∧ t ≤ 30) (k1 : sees μ w t → Q 1 μ) (k0 : ¬ sees μ w t → Q 0 μ) : Ci G mX7_isAsSeen [(2, 0), (0, w), (0, t)] SHl μ Q := by
  have wf := h.1
  have nw := h.nw
  obtain ⟨c1, c2⟩ := h.seen
  refine eX7_isAsSeen (fun Φ hΦ hR => bX7_isAsSeen_0 hΦ hR ?_)
  have loop : ∀ (m : Nat) (j : Int), 0 ≤ j → j + m = μ 94 3 → (∀ i, 0 ≤ i → i < j → μ 95 i = w → pwt μ w t (μ 96 i) = μ 97 i) → Ex G Φ 4 2 [some (2, 0), some (0, w), some (0, t), some (0, j)] [] SHl μ 0 0 := by
    intro m
    induction m with
    | zero =>
      intro j j0 hj al
      refine bX7_isAsSeen_2 hΦ hR ⟨so_0, ?_⟩
      rw [wf_0_8 wf]
      exact ⟨so_94, ⟨by omega, by omega⟩, ⟨by omega, by omega⟩, fun _ => k1 (fun i i0 i1 => al i i0 (by omega)), fun c => absurd (by omega) c⟩
    | succ m ih =>
      intro j j0 hj al
      obtain ⟨⟨a1, a2, a3⟩, ⟨b1, b2, b3⟩, ⟨d1, d2, d3⟩⟩ := c2 j j0 (by omega)
      have pr := pwt_rg (μ := μ) (w := w) (t := t) (n := μ 96 j) ht.1
      refine bX7_isAsSeen_2 hΦ hR ⟨so_0, ?_⟩
      rw [wf_0_8 wf, wf_94_0 wf, wf_94_1 wf]
      refine ⟨so_94, ⟨by omega, by omega⟩, ⟨by omega, by omega⟩, fun c => absurd c (by omega), fun _ => ⟨ai_95 j0 (by omega), ⟨by omega, by omega⟩, ⟨by omega, by omega⟩, fun c => ih (j + 1) (by omega) (by omega) (fun i i0 i1 e => ?_), fun c => ⟨ai_96 j0 (by omega), c7_placeWith h Off.rf w0 w1 ht ⟨by omega, by omega⟩ ?_⟩⟩⟩
      · by_cases q : i = j
        · rw [q] at e; exact absurd e c
        · exact al i i0 (by omega) e
      · rw [wf_0_8 wf, wf_94_2 wf]
        refine ⟨so_94, ai_97 j0 (by omega), ⟨by omega, by omega⟩, ⟨by omega, by omega⟩, fun d => ih (j + 1) (by omega) (by omega) (fun i i0 i1 e => ?_), fun d => k0 (fun q => d (q j j0 (by omega) c))⟩
        by_cases q : i = j
        · rw [q]; exact d
        · exact al i i0 (by omega) e
  exact loop (μ 94 3).toNat 0 (by decide) (by omega) (fun i i0 i1 => by omega)
theorem c8_mayHave {G : Gm} {Q : Int → Mem → Prop} {μ κ : Mem} {w t : Int} (h : Inv μ) (rx : RX μ κ) (w0 : 0 ≤ w) (w1 : w < nW μ) (ht : 3 ≤ t ∧ t ≤ 30) (k1 : sees μ w t → Q 1 κ) (k0 : ¬ sees μ w t → Q 0 κ) : Ci G mX8_mayHave [(2, 110), (0, w), (0, t)] SHl κ Q := by
  have wk := (FT_inv h rx.1).1
  have hW := h.W
  have nw := h.nw
  obtain ⟨c1, c2⟩ := h.seen
  have r : ∀ k i, (k = 126 ∨ k = 127 ∨ k = 128 ∨ (k = 110 ∧ i = 37)) → κ k i = μ k i := fun k i c => rx.1 k i (by unfold FT FM FR' FR; omega)
  have e37 : κ 110 37 = μ 94 3 := (r _ _ (by omega)).trans c1.1.symm
  refine eX8_mayHave (fun Φ hΦ hR => bX8_mayHave_0 hΦ hR ?_)
  have end0 : ∀ j, R32 j → ¬ sees μ w t → Ex G Φ 5 5 [some (2, 110), some (0, w), some (0, t), some (0, 0), some (0, j)] [] SHl κ 0 0 := fun j hj ns => by
    refine bX8_mayHave_5 hΦ hR ⟨so_110, hj, ?_⟩
    rw [e37]
    exact ⟨⟨by omega, by omega⟩, fun _ => ⟨by decide, by decide, k0 ns⟩, fun _ => ⟨R32_0, fun _ => ⟨by decide, by decide, k0 ns⟩, fun e => absurd rfl e⟩⟩
  have loop : ∀ (m : Nat) (j : Int), 0 ≤ j → j + m = μ 94 3 → (∀ i, 0 ≤ i → i < j → μ 95 i = w → pwt μ w t (μ 96 i) = μ 97 i) → Ex G Φ 5 5 [some (2, 110), some (0, w), some (0, t), some (0, 1), some (0, j)] [] SHl κ 0 0 := by
    intro m
    induction m with
    | zero =>
      intro j j0 hj al
      refine bX8_mayHave_5 hΦ hR ⟨so_110, ⟨by omega, by omega⟩, ?_⟩
      rw [e37]
      exact ⟨⟨by omega, by omega⟩, fun _ => ⟨by decide, by decide, k1 (fun i i0 i1 => al i i0 (by omega))⟩, fun c => absurd (by omega) c⟩
    | succ m ih =>
      intro j j0 hj al
      obtain ⟨⟨a1, a2, a3⟩, ⟨b1, b2, b3⟩, ⟨d1, d2, d3⟩⟩ := c2 j j0 (by omega)
      have pr := pwt_rg (μ := μ) (w := w) (t := t) (n := μ 96 j) ht.1
      refine bX8_mayHave_5 hΦ hR ⟨so_110, ⟨by omega, by omega⟩, ?_⟩
      rw [e37, wf_110_34 wk, wf_110_35 wk, r 126 j (by omega), r 127 j (by omega), ← a1, ← b1]
      refine ⟨⟨by omega, by omega⟩, fun c => absurd c (by omega), fun _ => ⟨R32_1, fun e => absurd e (by decide), fun _ => ⟨ai_126 j0 (by omega), ⟨by omega, by omega⟩, ⟨by omega, by omega⟩, fun c => ih (j + 1) (by omega) (by omega) (fun i i0 i1 e => ?_), fun c => ⟨ai_127 j0 (by omega), c8_placeBy h rx w0 w1 ht ⟨by omega, by omega⟩ ?_⟩⟩⟩⟩
      · by_cases q : i = j
        · rw [q] at e; exact absurd e c
        · exact al i i0 (by omega) e
      · rw [wf_110_36 wk, r 128 j (by omega), ← d1]
        refine ⟨ai_128 j0 (by omega), ⟨by omega, by omega⟩, ⟨by omega, by omega⟩, fun d => end0 (j + 1) ⟨by omega, by omega⟩ (fun q => d (q j j0 (by omega) c)), fun d => ih (j + 1) (by omega) (by omega) (fun i i0 i1 e => ?_)⟩
        by_cases q : i = j
        · rw [q]; exact d
        · exact al i i0 (by omega) e
  exact loop (μ 94 3).toNat 0 (by decide) (by omega) (fun i i0 i1 => by omega)
noncomputable def seb (μ : Mem) (w : Int) : Int → Bool := fun t => @decide (sees μ w t) (Classical.propDecidable _)
theorem seb_t {μ : Mem} {w t : Int} : seb μ w t = true ↔ sees μ w t := by
  unfold seb
  exact @decide_eq_true_iff _ (Classical.propDecidable _)
theorem q3_ {p : Int → Bool} {t : Nat} (h : 3 ≤ t) : p3 p t = true ↔ p t = true := by unfold p3; simp; intro _; omega
theorem c7_teethThatFit {G : Gm} {Q : Int → Mem → Prop} {μ : Mem} {w : Int} (h : Inv μ) (w0 : 0 ≤ w) (w1 : w < nW μ) (k : Q (fs (p3 (seb μ w)) 31) μ) : Ci G mX7_teethThatFit [(2, 0), (0, w)] SHl μ Q := by
  refine eX7_teethThatFit (fun Φ hΦ hR => bX7_teethThatFit_0 hΦ hR ?_)
  have loop : ∀ (m t : Nat), 3 ≤ t → t + m = 31 → Ex G Φ 4 4 [some (2, 0), some (0, w), some (0, fs (p3 (seb μ w)) t), some (0, (t : Int))] [] SHl μ 0 0 := by
    intro m
    induction m with
    | zero =>
      intro t t0 ht
      obtain rfl : t = 31 := by omega
      exact bX7_teethThatFit_4 hΦ hR ⟨⟨by decide, by decide⟩, fun _ => k, fun c => absurd (by decide) c⟩
    | succ m ih =>
      intro t t0 ht
      have nx := ih (t + 1) (by omega) (by omega)
      rw [show (((t + 1 : Nat)) : Int) = (t : Int) + 1 by omega] at nx
      refine bX7_teethThatFit_4 hΦ hR ⟨⟨by omega, by omega⟩, fun c => absurd c (by omega), fun _ => ⟨so_0, c7_isAsSeen h w0 w1 ⟨by omega, by omega⟩ (fun s => ⟨R32_1, fun e => absurd e (by decide), fun _ => ⟨by omega, by omega, ?_⟩⟩) (fun s => ⟨R32_0, fun _ => ?_, fun e => absurd rfl e⟩)⟩⟩
      · rw [fs_y ((q3_ t0).mpr (seb_t.mpr s))] at nx; rw [nat_pw]; exact nx
      · rw [fs_n (fun q => s (seb_t.mp ((q3_ t0).mp q)))] at nx; exact nx
  exact loop 28 3 (by decide) (by decide)
theorem c8_teeth {G : Gm} {Q : Int → Mem → Prop} {μ κ0 : Mem} {w i : Int} (h : Inv μ) (ha : R32 w) (hi : R32 i) (w0 : 0 ≤ w) (w1 : w < nW μ) (k : ∀ κ, RX μ κ → Q (hs (seb μ w) i 3 28 0) κ) : Ci G mX8_teeth [(2, 110), (0, w), (0, i)] SHl μ Q := by
  refine eX8_teeth (fun Φ hΦ hR => bX8_teeth_0 hΦ hR ⟨so_110, c8_isW h ha (fun _ _ => yes_ (c8_rates h (fun κ rn => ?_))) (fun d => absurd ⟨w0, w1⟩ d)⟩)
  have rx := RX.of rn
  have K := k κ rx
  have loop : ∀ (m : Nat) (t f : Int), 0 ≤ f → f ≤ t → 3 ≤ t → t + m = 31 → hs (seb μ w) i t m f = hs (seb μ w) i 3 28 0 → Ex G Φ 5 20 [some (2, 110), some (0, w), some (0, i), some (0, f), some (0, t)] [] SHl κ 0 0 := by
    intro m
    induction m with
    | zero =>
      intro t f f0 f1 t0 ht e
      have e : (if i = -1 then f else -1) = _ := e
      rw [← e] at K
      refine bX8_teeth_20 hΦ hR ⟨⟨by omega, by omega⟩, fun _ => ⟨hi, fun c => ?_, fun c => ?_⟩, fun c => absurd (by omega) c⟩
      · rw [if_neg c] at K; exact K
      · rw [if_pos c] at K; exact K
    | succ m ih =>
      intro t f f0 f1 t0 ht e
      refine bX8_teeth_20 hΦ hR ⟨⟨by omega, by omega⟩, fun c => absurd c (by omega), fun _ => ⟨so_110, c8_mayHave h rx w0 w1 ⟨by omega, by omega⟩ (fun s => ⟨R32_1, fun c => absurd c (by decide), fun _ => ⟨⟨by omega, by omega⟩, hi, fun d => ?_, fun d => ?_⟩⟩) (fun s => ⟨R32_0, fun _ => ?_, fun c => absurd rfl c⟩)⟩⟩
      · rw [hs_yn (seb_t.mpr s) d] at e
        exact ih (t + 1) (f + 1) (by omega) (by omega) (by omega) (by omega) e
      · rw [hs_y (seb_t.mpr s) d] at e
        rw [← e] at K; exact K
      · rw [hs_n (fun q => s (seb_t.mp q))] at e
        exact ih (t + 1) f f0 (by omega) (by omega) (by omega) e
  exact loop 28 3 0 (by decide) (by decide) (by decide) (by decide) rfl
theorem st_teeth {G : Gm} {μ : Mem} {a0 a1 : Int} (h : Inv μ) (ha0 : R32 a0) (ha1 : R32 a1) : Both G mX7_teeth mX8_teeth [(0, a0), (0, a1)] μ := by
  refine eX7_teeth (fun Φ hΦ hR => bX7_teeth_0 hΦ hR ⟨so_0, c7_hasW h ha0 (fun x0 x1 => yes_ (c7_teethThatFit h x0 x1 (c7_hm3 ha1 (c8_teeth (κ0 := μ) h ha0 ha1 x0 x1 (fun κ rx => ⟨rfl, ?_, FT_inv h rx.1⟩))))) (fun c => no_ (eX8_teeth (fun Φ hΦ hR => bX8_teeth_0 hΦ hR ⟨so_110, c8_isW h ha0 (fun x0 x1 => absurd ⟨x0, x1⟩ c) (fun _ => no_ ⟨rfl, by decide, h⟩)⟩)))⟩)
  have rr := hs_r (p := seb μ a0) (i := a1) 28 3 0 (by decide) (by decide) (by decide) (by decide)
  exact ⟨by omega, by omega⟩
