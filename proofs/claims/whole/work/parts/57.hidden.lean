/-! A HIDDEN LINK -/
def Eh (μ : Mem) (kd a b : Int) : Int → Int → Int → Prop := fun k x y => EE μ (wW μ) (lon μ) 0 k x y ∨ (k = kd ∧ x = a ∧ y = b)
def RSh (μ : Mem) (kd a b : Int) (ρ : Int → Int × Int) (v : Int) : Prop := RS (μ (wW μ + 1)) (μ (wW μ) 3) (μ (wW μ) 4) (nW μ) (Eh μ kd a b) ρ v
def Hw (μ : Mem) (w kd r a b : Int) : Prop := ∃ ρ, RSh μ kd a b ρ 0 ∧ ρ w = (r, 1)
theorem RSh_un {μ : Mem} (h : Inv μ) {kd a b b1 b2 : Int} {ρ1 ρ2 : Int → Int × Int} (ha : 0 ≤ a ∧ a < nW μ) (hb : 0 ≤ b ∧ b < nW μ) (h1 : RSh μ kd a b ρ1 b1) (h2 : RSh μ kd a b ρ2 b2) : b1 = b2 ∧ ∀ w, 0 ≤ w → w < nW μ → ρ1 w = ρ2 w := by
  have := h.R
  refine RS_un (by omega) (fun k x y he => ?_) h1 h2
  rcases he with he | ⟨-, rfl, rfl⟩
  · exact EE_T h (onL_lon h) k x y he
  · have := h.T ha.1 ha.2
    have := h.T hb.1 hb.2
    omega
theorem Hw_eq {μ κ : Mem} (h : Inv μ) (of : Off (FT μ) μ κ) {w kd r a b : Int} : Hw κ w kd r a b ↔ Hw μ w kd r a b := by
  have hW := h.W
  have hl := h.nl
  have r0 := FT_r0 h of
  have ew : wW κ = wW μ := r0 0 1 (by omega)
  have en : nW κ = nW μ := by show κ (wW κ) 0 = _; rw [ew]; exact r0 _ _ (by omega)
  have el : nL κ = nL μ := by show κ (wW κ) 1 = _; rw [ew]; exact r0 _ _ (by omega)
  have lo : lon κ = lon μ := by unfold lon; rw [el, r0 29 2 (by omega)]
  have ee : EE κ (wW κ) (lon κ) 0 = EE μ (wW μ) (lon μ) 0 := by
    unfold EE
    rw [lo, ew]
    refine Edg_eq (fun l l0 l1 on' => ?_) (fun l l0 l1 on' => ?_)
    · have := (onL_lon h).2 l l0 l1 on'
      exact ⟨l, l0, l1, on', by unfold kdE; rw [r0 (wW μ + 4) l (by omega)], (r0 (wW μ + 5) l (by omega)).symm, (r0 (wW μ + 6) l (by omega)).symm⟩
    · have := (onL_lon h).2 l l0 l1 on'
      exact ⟨l, l0, l1, on', by unfold kdE; rw [r0 (wW μ + 4) l (by omega)], r0 (wW μ + 5) l (by omega), r0 (wW μ + 6) l (by omega)⟩
  unfold Hw RSh Eh
  rw [ee, en, ew, r0 (wW μ) 3 (by omega), r0 (wW μ) 4 (by omega), show κ (wW μ + 1) = μ (wW μ + 1) from funext fun i => r0 _ i (by omega)]
theorem c7_would {G : Gm} {Q : Int → Mem → Prop} {μ κ : Mem} {w kd r a b : Int} (h : Inv μ) (of : Off (FT μ) μ κ) (w0 : 0 ≤ w) (w1 : w < nW μ) (hk : 0 ≤ kd ∧ kd ≤ 2) (hr : -30 ≤ r ∧ r ≤ 30 ∧ r ≠ 0) (a0 : 0 ≤ a) (ab : a < b) (b1 : b < nW μ) (k1 : ∀ κ', Off (FT μ) μ κ' → Hw μ w kd r a b → Q 1 κ') (k0 : ∀ κ', Off (FT μ) μ κ' → ¬ Hw μ w kd r a b → Q 0 κ') : Ci G mX7_wouldTurn [(2, 0), (0, w), (0, r), (0, kd), (0, a), (0, b)] SHl κ Q := by
  have hW := h.W
  have hn := h.nw
  have hl := h.nl
  have hd := h.dr
  have hR := h.R
  have r0 := FT_r0 h of
  have wk := (FT_inv h of).1
  have ew : κ 0 1 = wW μ := r0 0 1 (by omega)
  have el : κ (κ 0 1) 1 = nL μ := by rw [ew]; exact r0 _ _ (by omega)
  refine eX7_wouldTurn (fun Φ hΦ hR' => bX7_wouldTurn_0 hΦ hR' ⟨so_0, ?_⟩)
  rw [el, ew]
  refine ⟨so_W h.2.1.1, eX6_setLink (fun Φ2 hΦ2 hR2 => bX6_setLink_0 hΦ2 hR2 ⟨so_W h.2.1.1, ?_⟩)⟩
  have iW := h.2.1.1
  rw [wf_W8 wk iW]
  refine ⟨ai_W4 iW (by omega) (by omega), ?_⟩
  rintro m3 e3
  rw [show m3 (wW μ) 9 = wW μ + 5 by rw [e3, mu_off2 (by omega)]; exact wf_W9 wk iW]
  refine ⟨ai_W5 iW (by omega) (by omega), ?_⟩
  rintro m5 e5
  rw [show m5 (wW μ) 10 = wW μ + 6 by rw [e5, e3, mu_off2 (by omega), mu_off2 (by omega)]; exact wf_W10 wk iW]
  refine ⟨ai_W6 iW (by omega) (by omega), ?_⟩
  rintro m e7
  have km : m = mu (mu (mu κ (wW μ + 4) (nL μ) kd) (wW μ + 5) (nL μ) a) (wW μ + 6) (nL μ) b := by rw [e7, e5, e3]
  have om : Off (FT μ) μ m := by
    rw [km]
    refine Off.mu (Off.mu (Off.mu of ?_) ?_) ?_ <;> (unfold FT; omega)
  have hm := FT_inv h om
  have rm := FT_r0 h om
  have mw : wW m = wW μ := rm 0 1 (by omega)
  have mn : nW m = nW μ := by show m (wW m) 0 = _; rw [mw]; exact rm _ _ (by omega)
  have ml : nL m = nL μ := by show m (wW m) 1 = _; rw [mw]; exact rm _ _ (by omega)
  have lo : lon m = lon μ := by unfold lon; rw [ml, rm 29 2 (by omega)]
  refine c7_linksOn hm.1 hm.2.1 ⟨hl.2.1, by omega, ?_⟩
  rw [wf_0_4 hm.1, show m 0 1 = wW μ from mw, lo]
  have onb : ∀ l, 0 ≤ l → l < 11 → (bt_ (mor (lon μ) (1 * 2 ^ (nL μ).toNat)) l = 1 ↔ (l < nL μ ∧ bt_ (lon μ) l = 1) ∨ l = nL μ) := fun l l0 l1 => by
    have p := bt_mor (x := lon μ) (y := 1 * 2 ^ (nL μ).toNat) (mand_r _ _) (by rw [Int.one_mul]; exact r32_2 (by omega)) (k := l.toNat) (by omega)
    rw [Int.one_mul, bt_2, show ((l.toNat : Nat) : Int) = l by omega] at p
    rw [Int.one_mul, p]
    have q := lon_b h l0 (by omega)
    by_cases c : l = nL μ
    · simp [c]
    · rw [if_neg (show ¬ l.toNat = (nL μ).toNat by omega)]
      by_cases d : bt_ (lon μ) l = 1
      · have := (q.mp d).1
        simp [d, c, this]
      · simp [d, c]
  have r4 : m (wW μ + 4) (nL μ) = kd := by rw [km, mu_off2 (by omega), mu_off2 (by omega), mu_same]
  have r5 : m (wW μ + 5) (nL μ) = a := by rw [km, mu_off2 (by omega), mu_same]
  have r6 : m (wW μ + 6) (nL μ) = b := by rw [km, mu_same]
  have ee : EE m (wW μ) (mor (lon μ) (1 * 2 ^ (nL μ).toNat)) 0 = Eh μ kd a b := by
    funext k x y
    apply propext
    have kz : ∀ (ν : Mem) (l : Int), kdE ν (wW μ) 0 l = ν (wW μ + 4) l := fun ν l => by unfold kdE; rw [bt_zero, if_neg (by decide)]
    constructor
    · rintro ⟨l, l0, l1, l2, rfl, rfl, rfl⟩
      rcases (onb l l0 l1).mp l2 with ⟨c, d⟩ | c
      · exact Or.inl ⟨l, l0, l1, d, by rw [kz, kz, rm (wW μ + 4) l (by omega)], rm (wW μ + 5) l (by omega), rm (wW μ + 6) l (by omega)⟩
      · rw [c]
        exact Or.inr ⟨by rw [kz]; exact r4, r5, r6⟩
    · rintro (⟨l, l0, l1, l2, rfl, rfl, rfl⟩ | ⟨rfl, rfl, rfl⟩)
      · have c := (onL_lon h).2 l l0 l1 l2
        exact ⟨l, l0, l1, (onb l l0 l1).mpr (Or.inl ⟨c, l2⟩), by rw [kz, kz, rm (wW μ + 4) l (by omega)], (rm (wW μ + 5) l (by omega)).symm, (rm (wW μ + 6) l (by omega)).symm⟩
      · exact ⟨nL μ, hl.2.1, by omega, (onb _ hl.2.1 (by omega)).mpr (Or.inr rfl), by rw [kz]; exact r4.symm, r5.symm, r6.symm⟩
  refine ⟨so_25, c3_reckon1 (nw := nW μ) (drv := μ (wW μ) 3) (R := μ (wW μ) 4) ⟨hm.1, iW, Or.inr rfl, ⟨by omega, hn.2.2⟩, fun v v0 v1 => ?_, fun l l0 l1 l2 => ?_, hR.2, ⟨hd.2.1, hd.2.2.1 (by omega)⟩, mor_r _ _, R32_0⟩ (rm _ _ (by omega)) (rm _ _ (by omega)) (rm _ _ (by omega)) (fun κ' q => ?_)⟩
  · rw [rm _ _ (by omega)]; exact (h.T v0 v1).2
  · unfold kdE
    rw [bt_zero, if_neg (by decide)]
    rcases (onb l l0 l1).mp l2 with ⟨c, d⟩ | c
    · obtain ⟨⟨k1, k1', k1''⟩, ⟨k2, k2'⟩, ⟨k3, k3'⟩, k4, _⟩ := h.L l0 c
      rw [rm (wW μ + 4) l (by omega), rm (wW μ + 5) l (by omega), rm (wW μ + 6) l (by omega)]
      exact ⟨by omega, k2', k3', k4⟩
    · rw [c, r4, r5, r6]
      exact ⟨by omega, ⟨a0, by omega⟩, ⟨by omega, b1⟩, by omega⟩
  · obtain ⟨o2, rs, -, -⟩ := q
    rw [ee, show m (wW μ + 1) = μ (wW μ + 1) from funext fun i => rm _ i (by omega)] at rs
    have rs : RSh μ kd a b (rr κ' 25) (κ' 25 5) := rs
    have ok : Off (FT μ) μ κ' := om.tr (o2.mono (fun _ _ c => Or.inl c))
    have wk' := (FT_inv h ok).1
    have g := (RS_gd rs w w0 w1).1
    obtain ⟨-, g2, g3, g4, g5⟩ := g
    have g2 : 1 ≤ κ' 27 w := g2
    have g3 : κ' 27 w ≤ 810000 := g3
    have g4 : -24300000 ≤ κ' 26 w := g4
    have g5 : κ' 26 w ≤ 24300000 := g5
    rw [wf_0_4 wk', wf_25_0 wk', wf_25_1 wk']
    have un : Hw μ w kd r a b → κ' 26 w = r ∧ κ' 27 w = 1 := fun ⟨ρ, q1, q2⟩ => by
      have u : (κ' 26 w, κ' 27 w) = ρ w := (RSh_un h ⟨a0, by omega⟩ ⟨by omega, b1⟩ rs q1).2 w w0 w1
      rw [q2] at u
      exact ⟨congrArg Prod.fst u, congrArg Prod.snd u⟩
    refine ⟨so_25, ai_26 w0 (by omega), ⟨by omega, by omega⟩, ⟨by omega, by omega⟩, ⟨by omega, by omega⟩, fun c => k0 κ' ok (fun q => c (un q).1), fun c => ⟨ai_27 w0 (by omega), ⟨by omega, by omega⟩, fun d => k0 κ' ok (fun q => d (un q).2), fun d => k1 κ' ok ⟨rr κ' 25, ?_, Prod.ext c d⟩⟩⟩
    have z : κ' 25 5 = 0 := by
      rcases rs with ⟨e, -⟩ | ⟨-, -, -, z⟩
      · exact e
      · have : κ' 26 w = 0 := congrArg Prod.fst (z w w0 w1)
        omega
    rw [z] at rs; exact rs
theorem c8_gives {G : Gm} {Q : Int → Mem → Prop} {μ κ : Mem} {w kd r a b : Int} (h : Inv μ) (of : Off (FT μ) μ κ) (w0 : 0 ≤ w) (w1 : w < nW μ) (hk : 0 ≤ kd ∧ kd ≤ 2) (hr : -30 ≤ r ∧ r ≤ 30 ∧ r ≠ 0) (a0 : 0 ≤ a) (ab : a < b) (b1 : b < nW μ) (k1 : ∀ κ', Off (FT μ) μ κ' → Hw μ w kd r a b → Q 1 κ') (k0 : ∀ κ', Off (FT μ) μ κ' → ¬ Hw μ w kd r a b → Q 0 κ') : Ci G mX8_gives [(2, 110), (0, a), (0, b), (0, kd), (0, w), (0, r)] SHl κ Q := by
  have hW := h.W
  have hn := h.nw
  have hl := h.nl
  have hd := h.dr
  have hR := h.R
  have ic := h.2.2.2.1.c
  have icr := ic.r h.2.1
  have cr : R32 (μ 29 2) := ⟨by omega, by omega⟩
  have wk := (FT_inv h of).1
  refine eX8_gives (fun Φ hΦ hR' => bX8_gives_0 hΦ hR' ⟨so_110, ?_⟩)
  rintro m2 e2
  rw [show m2 110 15 = 115 by rw [e2, mu_off2 (by omega)]; exact wf_110_15 wk]
  refine ⟨ai_115 (by decide) (by decide), ?_⟩
  rintro m4 e4
  rw [show m4 110 16 = 116 by rw [e4, e2, mu_off2 (by omega), mu_off2 (by omega)]; exact wf_110_16 wk]
  refine ⟨ai_116 (by decide) (by decide), ?_⟩
  rintro m6 e6
  rw [show m6 110 17 = 117 by rw [e6, e4, e2, mu_off2 (by omega), mu_off2 (by omega), mu_off2 (by omega)]; exact wf_110_17 wk]
  refine ⟨ai_117 (by decide) (by decide), ?_⟩
  rintro m e8
  have km : m = mu (mu (mu (mu κ 110 30 1) 115 20 kd) 116 20 a) 117 20 b := by rw [e8, e6, e4, e2]
  have om : Off (FT μ) μ m := by
    rw [km]
    refine Off.mu (Off.mu (Off.mu (Off.mu of ?_) ?_) ?_) ?_ <;> (unfold FT FR'; omega)
  have hm := FT_inv h om
  have rm : ∀ k i, 110 ≤ k → ¬ FR' k i → ¬ (115 ≤ k ∧ k ≤ 117 ∧ i = 20) → k ≠ 124 → k ≠ 125 → k ≠ 129 → m k i = μ k i := fun k i c1 c2 c3 c4 c5 c6 => om k i (by unfold FT FM; unfold FR' FR at c2 ⊢; omega)
  have m30 : m 110 30 = 1 := by rw [km, mu_off2 (by omega), mu_off2 (by omega), mu_off2 (by omega), mu_same]
  have e3 : m 110 3 = nL μ := (rm _ _ (by decide) (by unfold FR' FR; omega) (by omega) (by decide) (by decide) (by decide)).trans hl.1.symm
  have e10 : m 111 10 = μ 29 2 := (rm _ _ (by decide) (by unfold FR' FR; omega) (by omega) (by decide) (by decide) (by decide)).trans ic.1
  rw [wf_110_0 hm.1, e10]
  have r4 : m 115 20 = kd := by rw [km, mu_off2 (by omega), mu_off2 (by omega), mu_same]
  have r5 : m 116 20 = a := by rw [km, mu_off2 (by omega), mu_same]
  have r6 : m 117 20 = b := by rw [km, mu_same]
  have onb : ∀ l, on8 m (μ 29 2) l ↔ (l = 20 ∨ (l < nL μ ∧ bt_ (μ 29 2) l = 0)) := fun l => by unfold on8; rw [m30, e3]; omega
  have kz : ∀ l, kd8 m 0 l = m 115 l := fun l => by unfold kd8; rw [bt_zero, if_neg (by omega)]
  have kz7 : ∀ l, kdE μ (wW μ) 0 l = μ (wW μ + 4) l := fun l => by unfold kdE; rw [bt_zero, if_neg (by decide)]
  have rl : ∀ l, l < nL μ → m 115 l = μ 115 l ∧ m 116 l = μ 116 l ∧ m 117 l = μ 117 l := fun l c => ⟨rm _ _ (by decide) (by unfold FR' FR; omega) (by omega) (by decide) (by decide) (by decide), rm _ _ (by decide) (by unfold FR' FR; omega) (by omega) (by decide) (by decide) (by decide), rm _ _ (by decide) (by unfold FR' FR; omega) (by omega) (by decide) (by decide) (by decide)⟩
  have ee : E8 m (μ 29 2) 0 = Eh μ kd a b := by
    funext k x y
    apply propext
    constructor
    · rintro ⟨l, l0, l1, l2, rfl, rfl, rfl⟩
      rcases (onb l).mp l2 with c | ⟨c, d⟩
      · rw [c]
        exact Or.inr ⟨by rw [kz]; exact r4, r5, r6⟩
      · obtain ⟨⟨k1, _⟩, ⟨k2, _⟩, ⟨k3, _⟩, _⟩ := h.L l0 c
        obtain ⟨s1, s2, s3⟩ := rl l c
        exact Or.inl ⟨l, l0, by omega, (lon_b h l0 (by omega)).mpr ⟨c, d⟩, by rw [kz, kz7, s1, k1], by rw [s2, k2], by rw [s3, k3]⟩
    · rintro (⟨l, l0, l1, l2, rfl, rfl, rfl⟩ | ⟨rfl, rfl, rfl⟩)
      · obtain ⟨c, d⟩ := (lon_b h l0 (by omega)).mp l2
        obtain ⟨⟨k1, _⟩, ⟨k2, _⟩, ⟨k3, _⟩, _⟩ := h.L l0 c
        obtain ⟨s1, s2, s3⟩ := rl l c
        exact ⟨l, l0, by omega, (onb l).mpr (Or.inr ⟨c, d⟩), by rw [kz, kz7, s1, k1], by rw [s2, k2], by rw [s3, k3]⟩
      · exact ⟨20, by decide, by decide, (onb 20).mpr (Or.inl rfl), by rw [kz]; exact r4.symm, r5.symm, r6.symm⟩
  have tt : ∀ v, 0 ≤ v → v < nW μ → m 113 v = μ (wW μ + 1) v := fun v v0 v1 => by rw [rm _ _ (by decide) (by unfold FR' FR; omega) (by omega) (by decide) (by decide) (by decide)]; exact (h.T v0 v1).1.symm
  have mm : ∀ i, ¬ (i = 29 ∨ i = 30) → m 110 i = μ 110 i := fun i c => rm _ _ (by decide) (by unfold FR' FR; omega) (by omega) (by decide) (by decide) (by decide)
  refine ⟨ai_111 (by decide) (by decide), c8_find1 (nw := nW μ) (drv := μ (wW μ) 3) (R := μ (wW μ) 4) ⟨hm.1, ⟨(mm _ (by omega)).trans hn.1.symm, (mm _ (by omega)).trans hd.1.symm, (mm _ (by omega)).trans hR.1.symm⟩, ⟨by omega, hn.2.2⟩, fun v v0 v1 => by rw [tt v v0 v1]; exact (h.T v0 v1).2, fun l l0 l1 l2 => ?_, hR.2, ⟨hd.2.1, hd.2.2.1 (by omega)⟩, cr, R32_0, by rw [e3]; omega, Or.inr m30⟩ (fun κ' q => ?_)⟩
  · rcases (onb l).mp l2 with c | ⟨c, d⟩
    · rw [c, r4, r5, r6]
      exact ⟨by omega, ⟨a0, by omega⟩, ⟨by omega, b1⟩, by omega⟩
    · obtain ⟨⟨k1, k1', k1''⟩, ⟨k2, k2'⟩, ⟨k3, k3'⟩, k4, _⟩ := h.L l0 c
      obtain ⟨s1, s2, s3⟩ := rl l c
      rw [s1, s2, s3, ← k1, ← k2, ← k3]
      exact ⟨by omega, k2', k3', k4⟩
  · obtain ⟨o2, rs⟩ := q
    rw [ee] at rs
    have rs : RSh μ kd a b (rr κ' 121) (κ' 110 29) := RS_T (fun k x y he => by
      rcases he with ⟨l, l0, l1, l2, rfl, rfl, rfl⟩ | ⟨-, rfl, rfl⟩
      · obtain ⟨-, ⟨-, p0, p1⟩, ⟨-, q0, q1⟩, -⟩ := h.L l0 ((onL_lon h).2 l l0 l1 l2)
        exact ⟨(tt _ p0 p1).symm, (tt _ q0 q1).symm⟩
      · exact ⟨(tt _ a0 (by omega)).symm, (tt _ (by omega) b1).symm⟩) rs
    have ok : Off (FT μ) μ κ' := om.tr (o2.mono (fun _ _ c => Or.inr (Or.inl (Or.inl c))))
    rintro m11 e11
    have ok' : Off (FT μ) μ m11 := by rw [e11]; exact Off.mu ok (by unfold FT FR'; omega)
    have wk' := (FT_inv h ok').1
    have f29 : m11 110 29 = κ' 110 29 := by rw [e11, mu_off2 (by omega)]
    have f22 : m11 122 w = κ' 122 w := by rw [e11, mu_off2 (by omega)]
    have f23 : m11 123 w = κ' 123 w := by rw [e11, mu_off2 (by omega)]
    have g := (RS_gd rs w w0 w1).1
    obtain ⟨-, g2, g3, g4, g5⟩ := g
    have g2 : 1 ≤ κ' 123 w := g2
    have g3 : κ' 123 w ≤ 810000 := g3
    have g4 : -24300000 ≤ κ' 122 w := g4
    have g5 : κ' 122 w ≤ 24300000 := g5
    rw [wf_110_27 wk', wf_110_28 wk', f29, f22, f23]
    have un : Hw μ w kd r a b → κ' 110 29 = 0 ∧ κ' 122 w = r ∧ κ' 123 w = 1 := fun ⟨ρ, q1, q2⟩ => by
      have u0 := RSh_un h ⟨a0, by omega⟩ ⟨by omega, b1⟩ rs q1
      have u : (κ' 122 w, κ' 123 w) = ρ w := u0.2 w w0 w1
      rw [q2] at u
      exact ⟨u0.1, congrArg Prod.fst u, congrArg Prod.snd u⟩
    refine ⟨by rcases RS_b rs with e | e <;> rw [e] <;> exact ⟨by decide, by decide⟩, fun c => k0 m11 ok' (fun q => c (un q).1), fun z => ⟨ai_122 w0 (by omega), ⟨by omega, by omega⟩, ⟨by omega, by omega⟩, ⟨by omega, by omega⟩, fun c => k0 m11 ok' (fun q => c (un q).2.1), fun c => ⟨ai_123 w0 (by omega), ⟨by omega, by omega⟩, fun d => k0 m11 ok' (fun q => d (un q).2.2), fun d => k1 m11 ok' ⟨rr κ' 121, by rw [z] at rs; exact rs, Prod.ext c d⟩⟩⟩⟩
