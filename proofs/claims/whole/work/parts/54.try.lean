/-! RATES by some of the links, tried -/
def RSx (μ : Mem) (on idl : Int) (ρ : Int → Int × Int) (b : Int) : Prop := RS (μ (wW μ + 1)) (μ (wW μ) 3) (μ (wW μ) 4) (nW μ) (EE μ (wW μ) on idl) ρ b
def OnL (μ : Mem) (on : Int) : Prop := R32 on ∧ ∀ l, 0 ≤ l → l < 11 → bt_ on l = 1 → l < nL μ
theorem Inv.L {μ : Mem} (h : Inv μ) {l : Int} (h0 : 0 ≤ l) (h1 : l < nL μ) : (μ (wW μ + 4) l = μ 115 l ∧ 0 ≤ μ (wW μ + 4) l ∧ μ (wW μ + 4) l ≤ 2) ∧ (μ (wW μ + 5) l = μ 116 l ∧ 0 ≤ μ (wW μ + 5) l ∧ μ (wW μ + 5) l < nW μ) ∧ (μ (wW μ + 6) l = μ 117 l ∧ 0 ≤ μ (wW μ + 6) l ∧ μ (wW μ + 6) l < nW μ) ∧ μ (wW μ + 5) l ≠ μ (wW μ + 6) l ∧ (μ (wW μ + 3) l = μ 118 l ∧ 0 ≤ μ (wW μ + 3) l ∧ μ (wW μ + 3) l ≤ 999) := h.2.1.2.2.2.2.2.2.2.2.1 l h0 h1
theorem Inv.nl {μ : Mem} (h : Inv μ) : nL μ = μ 110 3 ∧ 0 ≤ nL μ ∧ nL μ ≤ 10 := h.2.1.2.2.2.1
theorem Inv.dr {μ : Mem} (h : Inv μ) : μ (wW μ) 3 = μ 110 5 ∧ 0 ≤ μ (wW μ) 3 ∧ (0 < nW μ → μ (wW μ) 3 < nW μ) ∧ (nW μ = 0 → μ (wW μ) 3 = 0) := h.2.1.2.2.2.2.2.1
theorem Inv.R {μ : Mem} (h : Inv μ) : μ (wW μ) 4 = μ 110 6 ∧ 1 ≤ μ (wW μ) 4 ∧ μ (wW μ) 4 ≤ 30 := h.2.1.2.2.2.2.2.2.1
theorem Inv.W {μ : Mem} (h : Inv μ) : wW μ = 3 ∨ wW μ = 12 := h.2.1.1
theorem Inv.l0 {μ : Mem} (h : Inv μ) (hn : nW μ = 0) : nL μ = 0 := by
  have := h.nl
  by_cases c : nL μ = 0
  · exact c
  · have := h.L (l := 0) (by omega) (by omega)
    omega
theorem EE_T {μ : Mem} (h : Inv μ) {on idl : Int} (ok : OnL μ on) : ∀ k x y, EE μ (wW μ) on idl k x y → 0 < μ (wW μ + 1) x ∧ 0 < μ (wW μ + 1) y := by
  rintro k x y ⟨l, l0, l1, l2, rfl, rfl, rfl⟩
  have := h.L l0 (ok.2 l l0 l1 l2)
  obtain ⟨-, ⟨-, p0, p1⟩, ⟨-, q0, q1⟩, -⟩ := this
  have := h.T p0 p1
  have := h.T q0 q1
  omega
theorem RSx_un {μ : Mem} (h : Inv μ) {on idl b1 b2 : Int} {ρ1 ρ2 : Int → Int × Int} (ok : OnL μ on) (h1 : RSx μ on idl ρ1 b1) (h2 : RSx μ on idl ρ2 b2) : b1 = b2 ∧ ∀ w, 0 ≤ w → w < nW μ → ρ1 w = ρ2 w := by
  have := h.R
  exact RS_un (by omega) (EE_T h ok) h1 h2
theorem c3_try {G : Gm} {Q : Mem → Prop} {μ κ : Mem} {on idl : Int} (h : Inv μ) (of : Off (FM 25) μ κ) (ok : OnL μ on) (hi : R32 idl) (k : ∀ κ', Off (FM 25) μ κ' → RSx μ on idl (rr κ' 25) (κ' 25 5) → (0 ≤ κ' 25 4 ∧ κ' 25 4 < 2 ^ (nW μ).toNat) → (∀ w, 0 ≤ w → w < nW μ → (bt_ (κ' 25 4) w = 1 ↔ κ' 26 w ≠ 0)) → Q κ') : Cv G mX3_reckon [(2, 25), (2, wW μ), (0, on), (0, idl)] SHl κ Q := by
  have hW := h.W
  have hw := FT_inv h of.t25
  have hn := h.nw
  have hd := h.dr
  have hR := h.R
  have r : ∀ j i, j < 25 → κ j i = μ j i := fun j i c => of j i (by unfold FM; omega)
  have rf : ∀ j, j < 25 → κ j = μ j := fun j c => funext fun i => r j i c
  have ee : EE κ (wW μ) on idl = EE μ (wW μ) on idl := by
    unfold EE kdE
    rw [rf (wW μ + 4) (by omega), rf (wW μ + 5) (by omega), rf (wW μ + 6) (by omega)]
  have fin : ∀ κ', RKQ κ (wW μ) 25 on idl (nW μ) (μ (wW μ) 3) (μ (wW μ) 4) κ' → Q κ' := fun κ' q => by
    obtain ⟨o2, rs, tr, tb⟩ := q
    rw [ee, rf (wW μ + 1) (by omega)] at rs
    exact k κ' (of.tr o2) rs tr tb
  by_cases c : nW μ = 0
  · refine c3_reckon0 (drv := μ (wW μ) 3) (R := μ (wW μ) 4) hw.1 h.2.1.1 (Or.inr rfl) (by rw [r _ _ (by omega)]; exact c) (fun κ' q => fin κ' ?_)
    rw [c]; exact q
  · refine c3_reckon1 (nw := nW μ) (drv := μ (wW μ) 3) (R := μ (wW μ) 4) ⟨hw.1, h.2.1.1, Or.inr rfl, ⟨by omega, hn.2.2⟩, fun w w0 w1 => ?_, fun l l0 l1 on' => ?_, hR.2, ⟨hd.2.1, hd.2.2.1 (by omega)⟩, ok.1, hi⟩ (r _ _ (by omega)) (r _ _ (by omega)) (r _ _ (by omega)) fin
    · rw [r _ _ (by omega)]; exact (h.T w0 w1).2
    · obtain ⟨⟨k1, k1', k1''⟩, ⟨k2, k2'⟩, ⟨k3, k3'⟩, k4, _⟩ := h.L l0 (ok.2 l l0 l1 on')
      unfold kdE
      rw [r _ _ (by omega), r _ _ (by omega), r _ _ (by omega)]
      refine ⟨?_, k2', k3', k4⟩
      split
      · omega
      · omega
/-- the cut of the reference is the class's set of those on -/
def CutOn (μ : Mem) (cut on idl : Int) : Prop := R32 cut ∧ ∀ l, 0 ≤ l → l < nL μ → (bt_ cut l = 0 ↔ bt_ on l = 1) ∧ (bt_ on l = 1 → bt_ idl l = 1 → μ (wW μ + 4) l = 0)
theorem c8_try {G : Gm} {Q : Mem → Prop} {μ κ : Mem} {cut on idl : Int} (h : Inv μ) (of : Off FR' μ κ) (h30 : κ 110 30 = 0) (ok : OnL μ on) (hi : R32 idl) (co : CutOn μ cut on idl) (k : ∀ κ', Off FR' μ κ' → κ' 110 30 = 0 → RSx μ on idl (rr κ' 121) (κ' 110 29) → Q κ') : Cv G mX8_findRates [(2, 110), (0, cut), (0, idl)] SHl κ Q := by
  have hW := h.W
  have hw := FT_inv h of.tR
  have hn := h.nw
  have hd := h.dr
  have hR := h.R
  have hl := h.nl
  have r : ∀ j i, ¬ FR' j i → κ j i = μ j i := of
  have e3 : κ 110 3 = nL μ := (r _ _ (by unfold FR' FR; omega)).trans hl.1.symm
  have onb : ∀ l, on8 κ cut l ↔ (l ≠ 20 ∧ l < nL μ ∧ bt_ cut l = 0) := fun l => by unfold on8; rw [h30, e3]; omega
  have ee : E8 κ cut idl = EE μ (wW μ) on idl := by
    unfold E8 EE
    refine Edg_eq (fun l l0 l1 on' => ?_) (fun l l0 l1 on' => ?_)
    · obtain ⟨p1, p2, p3⟩ := (onb l).mp on'
      obtain ⟨⟨k1, _⟩, ⟨k2, _⟩, ⟨k3, _⟩, _⟩ := h.L l0 p2
      obtain ⟨c1, c2⟩ := co.2 l l0 p2
      refine ⟨l, l0, by omega, c1.mp p3, ?_, by rw [r 116 l (by unfold FR' FR; omega)]; exact k2, by rw [r 117 l (by unfold FR' FR; omega)]; exact k3⟩
      unfold kdE kd8
      rw [r 115 l (by unfold FR' FR; omega), ← k1]
      have := c2 (c1.mp p3)
      by_cases e : bt_ idl l = 1
      · rw [if_pos e, if_pos ⟨this e, by omega, e⟩]
      · rw [if_neg e, if_neg (by omega)]
    · have p2 := ok.2 l l0 l1 on'
      obtain ⟨⟨k1, _⟩, ⟨k2, _⟩, ⟨k3, _⟩, _⟩ := h.L l0 p2
      obtain ⟨c1, c2⟩ := co.2 l l0 p2
      refine ⟨l, l0, by omega, (onb l).mpr ⟨by omega, p2, c1.mpr on'⟩, ?_, by rw [r 116 l (by unfold FR' FR; omega)]; exact k2.symm, by rw [r 117 l (by unfold FR' FR; omega)]; exact k3.symm⟩
      unfold kdE kd8
      rw [r 115 l (by unfold FR' FR; omega), ← k1]
      have := c2 on'
      by_cases e : bt_ idl l = 1
      · rw [if_pos e, if_pos ⟨this e, by omega, e⟩]
      · rw [if_neg e, if_neg (by omega)]
  have tt : ∀ w, 0 ≤ w → w < nW μ → κ 113 w = μ (wW μ + 1) w := fun w w0 w1 => by rw [r 113 w (by unfold FR' FR; omega)]; exact (h.T w0 w1).1.symm
  have fin : ∀ κ', RFQ κ cut idl (nW μ) (μ (wW μ) 3) (μ (wW μ) 4) κ' → Q κ' := fun κ' q => by
    obtain ⟨o2, rs⟩ := q
    rw [ee] at rs
    refine k κ' (fun j i c => (o2 j i (fun c' => c (Or.inl c'))).trans (of j i c)) ((o2 110 30 (by unfold FR; omega)).trans h30) (RS_T (fun k x y he => ?_) rs)
    obtain ⟨l, l0, l1, l2, rfl, rfl, rfl⟩ := he
    obtain ⟨-, ⟨-, p0, p1⟩, ⟨-, q0, q1⟩, -⟩ := h.L l0 (ok.2 l l0 l1 l2)
    exact ⟨(tt _ p0 p1).symm, (tt _ q0 q1).symm⟩
  have e2 : κ 110 2 = nW μ := (r _ _ (by unfold FR' FR; omega)).trans hn.1.symm
  by_cases c : nW μ = 0
  · refine c8_find0 (drv := μ (wW μ) 3) (R := μ (wW μ) 4) hw.1 (by rw [e2]; exact c) (by rw [e3]; exact h.l0 c) h30 co.1 (fun κ' q => fin κ' ?_)
    rw [c]; exact q
  · refine c8_find1 (nw := nW μ) (drv := μ (wW μ) 3) (R := μ (wW μ) 4) ⟨hw.1, ⟨e2, (r _ _ (by unfold FR' FR; omega)).trans hd.1.symm, (r _ _ (by unfold FR' FR; omega)).trans hR.1.symm⟩, ⟨by omega, hn.2.2⟩, fun w w0 w1 => by rw [tt w w0 w1]; exact (h.T w0 w1).2, fun l l0 l1 on' => ?_, hR.2, ⟨hd.2.1, hd.2.2.1 (by omega)⟩, co.1, hi, by rw [e3]; omega, Or.inl h30⟩ fin
    obtain ⟨p1, p2, p3⟩ := (onb l).mp on'
    obtain ⟨⟨k1, k1', k1''⟩, ⟨k2, k2'⟩, ⟨k3, k3'⟩, k4, _⟩ := h.L l0 p2
    rw [r 115 l (by unfold FR' FR; omega), r 116 l (by unfold FR' FR; omega), r 117 l (by unfold FR' FR; omega), ← k1, ← k2, ← k3]
    exact ⟨by omega, k2', k3', k4⟩
/-- which wheels turn, of any rates in the reference's cells -/
theorem c8_turnSet {G : Gm} {Q : Int → Mem → Prop} {κ : Mem} {n : Int} (wf : WF κ) (h2 : κ 110 2 = n) (hn : 0 ≤ n ∧ n ≤ 8) (hr : ∀ w, 0 ≤ w → w < n → R64 (κ 122 w)) (k : ∀ t, 0 ≤ t → t < 2 ^ n.toNat → (∀ w, 0 ≤ w → w < n → (bt_ t w = 1 ↔ κ 122 w ≠ 0)) → Q t κ) : Ci G mX8_turning [(2, 110)] SHl κ Q := by
  let p : Int → Bool := fun w => decide (κ 122 w ≠ 0)
  refine eX8_turning (fun Φ hΦ hR => bX8_turning_0 hΦ hR ?_)
  have fin : Q (fs p n.toNat) κ := by
    have rg := fs_rg (p := p) (n := n.toNat) (by omega)
    refine k _ rg.1 rg.2 (fun w w0 w1 => ?_)
    have := fs_bt (p := p) n.toNat (by omega) w.toNat (by omega)
    rw [show ((w.toNat : Nat) : Int) = w by omega] at this
    rw [this]
    by_cases c : κ 122 w = 0
    · simp [p, c]
    · rw [if_pos ⟨by omega, by simp [p, c]⟩]; simp [c]
  have loop : ∀ (m i : Nat), (i : Int) + m = n → Ex G Φ 3 4 [some (2, 110), some (0, fs p i), some (0, (i : Int))] [] SHl κ 0 0 := by
    intro m
    induction m with
    | zero =>
      intro i hi
      refine bX8_turning_4 hΦ hR ⟨so_110, ⟨by omega, by omega⟩, ?_⟩
      rw [h2]
      refine ⟨⟨by omega, by omega⟩, fun _ => ?_, fun c => absurd (by omega) c⟩
      rw [show i = n.toNat by omega]; exact fin
    | succ m ih =>
      intro i hi
      have nx := ih (i + 1) (by omega)
      rw [show (((i + 1 : Nat)) : Int) = (i : Int) + 1 by omega] at nx
      refine bX8_turning_4 hΦ hR ⟨so_110, ⟨by omega, by omega⟩, ?_⟩
      rw [h2, wf_110_27 wf]
      refine ⟨⟨by omega, by omega⟩, fun c => absurd c (by omega), fun _ => ⟨ai_122 (by omega) (by omega), hr i (by omega) (by omega), fun c => c_m_one R32_0 ⟨by omega, by omega, ?_⟩, fun c => c_m_one R32_1 ⟨by omega, by omega, ?_⟩⟩⟩
      · have : fs p (i + 1) = fs p i := by show (if p i then _ else _) = _; rw [if_neg (by simp [p, c])]
        rw [if_pos rfl, Int.zero_mul, mor_0 (fs_r i), ← this]; exact nx
      · have : fs p (i + 1) = mor (fs p i) (1 * 2 ^ i) := by show (if p i then _ else _) = _; rw [if_pos (by simp [p, c])]
        rw [if_neg (by decide), nat_pw, ← this]; exact nx
  exact loop n.toNat 0 (by omega)
theorem mand_0 {x y : Int} (hx : R32 x) (hy : R32 y) : mand x y = 0 ↔ ∀ k : Nat, k < 32 → ¬ (bt_ x (k : Int) = 1 ∧ bt_ y (k : Int) = 1) := by
  constructor
  · intro h k hk c
    have := bt_mand hx hy hk
    rw [h, bt_zero, if_pos c] at this
    omega
  · intro h
    refine bt_ext (mand_r _ _) R32_0 (fun k hk => ?_)
    rw [bt_mand hx hy hk, bt_zero, if_neg (h k hk)]
theorem bt_not {x : Int} (hx : R32 x) {k : Nat} (hk : k < 32) : bt_ (mxor x (-1)) (k : Int) = 1 - bt_ x (k : Int) := by
  rw [bt_mxor hx ⟨by decide, by decide⟩ hk, bt_m1 hk]
  rcases bt_01 (x := x) (k := (k : Int)) with e | e <;> rw [e] <;> decide
/-- a set is within another -/
theorem mand_sub {x y : Int} (hx : R32 x) (hy : R32 y) : mand x (mxor y (-1)) = 0 ↔ ∀ k : Nat, k < 32 → bt_ x (k : Int) = 1 → bt_ y (k : Int) = 1 := by
  rw [mand_0 hx (mxor_r _ _)]
  constructor
  · intro h k hk c
    have := h k hk
    rw [bt_not hy hk] at this
    have := bt_rg y (k : Int)
    omega
  · intro h k hk c
    have := h k hk c.1
    have c2 := c.2
    rw [bt_not hy hk] at c2
    omega
theorem sub_le {x y : Int} (hx : 0 ≤ x) (hx1 : x ≤ 2147483647) (hy : 0 ≤ y) (h : ∀ k : Nat, k < 32 → bt_ x (k : Int) = 1 → bt_ y (k : Int) = 1) : x ≤ y := by
  obtain ⟨n, rfl⟩ := Int.eq_ofNat_of_zero_le hx
  obtain ⟨m, rfl⟩ := Int.eq_ofNat_of_zero_le hy
  have : n &&& m = n := by
    apply Nat.eq_of_testBit_eq
    intro k
    rw [Nat.testBit_and]
    by_cases hk : k < 32
    · have := h k hk
      rw [bt_nat, bt_nat] at this
      cases e : n.testBit k
      · rfl
      · rw [e] at this
        cases e2 : m.testBit k
        · rw [e2] at this; simp at this
        · rfl
    · have : n < 2 ^ k := Nat.lt_of_lt_of_le (show n < 2 ^ 32 by omega) (Nat.pow_le_pow_right (by decide) (by omega))
      rw [Nat.testBit_lt_two_pow this]; rfl
  have := Nat.and_le_right (n := n) (m := m)
  omega
theorem lon_rg {μ : Mem} (h : Inv μ) : 0 ≤ lon μ ∧ lon μ < 2 ^ (nL μ).toNat := by
  have hl := h.nl
  refine rg_bt (mand_r _ _) (by omega) (fun k h0 h1 => ?_)
  show bt_ (lon μ) (k : Int) = 0
  rw [lon_bt h.2.1 h.2.2.2.1.c.k h1, if_neg (by omega)]
theorem lon_b {μ : Mem} (h : Inv μ) {l : Int} (l0 : 0 ≤ l) (l1 : l < 32) : bt_ (lon μ) l = 1 ↔ l < nL μ ∧ bt_ (μ 29 2) l = 0 := by
  have := lon_bt h.2.1 h.2.2.2.1.c.k (k := l.toNat) (by omega)
  rw [show ((l.toNat : Nat) : Int) = l by omega] at this
  rw [this]
  by_cases c : l < nL μ ∧ bt_ (μ 29 2) l = 0
  · rw [if_pos c]; simp [c]
  · rw [if_neg c]; simp [c]
