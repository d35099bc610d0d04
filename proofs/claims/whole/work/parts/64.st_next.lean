/-! NEXT and TOGETHER -/
set_option maxHeartbeats 2000000 in
theorem c7_dayOfAll {G : Gm} {Q : Int → Mem → Prop} {μ : Mem} {set most : Int} (h : Inv μ) (s0 : 0 ≤ set) (s1 : set < 2 ^ (nF μ).toNat) (hm : 0 ≤ most ∧ most ≤ 99999) (k : ∀ r, Fst (alf μ set) (most + 1) r → Q r μ) : Ci G mX7_dayOfAll [(2, 0), (0, set), (0, most)] SHl μ Q := by
  have wf := h.1
  have hW := h.2.1.1
  have hf := h.nf
  have nw := h.nw
  have p6 := pw10 (n := (nF μ).toNat) (by omega)
  have sr : R32 set := ⟨by omega, by omega⟩
  have tr := h.2.2.2.2.2.2.2.2.1
  have tb := h.2.2.2.2.2.2.2.2.2
  have p8 := pw10 (n := (nW μ).toNat) (by omega)
  refine eX7_dayOfAll (fun Φ hΦ hR => bX7_dayOfAll_0 hΦ hR ⟨so_0, c7_leaderOf h sr (fun no => ?_) (fun l l0 l1 lb lt => ?_)⟩)
  · have con : ∀ n, alf μ set n ↔ alf μ set 0 := fun n => by
      unfold alf
      exact ⟨fun a f f0 f1 b => by rw [← plc_rest (n := n) (no f f0 f1 b)]; exact a f f0 f1 b, fun a f f0 f1 b => by rw [plc_rest (n := n) (no f f0 f1 b)]; exact a f f0 f1 b⟩
    refine ⟨by decide, fun e => absurd rfl e, fun _ => c7_areAllIn h sr ⟨by decide, by decide⟩ (fun c => ⟨R32_1, fun e => absurd e (by decide), fun _ => k _ (Or.inl ⟨by decide, by omega, c, fun j j0 j1 => by omega⟩)⟩) (fun c => ⟨R32_0, fun _ => k _ (Or.inr ⟨rfl, fun j j0 j1 a => c ((con j).mp a)⟩), fun e => absurd rfl e⟩)⟩
  · obtain ⟨⟨a1, a2, a3⟩, c1, c2, c3⟩ := h.F l0 l1
    generalize hw : μ (wW μ + 7) l = w at *
    have hT := h.T a2 a3
    obtain ⟨b1, b2⟩ := h.r22 a2 a3
    obtain ⟨⟨m1, m2, m3⟩, ⟨m4, m5, m6⟩, m7⟩ := h.2.2.2.1.N
    have pw := m7 w a2 a3
    refine ⟨⟨by omega, by omega⟩, fun _ => ⟨⟨by omega, by omega⟩, c7_wheelsOf h sr (fun t tr' tb' => ?_)⟩, fun e => absurd e (by omega)⟩
    have mb : ∀ v, 0 ≤ v → v < nW μ → (bt_ (mand t (μ 21 4)) v = 1 ↔ (∃ f, 0 ≤ f ∧ f < nF μ ∧ bt_ set f = 1 ∧ μ (wW μ + 7) f = v) ∧ μ 22 v ≠ 0) := fun v v0 v1 => by
      have q := bt_mand (x := t) (y := μ 21 4) tr' ⟨by omega, by omega⟩ (k := v.toNat) (by omega)
      rw [show ((v.toNat : Nat) : Int) = v by omega] at q
      rw [q]
      have q1 := tb' v v0 v1
      have q2 := tb v v0 v1
      by_cases z : bt_ t v = 1 ∧ bt_ (μ 21 4) v = 1
      · rw [if_pos z]
        exact ⟨fun _ => ⟨q1.mp z.1, q2.mp z.2⟩, fun _ => rfl⟩
      · rw [if_neg z]
        exact ⟨fun e => absurd e (by decide), fun e => absurd ⟨q1.mpr e.1, q2.mpr e.2⟩ z⟩
    let q : Int → Bool := fun v => decide (bt_ (mand t (μ 21 4)) v = 1)
    have hq : ∀ v, q v = true ↔ bt_ (mand t (μ 21 4)) v = 1 := fun v => by simp [q]
    refine c7_roundOf h q (fun v v0 v1 => (hq v).symm) ?_
    have tn : mand t (μ 21 4) ≠ 0 := fun e => by
      have := (mb w a2 a3).mpr ⟨⟨l, l0, l1, lb, hw⟩, lt⟩
      rw [e, bt_zero] at this; exact absurd this (by decide)
    rw [if_neg tn]
    have Vr := rd_rg h (q := q) (nW μ).toNat (by omega)
    have Vd := rd_div h (q := q) (nW μ).toNat (by omega)
    generalize rd (ow μ) q 1 (nW μ).toNat = V at *
    have per : V ≤ 999999999 → ∀ n c, alf μ set (n + V * c) ↔ alf μ set n := fun hV n c => by
      have e : ∀ f, 0 ≤ f → f < nF μ → bt_ set f = 1 → plc μ (μ (wW μ + 7) f) (n + V * c) = plc μ (μ (wW μ + 7) f) n := fun f f0 f1 b => by
        obtain ⟨⟨-, y2, y3⟩, -⟩ := h.F f0 f1
        by_cases z : μ 22 (μ (wW μ + 7) f) = 0
        · rw [plc_rest z, plc_rest (n := n) z]
        · have := (hq _).mpr ((mb _ y2 y3).mpr ⟨⟨f, f0, f1, b, rfl⟩, z⟩)
          have dv := Vd hV (μ (wW μ + 7) f).toNat (by omega)
          rw [show (((μ (wW μ + 7) f).toNat : Nat) : Int) = μ (wW μ + 7) f by omega] at dv
          exact plc_per h y2 y3 (Int.dvd_trans (dv this) (Int.dvd_mul_right ..))
      unfold alf
      exact ⟨fun a f f0 f1 b => by rw [← e f f0 f1 b]; exact a f f0 f1 b, fun a f f0 f1 b => by rw [e f f0 f1 b]; exact a f f0 f1 b⟩
    have cp := (ow_rg h a2 a3).2.2.2
    have cp0 : 0 < μ 23 w * μ (wW μ + 1) w := by omega
    have d0 := bd_mul (a := μ 22 w) (b := μ 29 0 - μ 29 1) (A := 24300000) (B := 1100000) b2 ⟨by omega, by omega⟩ (by decide)
    have d1 := bd_mul (a := μ 30 w) (b := μ 23 w) (A := 30) (B := 810000) ⟨by omega, by omega⟩ ⟨by omega, by omega⟩ (by decide)
    have d2 := bd_mul (a := μ (wW μ + 8) l) (b := μ 23 w) (A := 29) (B := 810000) ⟨by omega, by omega⟩ ⟨by omega, by omega⟩ (by decide)
    have d3 : 0 ≤ μ (wW μ + 8) l * μ 23 w := Int.mul_nonneg c2 (by omega)
    have es := emod_rg (x := μ 22 w) cp0
    have ea := emod_rg (x := μ 30 w * μ 23 w + μ 22 w * (μ 29 0 - μ 29 1)) cp0
    rw [wf_W11 wf hW, wf_W5 wf hW, wf_0_3 wf, wf_21_0 wf, wf_21_1 wf, hw]
    have w8 : w < 8 := by omega
    have T1 : R32 (μ (wW μ + 1) w) := ⟨by omega, by omega⟩
    have T2 : 3 ≤ μ (wW μ + 1) w := hT.2.1
    refine ⟨⟨by omega, by omega⟩, ⟨by omega, by omega⟩, so_W hW, ai_W7 hW l0 (by omega), so_21, ai_23 a2 w8, ai_W1 hW a2 w8, T1, ai_22 a2 w8, c_leftOver (x := μ 22 w) (y := μ 23 w * μ (wW μ + 1) w) ⟨by omega, by omega⟩ cp0 (by omega) ?_⟩
    rw [wf_0_3 wf, wf_21_0 wf, wf_0_5 wf, wf_29_3 wf]
    refine ⟨so_29, ai_30 a2 w8, ⟨by omega, by omega⟩, so_21, ai_22 a2 w8, ⟨by omega, by omega⟩, ⟨by omega, by omega⟩, c_leftOver (x := μ 30 w * μ 23 w + μ 22 w * (μ 29 0 - μ 29 1)) (y := μ 23 w * μ (wW μ + 1) w) ⟨by omega, by omega⟩ cp0 (by omega) ?_⟩
    rw [wf_W12 wf hW]
    have c32 : R32 (μ (wW μ + 8) l) := ⟨by omega, by omega⟩
    refine ⟨so_W hW, ai_W8 hW l0 (by omega), c32, ?_⟩
    have win : ∀ n, (μ (wW μ + 8) l * μ 23 w ≤ (μ 30 w * μ 23 w + μ 22 w * (μ 29 0 - μ 29 1 + n)) % (μ 23 w * μ (wW μ + 1) w) ∧ (μ 30 w * μ 23 w + μ 22 w * (μ 29 0 - μ 29 1 + n)) % (μ 23 w * μ (wW μ + 1) w) < μ (wW μ + 8) l * μ 23 w + μ 23 w) ↔ plc μ w n = μ (wW μ + 8) l := fun n => by
      rw [emod_win (by omega) (by omega)]
      unfold plc
      rw [show μ 30 w * μ 23 w + μ 22 w * (μ 29 0 - μ 29 1 + n) = μ 22 w * (μ 29 0 - μ 29 1 + n) + μ 30 w * μ 23 w by omega, Int.add_mul_ediv_right _ _ (show μ 23 w ≠ 0 by omega), Int.add_comm]
    generalize hL : (if V - 1 < most then V - 1 else most) = L
    have Lr : 0 ≤ L ∧ L ≤ most := by rw [← hL]; split <;> omega
    have fin : (∀ j, 0 ≤ j → j ≤ L → ¬ alf μ set j) → Q (-1) μ := fun no => by
      refine k _ (Or.inr ⟨rfl, fun j j0 j1 a => ?_⟩)
      by_cases c : j ≤ L
      · exact no j j0 c a
      · have hV : V ≤ 999999999 ∧ L = V - 1 := by
          rw [← hL] at c ⊢
          split at c
          · rename_i z; rw [if_pos z]; omega
          · omega
        have e := Int.emod_add_mul_ediv j V
        have r := emod_rg (x := j) (y := V) (by omega)
        rw [← e] at a
        exact no (j % V) r.1 (by omega) ((per hV.1 (j % V) (j / V)).mp a)
    have lead : ∀ n, alf μ set n → plc μ w n = μ (wW μ + 8) l := fun n a => by have := a l l0 l1 lb; rw [hw] at this; exact this
    have loop : ∀ (m : Nat) (n : Int), 0 ≤ n → n + m = L + 1 → (∀ j, 0 ≤ j → j < n → ¬ alf μ set j) → Ex G Φ 18 168 [some (2, 0), some (0, set), some (0, most), some (0, l), some (1, L), none, some (0, w), some (1, μ 23 w), none, some (1, μ 23 w * μ (wW μ + 1) w), none, some (1, μ 22 w % (μ 23 w * μ (wW μ + 1) w)), none, some (1, (μ 30 w * μ 23 w + μ 22 w * (μ 29 0 - μ 29 1 + n)) % (μ 23 w * μ (wW μ + 1) w)), none, some (1, μ (wW μ + 8) l * μ 23 w), none, some (0, n)] [] SHl μ 0 0 := by
      intro m
      induction m with
      | zero =>
        intro n n0 hn no
        exact bX7_dayOfAll_168 hΦ hR ⟨⟨by omega, by omega⟩, ⟨by omega, by omega⟩, ⟨by omega, by omega⟩, fun _ => fin (fun j j0 j1 => no j j0 (by omega)), fun c => absurd (by omega) c⟩
      | succ m ih =>
        intro n n0 hn no
        have wn := win n
        have er := emod_rg (x := μ 30 w * μ 23 w + μ 22 w * (μ 29 0 - μ 29 1 + n)) cp0
        have nx : ¬ alf μ set n → Ex G Φ 18 209 [some (2, 0), some (0, set), some (0, most), some (0, l), some (1, L), none, some (0, w), some (1, μ 23 w), none, some (1, μ 23 w * μ (wW μ + 1) w), none, some (1, μ 22 w % (μ 23 w * μ (wW μ + 1) w)), none, some (1, (μ 30 w * μ 23 w + μ 22 w * (μ 29 0 - μ 29 1 + n)) % (μ 23 w * μ (wW μ + 1) w)), none, some (1, μ (wW μ + 8) l * μ 23 w), none, some (0, n)] [] SHl μ 0 0 := fun na => by
          have := ih (n + 1) (by omega) (by omega) (fun j j0 j1 => by
            by_cases z : j = n
            · rw [z]; exact na
            · exact no j j0 (by omega))
          have ea1 : μ 30 w * μ 23 w + μ 22 w * (μ 29 0 - μ 29 1 + (n + 1)) = (μ 30 w * μ 23 w + μ 22 w * (μ 29 0 - μ 29 1 + n)) + μ 22 w := by
            rw [← Int.add_assoc (μ 29 0 - μ 29 1) n 1, Int.mul_add (μ 22 w) _ 1, Int.mul_one]; omega
          rw [ea1, emod_add1 cp0] at this
          refine bX7_dayOfAll_209 hΦ hR ⟨⟨by omega, by omega⟩, ⟨by omega, by omega⟩, fun c => ?_, fun c => ?_⟩
          · rw [if_pos c] at this; exact this
          · rw [if_neg c] at this; exact this
        refine bX7_dayOfAll_168 hΦ hR ⟨⟨by omega, by omega⟩, ⟨by omega, by omega⟩, ⟨by omega, by omega⟩, fun c => absurd c (by omega), fun _ => ⟨⟨by omega, by omega⟩, ⟨by omega, by omega⟩, fun c => nx (fun a => ?_), fun c => ⟨⟨by omega, by omega⟩, fun c' => nx (fun a => ?_), fun c' => ⟨so_0, c7_areAllIn h sr ⟨by omega, by omega⟩ (fun d => ⟨R32_1, fun e => absurd e (by decide), fun _ => k _ (Or.inl ⟨n0, by omega, d, no⟩)⟩) (fun d => ⟨R32_0, fun _ => nx d, fun e => absurd rfl e⟩)⟩⟩⟩⟩
        · have := wn.mpr (lead n a); omega
        · have := wn.mpr (lead n a); omega
    have := loop (L + 1).toNat 0 (by decide) (by omega) (fun j j0 j1 => by omega)
    rw [Int.add_zero] at this
    exact this
theorem st_next {G : Gm} {μ : Mem} {a0 : Int} (h : Inv μ) (ha0 : R32 a0) : Both G mX7_next mX8_next [(0, a0)] μ := by
  have hf := h.nf
  have nw := h.nw
  have hW := h.W
  refine eX7_next (fun Φ hΦ hR => bX7_next_0 hΦ hR ⟨so_0, c7_hasFeast h.1 h.2.1 ha0 (fun x0 x1 => yes_ ⟨x0, by omega, ?_⟩) (fun c => no_ (eX8_next (fun Φ hΦ hR => bX8_next_0 hΦ hR ⟨so_110, c8_isFeast (x := a0) (by omega) ha0 (fun x0 x1 => absurd ⟨x0, by omega⟩ c) (fun _ => no_ ⟨rfl, by decide, h⟩)⟩)))⟩)
  obtain ⟨⟨a1, a2, a3⟩, c1, c2, c3⟩ := h.F x0 x1
  have hT := h.T a2 a3
  have pl : (1 : Int) * 2 ^ a0.toNat < 2 ^ (nF μ).toNat ∧ (0 : Int) < 2 ^ a0.toNat := by
    have := Nat.pow_lt_pow_right (show 1 < 2 by decide) (show a0.toNat < (nF μ).toNat by omega)
    have e1 : ((2 ^ a0.toNat : Nat) : Int) = 2 ^ a0.toNat := by simp
    have e2 : ((2 ^ (nF μ).toNat : Nat) : Int) = 2 ^ (nF μ).toNat := by simp
    have p := Nat.two_pow_pos a0.toNat
    omega
  have al : ∀ n, alf μ (1 * 2 ^ a0.toNat) n ↔ plc μ (μ (wW μ + 7) a0) n = μ (wW μ + 8) a0 := fun n => by
    rw [Int.one_mul]
    have b2 : ∀ f, 0 ≤ f → (bt_ (2 ^ a0.toNat) f = 1 ↔ f = a0) := fun f f0 => by
      have := bt_2 (w := a0.toNat) (k := f.toNat)
      rw [show ((f.toNat : Nat) : Int) = f by omega] at this
      rw [this]
      by_cases z : f = a0
      · rw [if_pos (by omega)]; simp [z]
      · rw [if_neg (by omega)]; simp [z]
    unfold alf
    constructor
    · intro q; exact q a0 x0 x1 ((b2 a0 x0).mpr rfl)
    · intro q f f0 f1 b; rw [(b2 f f0).mp b]; exact q
  refine c7_dayOfAll h (by omega) pl.1 ⟨by decide, by decide⟩ (fun r hr => ?_)
  have rr : R32 r := by rcases hr with ⟨q0, q1, _⟩ | ⟨q0, _⟩ <;> exact ⟨by omega, by omega⟩
  refine eX8_next (fun Φ hΦ hR => bX8_next_0 hΦ hR ⟨so_110, c8_isFeast (x := a0) (by omega) ha0 (fun _ _ => yes_ (c8_rates h (fun κ rn => ?_))) (fun d => absurd ⟨x0, by omega⟩ d)⟩)
  have hi := RN_inv h rn
  have loop : ∀ (m : Nat) (n : Int), 0 ≤ n → n + m = 10000 → (∀ j, 0 ≤ j → j < n → ¬ alf μ (1 * 2 ^ a0.toNat) j) → Ex G Φ 3 17 [some (2, 110), some (0, a0), some (0, n)] [] SHl κ 0 0 := by
    intro m
    induction m with
    | zero =>
      intro n n0 hn no
      exact bX8_next_17 hΦ hR ⟨⟨by omega, by omega⟩, fun _ => ⟨Fst_un hr (Or.inr ⟨rfl, fun j j0 j1 => no j j0 (by omega)⟩), rr, hi⟩, fun c => absurd (by omega) c⟩
    | succ m ih =>
      intro n n0 hn no
      have rg := plc_rg h a2 a3 (n := n)
      refine bX8_next_17 hΦ hR ⟨⟨by omega, by omega⟩, fun c => absurd c (by omega), fun _ => ⟨so_110, ?_⟩⟩
      rw [wf_110_19 hi.1, rn.1 119 a0 (by unfold FR' FR; omega), ← a1]
      refine ⟨ai_119 x0 (by omega), c8_place h rn a2 a3 ⟨by omega, by omega⟩ ?_⟩
      rw [wf_110_20 hi.1, rn.1 120 a0 (by unfold FR' FR; omega), ← c1]
      refine ⟨ai_120 x0 (by omega), ⟨by omega, by omega⟩, ⟨by omega, by omega⟩, fun c => ih (n + 1) (by omega) (by omega) (fun j j0 j1 => ?_), fun c => ⟨Fst_un hr (Or.inl ⟨n0, by omega, (al n).mpr c, no⟩), rr, hi⟩⟩
      by_cases z : j = n
      · rw [z]; exact fun a => c ((al n).mp a)
      · exact no j j0 (by omega)
  exact loop 10000 0 (by decide) (by decide) (fun j j0 j1 => by omega)
theorem c8_areAll {G : Gm} {Q : Int → Mem → Prop} {μ κ : Mem} {set n : Int} (h : Inv μ) (rn : RN μ κ) (hs : R32 set) (hn : 0 ≤ n ∧ n ≤ 100000) (k1 : alf μ set n → Q 1 κ) (k0 : ¬ alf μ set n → Q 0 κ) : Ci G mX8_areAll [(2, 110), (0, set), (0, n)] SHl κ Q := by
  have hf := h.nf
  have nw := h.nw
  have hW := h.W
  have hi := RN_inv h rn
  have e4 : κ 110 4 = nF μ := (rn.1 _ _ (by unfold FR' FR; omega)).trans hf.1.symm
  refine eX8_areAll (fun Φ hΦ hR => bX8_areAll_0 hΦ hR ?_)
  have end0 : ∀ j, R32 j → ¬ alf μ set n → Ex G Φ 5 5 [some (2, 110), some (0, set), some (0, n), some (0, 0), some (0, j)] [] SHl κ 0 0 := fun j hj ns => by
    refine bX8_areAll_5 hΦ hR ⟨so_110, hj, ?_⟩
    rw [e4]
    exact ⟨⟨by omega, by omega⟩, fun _ => ⟨by decide, by decide, k0 ns⟩, fun _ => ⟨R32_0, fun _ => ⟨by decide, by decide, k0 ns⟩, fun e => absurd rfl e⟩⟩
  have loop : ∀ (m : Nat) (f : Int), 0 ≤ f → f + m = nF μ → (∀ j, 0 ≤ j → j < f → bt_ set j = 1 → plc μ (μ (wW μ + 7) j) n = μ (wW μ + 8) j) → Ex G Φ 5 5 [some (2, 110), some (0, set), some (0, n), some (0, 1), some (0, f)] [] SHl κ 0 0 := by
    intro m
    induction m with
    | zero =>
      intro f f0 hm al
      refine bX8_areAll_5 hΦ hR ⟨so_110, ⟨by omega, by omega⟩, ?_⟩
      rw [e4]
      exact ⟨⟨by omega, by omega⟩, fun _ => ⟨by decide, by decide, k1 (fun j j0 j1 => al j j0 (by omega))⟩, fun c => absurd (by omega) c⟩
    | succ m ih =>
      intro f f0 hm al
      obtain ⟨⟨a1, a2, a3⟩, c1, c2, c3⟩ := h.F f0 (by omega)
      have hT := h.T a2 a3
      have rg := plc_rg h a2 a3 (n := n)
      refine bX8_areAll_5 hΦ hR ⟨so_110, ⟨by omega, by omega⟩, ?_⟩
      rw [e4]
      refine ⟨⟨by omega, by omega⟩, fun c => absurd c (by omega), fun _ => ⟨R32_1, fun e => absurd e (by decide), fun _ => c_m_has hs f0 (by omega) ⟨R32_one (bt_rg _ _), fun c => ih (f + 1) (by omega) (by omega) (fun j j0 j1 b => ?_), fun c => ?_⟩⟩⟩
      · by_cases z : j = f
        · rw [z, c] at b; exact absurd b (by decide)
        · exact al j j0 (by omega) b
      · have cb : bt_ set f = 1 := by have := bt_rg set f; omega
        rw [wf_110_19 hi.1, rn.1 119 f (by unfold FR' FR; omega), ← a1]
        refine ⟨ai_119 f0 (by omega), ⟨by omega, by omega⟩, c8_place h rn a2 a3 hn ?_⟩
        rw [wf_110_20 hi.1, rn.1 120 f (by unfold FR' FR; omega), ← c1]
        refine ⟨ai_120 f0 (by omega), ⟨by omega, by omega⟩, ⟨by omega, by omega⟩, fun d => end0 (f + 1) ⟨by omega, by omega⟩ (fun a => d (a f f0 (by omega) cb)), fun d => ih (f + 1) (by omega) (by omega) (fun j j0 j1 b => ?_)⟩
        by_cases z : j = f
        · rw [z]; exact d
        · exact al j j0 (by omega) b
  exact loop (nF μ).toNat 0 (by decide) (by omega) (fun j j0 j1 => by omega)
theorem st_together {G : Gm} {μ : Mem} {a0 : Int} (h : Inv μ) (ha0 : R32 a0) : Both G mX7_together mX8_together [(0, a0)] μ := by
  have hf := h.nf
  have nw := h.nw
  have p6 := pw10 (n := (nF μ).toNat) (by omega)
  refine eX7_together (fun Φ hΦ hR => bX7_together_0 hΦ hR ⟨so_0, so_W h.2.1.1, c7_hasBits ha0 ⟨hf.2.1, show nF μ ≤ 31 by omega⟩ (fun c1 c2 => ⟨R32_0, fun _ => c7_dayOfAll h c1 c2 ⟨by decide, by decide⟩ (fun r hr => ?_), fun e => absurd rfl e⟩) (fun c => ⟨R32_1, fun e => absurd e (by decide), fun _ => ?_⟩)⟩)
  · have rr : R32 r := by rcases hr with ⟨q0, q1, _⟩ | ⟨q0, _⟩ <;> exact ⟨by omega, by omega⟩
    have c2 : a0 < 2 ^ (nF μ).toNat := c2
    refine eX8_together (fun Φ hΦ hR => bX8_together_0 hΦ hR ⟨ha0, so_110, ?_⟩)
    rw [← hf.1]
    refine ⟨by omega, by omega, ⟨by omega, by omega⟩, c_m_in (r64 ha0) ⟨by decide, by decide⟩ ⟨by omega, by omega⟩ (fun _ _ => yes_ (c8_rates h (fun κ rn => ?_))) (fun d => absurd ⟨c1, by omega⟩ d)⟩
    have hi := RN_inv h rn
    have loop : ∀ (m : Nat) (n : Int), 0 ≤ n → n + m = 100000 → (∀ j, 0 ≤ j → j < n → ¬ alf μ a0 j) → Ex G Φ 3 27 [some (2, 110), some (0, a0), some (0, n)] [] SHl κ 0 0 := by
      intro m
      induction m with
      | zero =>
        intro n n0 hn no
        exact bX8_together_27 hΦ hR ⟨⟨by omega, by omega⟩, fun _ => ⟨Fst_un hr (Or.inr ⟨rfl, fun j j0 j1 => no j j0 (by omega)⟩), rr, hi⟩, fun c => absurd (by omega) c⟩
      | succ m ih =>
        intro n n0 hn no
        refine bX8_together_27 hΦ hR ⟨⟨by omega, by omega⟩, fun c => absurd c (by omega), fun _ => ⟨so_110, c8_areAll h rn ha0 ⟨n0, by omega⟩ (fun a => ⟨R32_1, fun e => absurd e (by decide), fun _ => ⟨Fst_un hr (Or.inl ⟨n0, by omega, a, no⟩), rr, hi⟩⟩) (fun a => ⟨R32_0, fun _ => ih (n + 1) (by omega) (by omega) (fun j j0 j1 => ?_), fun e => absurd rfl e⟩)⟩⟩
        by_cases z : j = n
        · rw [z]; exact a
        · exact no j j0 (by omega)
    exact loop 100000 0 (by decide) (by decide) (fun j j0 j1 => by omega)
  · have c : ¬ (0 ≤ a0 ∧ a0 < 2 ^ (nF μ).toNat) := c
    refine eX8_together (fun Φ hΦ hR => bX8_together_0 hΦ hR ⟨ha0, so_110, ?_⟩)
    rw [← hf.1]
    exact ⟨by omega, by omega, ⟨by omega, by omega⟩, c_m_in (r64 ha0) ⟨by decide, by decide⟩ ⟨by omega, by omega⟩ (fun x y => absurd ⟨x, by omega⟩ c) (fun _ => no_ ⟨rfl, by decide, h⟩)⟩
