/-! SETS that are gathered bit by bit -/
def fs (p : Int → Bool) : Nat → Int
  | 0 => 0
  | n + 1 => if p n then mor (fs p n) (1 * 2 ^ n) else fs p n
theorem fs_r {p : Int → Bool} : ∀ n, R32 (fs p n)
  | 0 => R32_0
  | n + 1 => by
    unfold fs
    split
    · exact mor_r _ _
    · exact fs_r n
theorem fs_bt {p : Int → Bool} : ∀ (n : Nat), n ≤ 31 → ∀ k : Nat, k < 32 → bt_ (fs p n) (k : Int) = if k < n ∧ p k = true then 1 else 0
  | 0, _, k, hk => by show bt_ 0 _ = _; rw [bt_zero, if_neg (by omega)]
  | n + 1, hn, k, hk => by
    have ih := fs_bt (p := p) n (by omega) k hk
    unfold fs
    by_cases c : p n = true
    · rw [if_pos c, bt_mor (fs_r n) (by rw [Int.one_mul]; exact r32_2 (by omega)) hk, ih, Int.one_mul, bt_2]
      by_cases d : k = n
      · subst d; simp [c]
      · by_cases e : k < n
        · simp [d, e, show k < n + 1 by omega]
        · simp [d, e, show ¬ k < n + 1 by omega]
    · rw [if_neg c, ih]
      by_cases d : k = n
      · subst d; simp [c]
      · by_cases e : k < n
        · simp [e, show k < n + 1 by omega]
        · simp [e, show ¬ k < n + 1 by omega]
theorem fs_rg {p : Int → Bool} {n : Nat} (hn : n ≤ 31) : 0 ≤ fs p n ∧ fs p n < 2 ^ n :=
  rg_bt (fs_r n) hn (fun k h0 h1 => by rw [fs_bt n hn k h1, if_neg (by omega)])
theorem fs_un {p : Int → Bool} {n : Nat} {x : Int} (hn : n ≤ 31) (h0 : 0 ≤ x) (h1 : x < 2 ^ n) (h : ∀ k : Nat, k < n → (bt_ x (k : Int) = 1 ↔ p k = true)) : fs p n = x := by
  have p31 : (2 : Int) ^ n ≤ 2147483648 := by
    have : ∀ n : Nat, n < 32 → (2 : Int) ^ n ≤ 2147483648 := by decide +kernel
    exact this n (by omega)
  refine bt_ext (fs_r n) ⟨by omega, by omega⟩ (fun k hk => ?_)
  rw [fs_bt n hn k hk]
  by_cases c : k < n
  · have := h k c
    rcases bt_01 (x := x) (k := (k : Int)) with e | e
    · rw [e, if_neg (fun q => by rw [this.mpr q.2] at e; exact absurd e (by decide))]
    · rw [e, if_pos ⟨c, this.mp e⟩]
  · rw [if_neg (fun q => c q.1), bt_lt h0 h1 (by omega)]
theorem mor_0 {x : Int} (hx : R32 x) : mor x 0 = x := by
  refine bt_ext (mor_r _ _) hx (fun k hk => ?_)
  rw [bt_mor hx R32_0 hk, bt_zero]
  rcases bt_01 (x := x) (k := (k : Int)) with e | e <;> rw [e] <;> simp
theorem nat_pw (i : Nat) : (2 : Int) ^ (Int.toNat (i : Int)) = 2 ^ i := by rw [Int.toNat_natCast]
theorem c8_turning {G : Gm} {Q : Int → Mem → Prop} {μ μ' : Mem} (h : Inv μ) (r : RN μ μ') (k : Q (μ 21 4) μ') : Ci G mX8_turning [(2, 110)] SHl μ' Q := by
  have hn := h.nw
  have im := h.2.2.2.2.2.2.2
  have wf' := (RN_inv h r).1
  let p : Int → Bool := fun w => decide (μ 22 w ≠ 0)
  have fin : fs p (nW μ).toNat = μ 21 4 := fs_un (by omega) im.2.1.1 im.2.1.2 (fun j hj => by
    rw [im.2.2 j (by omega) (by omega)]; simp [p])
  refine eX8_turning (fun Φ hΦ hR => bX8_turning_0 hΦ hR ?_)
  have loop : ∀ (m i : Nat), (i : Int) + m = nW μ → Ex G Φ 3 4 [some (2, 110), some (0, fs p i), some (0, (i : Int))] [] SHl μ' 0 0 := by
    intro m
    induction m with
    | zero =>
      intro i hi
      refine bX8_turning_4 hΦ hR ⟨so_110, ⟨by omega, by omega⟩, ?_⟩
      rw [r.1 110 2 (by unfold FR' FR; omega), ← hn.1]
      refine ⟨⟨by omega, by omega⟩, fun _ => ?_, fun c => absurd (by omega) c⟩
      rw [show i = (nW μ).toNat by omega, fin]; exact k
    | succ m ih =>
      intro i hi
      have e1 := (r.2.1 i (by omega) (by omega)).1
      have b := h.r22 (w := (i : Int)) (by omega) (by omega)
      have nx := ih (i + 1) (by omega)
      rw [show (((i + 1 : Nat)) : Int) = (i : Int) + 1 by omega] at nx
      refine bX8_turning_4 hΦ hR ⟨so_110, ⟨by omega, by omega⟩, ?_⟩
      rw [r.1 110 2 (by unfold FR' FR; omega), ← hn.1, wf_110_27 wf', e1]
      refine ⟨⟨by omega, by omega⟩, fun c => absurd c (by omega), fun _ => ⟨ai_122 (by omega) (by omega), ⟨by omega, by omega⟩, fun c => c_m_one R32_0 ⟨by omega, by omega, ?_⟩, fun c => c_m_one R32_1 ⟨by omega, by omega, ?_⟩⟩⟩
      · have : fs p (i + 1) = fs p i := by show (if p i then _ else _) = _; rw [if_neg (by simp [p, c])]
        rw [if_pos rfl, Int.zero_mul, mor_0 (fs_r i), ← this]; exact nx
      · have : fs p (i + 1) = mor (fs p i) (1 * 2 ^ i) := by show (if p i then _ else _) = _; rw [if_pos (by simp [p, c])]
        rw [if_neg (by decide), nat_pw, ← this]; exact nx
  exact loop (nW μ).toNat 0 (by omega)
/-- the feasts of a day in so many days -/
def fe (μ : Mem) (n : Int) : Int := fs (fun f => decide (plc μ (μ (wW μ + 7) f) n = μ (wW μ + 8) f)) (nF μ).toNat
theorem Inv.F {μ : Mem} (h : Inv μ) {f : Int} (h0 : 0 ≤ f) (h1 : f < nF μ) : (μ (wW μ + 7) f = μ 119 f ∧ 0 ≤ μ (wW μ + 7) f ∧ μ (wW μ + 7) f < nW μ) ∧ (μ (wW μ + 8) f = μ 120 f ∧ 0 ≤ μ (wW μ + 8) f ∧ μ (wW μ + 8) f ≤ 29) := h.2.1.2.2.2.2.2.2.2.2.2 f h0 h1
theorem Inv.nf {μ : Mem} (h : Inv μ) : nF μ = μ 110 4 ∧ 0 ≤ nF μ ∧ nF μ ≤ 6 := h.2.1.2.2.2.2.1
/-- all feasts of a set are in so many days -/
def alf (μ : Mem) (set n : Int) : Prop := ∀ f, 0 ≤ f → f < nF μ → bt_ set f = 1 → plc μ (μ (wW μ + 7) f) n = μ (wW μ + 8) f
theorem bt_one {a f : Int} (x0 : 0 ≤ a) (f0 : 0 ≤ f) : bt_ (2 ^ a.toNat) f = 1 ↔ f = a := by
  have := bt_2 (w := a.toNat) (k := f.toNat)
  rw [show ((f.toNat : Nat) : Int) = f by omega] at this
  rw [this]
  by_cases z : f = a
  · rw [if_pos (by omega)]; simp [z]
  · rw [if_neg (by omega)]; simp [z]
theorem alf_one {μ : Mem} {a n : Int} (x0 : 0 ≤ a) (x1 : a < nF μ) : alf μ (1 * 2 ^ a.toNat) n ↔ plc μ (μ (wW μ + 7) a) n = μ (wW μ + 8) a := by
  rw [Int.one_mul]
  unfold alf
  constructor
  · intro q; exact q a x0 x1 ((bt_one x0 x0).mpr rfl)
  · intro q f f0 f1 b; rw [(bt_one x0 f0).mp b]; exact q
theorem c7_areAllIn {G : Gm} {Q : Int → Mem → Prop} {μ : Mem} {set n : Int} (h : Inv μ) (hs : R32 set) (hn : 0 ≤ n ∧ n ≤ 100000) (k1 : alf μ set n → Q 1 μ) (k0 : ¬ alf μ set n → Q 0 μ) : Ci G mX7_areAllIn [(2, 0), (0, n), (0, set)] SHl μ Q := by
  have hf := h.nf
  have wf := h.1
  have hW := h.2.1.1
  refine eX7_areAllIn (fun Φ hΦ hR => bX7_areAllIn_0 hΦ hR ?_)
  have loop : ∀ (m : Nat) (f : Int), 0 ≤ f → f + m = nF μ → (∀ j, 0 ≤ j → j < f → bt_ set j = 1 → plc μ (μ (wW μ + 7) j) n = μ (wW μ + 8) j) → Ex G Φ 4 2 [some (2, 0), some (0, n), some (0, set), some (0, f)] [] SHl μ 0 0 := by
    intro m
    induction m with
    | zero =>
      intro f f0 hm al
      refine bX7_areAllIn_2 hΦ hR ⟨so_0, so_W hW, ⟨by omega, by omega⟩, ⟨?_, ?_⟩, fun _ => k1 (fun j j0 j1 => al j j0 (by omega)), fun c => absurd (show nF μ ≤ f by omega) c⟩
      · show _ ≤ nF μ; omega
      · show nF μ ≤ _; omega
    | succ m ih =>
      intro f f0 hm al
      obtain ⟨⟨a1, a2, a3⟩, c1, c2, c3⟩ := h.F f0 (by omega)
      have rg := plc_rg h a2 a3 (n := n)
      have hT := h.T a2 a3
      refine bX7_areAllIn_2 hΦ hR ⟨so_0, so_W hW, ⟨by omega, by omega⟩, ⟨?_, ?_⟩, fun c => absurd (show nF μ ≤ f from c) (by omega), fun _ => ⟨hs, f0, by omega, R32_one (bt_rg set f), fun c => ih (f + 1) (by omega) (by omega) (fun j j0 j1 b => ?_), fun c => ?_⟩⟩
      · show _ ≤ nF μ; omega
      · show nF μ ≤ _; omega
      · have c : ¬ bt_ set f = 1 := c
        by_cases z : j = f
        · rw [z] at b; exact absurd b c
        · exact al j j0 (by omega) b
      · have c : bt_ set f = 1 := c
        rw [wf_W11 wf hW]
        refine ⟨ai_W7 hW f0 (by omega), c7_place h a2 a3 hn ⟨so_W hW, ?_⟩⟩
        rw [wf_W12 wf hW]
        refine ⟨ai_W8 hW f0 (by omega), ⟨by omega, by omega⟩, ⟨?_, ?_⟩, fun d => ih (f + 1) (by omega) (by omega) (fun j j0 j1 b => ?_), fun d => k0 (fun a => d (a f f0 (by omega) c))⟩
        · show _ ≤ μ (wW μ + 8) f; omega
        · show μ (wW μ + 8) f ≤ _; omega
        · by_cases z : j = f
          · rw [z]; exact d
          · exact al j j0 (by omega) b
  exact loop (nF μ).toNat 0 (by decide) (by omega) (fun j j0 j1 => by omega)
theorem c7_feastsToday {G : Gm} {Q : Int → Mem → Prop} {μ : Mem} (h : Inv μ) (k : Q (fe μ 0) μ) : Ci G mX7_feastsToday [(2, 0)] SHl μ Q := by
  have hf := h.nf
  have hW := h.2.1.1
  let p : Int → Bool := fun f => decide (plc μ (μ (wW μ + 7) f) 0 = μ (wW μ + 8) f)
  refine eX7_feastsToday (fun Φ hΦ hR => bX7_feastsToday_0 hΦ hR ?_)
  have loop : ∀ (m i : Nat), (i : Int) + m = nF μ → Ex G Φ 3 4 [some (2, 0), some (0, fs p i), some (0, (i : Int))] [] SHl μ 0 0 := by
    intro m
    induction m with
    | zero =>
      intro i hi
      refine bX7_feastsToday_4 hΦ hR ⟨so_0, so_W hW, ⟨by omega, by omega⟩, ⟨?_, ?_⟩, fun _ => ?_, fun c => absurd (show nF μ ≤ i by omega) c⟩
      · show _ ≤ nF μ; omega
      · show nF μ ≤ _; omega
      · rw [show i = (nF μ).toNat by omega]; exact k
    | succ m ih =>
      intro i hi
      have one := alf_one (μ := μ) (a := (i : Int)) (n := 0) (by omega) (by omega)
      have nx := ih (i + 1) (by omega)
      rw [show (((i + 1 : Nat)) : Int) = (i : Int) + 1 by omega] at nx
      refine bX7_feastsToday_4 hΦ hR ⟨so_0, so_W hW, ⟨by omega, by omega⟩, ⟨?_, ?_⟩, fun c => absurd (show nF μ ≤ i from c) (by omega), fun _ => ⟨by omega, by omega, c7_areAllIn h (by rw [Int.one_mul]; exact r32_2 (by omega)) ⟨by decide, by decide⟩ (fun a => ⟨R32_1, fun e => absurd e (by decide), fun _ => ?_⟩) (fun a => ⟨R32_0, fun _ => ?_, fun e => absurd rfl e⟩)⟩⟩
      · show _ ≤ nF μ; omega
      · show nF μ ≤ _; omega
      · have : fs p (i + 1) = mor (fs p i) (1 * 2 ^ i) := by show (if p i then _ else _) = _; rw [if_pos (by simp only [p, decide_eq_true_eq]; exact one.mp a)]
        rw [nat_pw, ← this]; exact nx
      · have : fs p (i + 1) = fs p i := by show (if p i then _ else _) = _; rw [if_neg (by simp only [p, decide_eq_true_eq]; exact fun q => a (one.mpr q))]
        rw [← this]; exact nx
  exact loop (nF μ).toNat 0 (by omega)
theorem c8_feastsToday {G : Gm} {Q : Int → Mem → Prop} {μ μ' : Mem} (h : Inv μ) (r : RN μ μ') (k : Q (fe μ 0) μ') : Ci G mX8_feastsToday [(2, 110)] SHl μ' Q := by
  have hf := h.nf
  have wf' := (RN_inv h r).1
  have hn := h.nw
  have hW : wW μ = 3 ∨ wW μ = 12 := h.2.1.1
  let p : Int → Bool := fun f => decide (plc μ (μ (wW μ + 7) f) 0 = μ (wW μ + 8) f)
  refine eX8_feastsToday (fun Φ hΦ hR => bX8_feastsToday_0 hΦ hR ?_)
  have loop : ∀ (m i : Nat), (i : Int) + m = nF μ → Ex G Φ 3 4 [some (2, 110), some (0, fs p i), some (0, (i : Int))] [] SHl μ' 0 0 := by
    intro m
    induction m with
    | zero =>
      intro i hi
      refine bX8_feastsToday_4 hΦ hR ⟨so_110, ⟨by omega, by omega⟩, ?_⟩
      rw [r.1 110 4 (by unfold FR' FR; omega), ← hf.1]
      refine ⟨⟨by omega, by omega⟩, fun _ => ?_, fun c => absurd (by omega) c⟩
      rw [show i = (nF μ).toNat by omega]; exact k
    | succ m ih =>
      intro i hi
      obtain ⟨⟨a1, a2, a3⟩, c1, c2, c3⟩ := h.F (f := (i : Int)) (by omega) (by omega)
      have rg := plc_rg h a2 a3 (n := 0)
      have hT := h.T a2 a3
      have nx := ih (i + 1) (by omega)
      rw [show (((i + 1 : Nat)) : Int) = (i : Int) + 1 by omega] at nx
      refine bX8_feastsToday_4 hΦ hR ⟨so_110, ⟨by omega, by omega⟩, ?_⟩
      rw [r.1 110 4 (by unfold FR' FR; omega), ← hf.1, wf_110_19 wf', r.1 119 _ (by unfold FR' FR; omega), ← a1]
      refine ⟨⟨by omega, by omega⟩, fun c => absurd c (by omega), fun _ => ⟨ai_119 (by omega) (by omega), c8_place h r a2 a3 ⟨by decide, by decide⟩ ?_⟩⟩
      rw [wf_110_20 wf', r.1 120 _ (by unfold FR' FR; omega), ← c1]
      refine ⟨ai_120 (by omega) (by omega), ⟨by omega, by omega⟩, ⟨by omega, by omega⟩, fun c => c_m_one R32_0 ⟨by omega, by omega, ?_⟩, fun c => c_m_one R32_1 ⟨by omega, by omega, ?_⟩⟩
      · have : fs p (i + 1) = fs p i := by show (if p i then _ else _) = _; rw [if_neg (by simp only [p, decide_eq_true_eq]; exact c)]
        rw [if_pos rfl, Int.zero_mul, mor_0 (fs_r i), ← this]; exact nx
      · have : fs p (i + 1) = mor (fs p i) (1 * 2 ^ i) := by show (if p i then _ else _) = _; rw [if_pos (by simp only [p, decide_eq_true_eq]; exact c)]
        rw [if_neg (by decide), nat_pw, ← this]; exact nx
  exact loop (nF μ).toNat 0 (by omega)
