/-- which cells keep references: fields below 13 of cells 0, 1, 3, 12, 21, 25, 29, 31, the stands, images, lines, the model's; the two rows of references -/
def dF (k i : Int) : Prop := (k = 0 ∧ (i = 0 ∨ (3 ≤ i ∧ i ≤ 11))) ∨ (k = 1 ∧ i = 0) ∨ ((k = 3 ∨ k = 12) ∧ 5 ≤ i ∧ i ≤ 12) ∨ ((k = 21 ∨ k = 25 ∨ k = 94 ∨ k = 98) ∧ 0 ≤ i ∧ i ≤ 2) ∨ ((k = 29 ∨ k = 105 ∨ k = 108) ∧ i = 3) ∨ (33 ≤ k ∧ k ≤ 91 ∧ k % 2 = 1 ∧ i = 3) ∨ (k = 31 ∧ i = 0) ∨ k = 32 ∨ k = 93 ∨ ((k = 104 ∨ k = 107) ∧ i = 0) ∨ (k = 110 ∧ (i = 0 ∨ i = 1 ∨ (13 ≤ i ∧ i ≤ 21) ∨ i = 27 ∨ i = 28 ∨ (32 ≤ i ∧ i ≤ 36) ∨ (38 ≤ i ∧ i ≤ 41)))
theorem ww_q : ∀ q ∈ wfl, dF q.1 q.2.1 := by unfold dF; decide +kernel
theorem wf_sm {μ μ' : Mem} (h : WF μ) (a : Sm dF μ μ') : WF μ' := wf_row h (fun q hq => a _ _ (ww_q q hq))
/-! WHAT THERE IS -/
theorem c7_hasWheel {G : Gm} {μ : Mem} {Q : Int → Mem → Prop} {x : Int} (wf : WF μ) (iw : IW μ) (hx : R32 x) (h1 : 0 ≤ x → x < nW μ → Q 1 μ) (h0 : ¬ (0 ≤ x ∧ x < nW μ) → Q 0 μ) : Ci G mX7_hasWheel [(2, 0), (0, x)] SHl μ Q := by
  have b := iw.2.2.1
  refine eX7_hasWheel (fun Φ hΦ hR => bX7_hasWheel_0 hΦ hR ⟨hx, fun c => h0 (by omega), fun c => ⟨so_0, so_W iw.1, ⟨?_, ?_⟩, fun d => h0 ?_, fun d => h1 (by omega) ?_⟩⟩)
  · show _ ≤ nW μ; omega
  · show nW μ ≤ _; omega
  · have : nW μ ≤ x := d
    omega
  · have : ¬ nW μ ≤ x := d
    omega
theorem c7_hasLink {G : Gm} {μ : Mem} {Q : Int → Mem → Prop} {x : Int} (wf : WF μ) (iw : IW μ) (hx : R32 x) (h1 : 0 ≤ x → x < nL μ → Q 1 μ) (h0 : ¬ (0 ≤ x ∧ x < nL μ) → Q 0 μ) : Ci G mX7_hasLink [(2, 0), (0, x)] SHl μ Q := by
  have b := iw.2.2.2.1
  refine eX7_hasLink (fun Φ hΦ hR => bX7_hasLink_0 hΦ hR ⟨hx, fun c => h0 (by omega), fun c => ⟨so_0, so_W iw.1, ⟨?_, ?_⟩, fun d => h0 ?_, fun d => h1 (by omega) ?_⟩⟩)
  · show _ ≤ nL μ; omega
  · show nL μ ≤ _; omega
  · have : nL μ ≤ x := d
    omega
  · have : ¬ nL μ ≤ x := d
    omega
theorem c7_hasFeast {G : Gm} {μ : Mem} {Q : Int → Mem → Prop} {x : Int} (wf : WF μ) (iw : IW μ) (hx : R32 x) (h1 : 0 ≤ x → x < nF μ → Q 1 μ) (h0 : ¬ (0 ≤ x ∧ x < nF μ) → Q 0 μ) : Ci G mX7_hasFeast [(2, 0), (0, x)] SHl μ Q := by
  have b := iw.2.2.2.2.1
  refine eX7_hasFeast (fun Φ hΦ hR => bX7_hasFeast_0 hΦ hR ⟨hx, fun c => h0 (by omega), fun c => ⟨so_0, so_W iw.1, ⟨?_, ?_⟩, fun d => h0 ?_, fun d => h1 (by omega) ?_⟩⟩)
  · show _ ≤ nF μ; omega
  · show nF μ ≤ _; omega
  · have : nF μ ≤ x := d
    omega
  · have : ¬ nF μ ≤ x := d
    omega
theorem c8_isWheel {G : Gm} {μ : Mem} {Q : Int → Mem → Prop} {x : Int} (hb : 0 ≤ μ 110 2 ∧ μ 110 2 ≤ 8) (hx : R32 x) (h1 : 0 ≤ x → x < μ 110 2 → Q 1 μ) (h0 : ¬ (0 ≤ x ∧ x < μ 110 2) → Q 0 μ) : Ci G mX8_isWheel [(2, 110), (0, x)] SHl μ Q := by
  refine eX8_isWheel (fun Φ hΦ hR => bX8_isWheel_0 hΦ hR ⟨hx, so_110, ⟨by omega, by omega⟩, c_m_in ⟨by omega, by omega⟩ ⟨by decide, by decide⟩ ⟨by omega, by omega⟩ (fun c d => ⟨by decide, by decide, h1 c (by omega)⟩) (fun c => ⟨by decide, by decide, h0 (by omega)⟩)⟩)
theorem c8_isLink {G : Gm} {μ : Mem} {Q : Int → Mem → Prop} {x : Int} (hb : 0 ≤ μ 110 3 ∧ μ 110 3 ≤ 10) (hx : R32 x) (h1 : 0 ≤ x → x < μ 110 3 → Q 1 μ) (h0 : ¬ (0 ≤ x ∧ x < μ 110 3) → Q 0 μ) : Ci G mX8_isLink [(2, 110), (0, x)] SHl μ Q := by
  refine eX8_isLink (fun Φ hΦ hR => bX8_isLink_0 hΦ hR ⟨hx, so_110, ⟨by omega, by omega⟩, c_m_in ⟨by omega, by omega⟩ ⟨by decide, by decide⟩ ⟨by omega, by omega⟩ (fun c d => ⟨by decide, by decide, h1 c (by omega)⟩) (fun c => ⟨by decide, by decide, h0 (by omega)⟩)⟩)
theorem c8_isFeast {G : Gm} {μ : Mem} {Q : Int → Mem → Prop} {x : Int} (hb : 0 ≤ μ 110 4 ∧ μ 110 4 ≤ 6) (hx : R32 x) (h1 : 0 ≤ x → x < μ 110 4 → Q 1 μ) (h0 : ¬ (0 ≤ x ∧ x < μ 110 4) → Q 0 μ) : Ci G mX8_isFeast [(2, 110), (0, x)] SHl μ Q := by
  refine eX8_isFeast (fun Φ hΦ hR => bX8_isFeast_0 hΦ hR ⟨hx, so_110, ⟨by omega, by omega⟩, c_m_in ⟨by omega, by omega⟩ ⟨by decide, by decide⟩ ⟨by omega, by omega⟩ (fun c d => ⟨by decide, by decide, h1 c (by omega)⟩) (fun c => ⟨by decide, by decide, h0 (by omega)⟩)⟩)
theorem R32_one {x : Int} (h : 0 ≤ x ∧ x ≤ 1) : R32 x := ⟨by omega, by omega⟩
theorem c7_isOn {G : Gm} {μ : Mem} {Q : Int → Mem → Prop} {x : Int} (wf : WF μ) (hc : R32 (μ 29 2)) (h0 : 0 ≤ x) (h1 : x ≤ 31) (h : Q (if bt_ (μ 29 2) x = 0 then 1 else 0) μ) : Ci G mX7_isOn [(2, 0), (0, x)] SHl μ Q := by
  have e := wf_0_5 wf
  refine eX7_isOn (fun Φ hΦ hR => bX7_isOn_0 hΦ hR ?_)
  rw [e]
  refine ⟨so_0, so_29, hc, h0, h1, R32_one (bt_rg _ _), fun c => ?_, fun c => ?_⟩
  · rw [if_neg (show ¬ bt_ (μ 29 2) x = 0 from c)] at h; exact h
  · rw [if_pos (show bt_ (μ 29 2) x = 0 from c)] at h; exact h
/-- a row of the reference, copied -/
def mrow (μ : Mem) (x y n : Int) : Mem := fun k i => if k = 111 ∧ y ≤ i ∧ i < y + n then μ 111 (x + (i - y)) else μ k i
theorem mrow_0 {μ : Mem} {x y : Int} : mrow μ x y 0 = μ := by
  funext k i; unfold mrow; rw [if_neg (by omega)]
theorem mrow_s {μ : Mem} {x y n : Int} (hn : 0 ≤ n) (hd : y + n ≤ x ∨ x + n < y) : mu (mrow μ x y n) 111 (y + n) (mrow μ x y n 111 (x + n)) = mrow μ x y (n + 1) := by
  funext k i
  unfold mrow mu
  by_cases c : k = 111 ∧ i = y + n
  · obtain ⟨rfl, rfl⟩ := c
    rw [if_pos ⟨rfl, rfl⟩, if_neg (by omega), if_pos (by omega), show x + (y + n - y) = x + n by omega]
  · rw [if_neg c]
    show (if _ then _ else _) = _
    by_cases d : k = 111 ∧ y ≤ i ∧ i < y + n
    · rw [if_pos d, if_pos (by omega)]
    · rw [if_neg d, if_neg (by omega)]
theorem c8_copy {G : Gm} {μ : Mem} {Q : Mem → Prop} {x y : Int} (wf : WF μ) (hx : 0 ≤ x ∧ x ≤ 384) (hy : 0 ≤ y ∧ y ≤ 384) (hd : y + 12 ≤ x ∨ x + 12 ≤ y) (h : Q (mrow μ x y 12)) : Cv G mX8_copy [(2, 110), (0, x), (0, y)] SHl μ Q := by
  refine eX8_copy (fun Φ hΦ hR => bX8_copy_0 hΦ hR ?_)
  have k : ∀ (m : Nat) (n : Int), n = 12 - m → 0 ≤ n → Ex G Φ 4 2 [some (2, 110), some (0, x), some (0, y), some (0, n)] [] SHl (mrow μ x y n) 0 0 := by
    intro m
    induction m with
    | zero =>
      intro n e h0
      have e : n = 12 := by omega
      subst e
      exact bX8_copy_2 hΦ hR ⟨⟨by decide, by decide⟩, fun _ => h, fun c => absurd (by decide) c⟩
    | succ m ih =>
      intro n e h0
      have w : mrow μ x y n 110 0 = 111 := by show (if _ then _ else _) = _; rw [if_neg (by omega)]; exact wf_110_0 wf
      refine bX8_copy_2 hΦ hR ⟨⟨by omega, by omega⟩, fun c => absurd c (by omega), fun _ => ⟨so_110, ?_⟩⟩
      rw [w]
      refine ⟨ai_111 (by omega) (by omega), ai_111 (by omega) (by omega), fun m5 e5 => ?_⟩
      rw [e5, mrow_s h0 (by omega)]
      exact ih (n + 1) (by omega) (by omega)
  have := k 12 0 (by decide) (by decide)
  rw [mrow_0] at this
  exact this
/-- a stand becomes as another -/
def mstd (μ : Mem) (a b : Int) : Mem := fun k i => if k = a ∧ 0 ≤ i ∧ i ≤ 2 then μ b i else if k = a + 1 ∧ 0 ≤ i ∧ i < 8 then μ (b + 1) i else μ k i
theorem c5_become {G : Gm} {μ : Mem} {Q : Mem → Prop} {a b : Int} (wf : WF μ) (ha : isS a) (hb : isS b) (hab : a ≠ b) (h : Q (mstd μ a b)) : Cv G mX5_become [(2, a), (2, b)] SHl μ Q := by
  have d : a ≠ b + 1 ∧ a + 1 ≠ b := by
    unfold isS at ha hb
    rcases ha with h | h | h | ⟨j, h⟩ <;> rcases hb with h' | h' | h' | ⟨j', h'⟩ <;> omega
  have e1 := wf_S3 wf ha
  have e2 := wf_S3 wf hb
  refine eX5_become (fun Φ hΦ hR => bX5_become_0 hΦ hR ⟨so_S ha, so_S hb, ?_⟩)
  rintro m3 e3 m4 e4 m5 e5
  have f : ∀ k i, m5 k i = if k = a ∧ 0 ≤ i ∧ i ≤ 2 then μ b i else μ k i := by
    intro k i
    rw [e5, e4, e3]
    by_cases c : k = a
    · subst c
      simp only [mu]
      by_cases c0 : i = 0
      · subst c0; simp
      · by_cases c1 : i = 1
        · subst c1; simp [hab.symm]
        · by_cases c2 : i = 2
          · subst c2; simp [hab.symm]
          · rw [if_neg (by omega), if_neg (by omega), if_neg (by omega), if_neg (by omega)]
    · rw [mu_row c, mu_row c, mu_row c, if_neg (by omega)]
  have g1 : m5 a 3 = a + 1 := by rw [f, if_neg (by omega)]; exact e1
  have g2 : m5 b 3 = b + 1 := by rw [f, if_neg (by omega)]; exact e2
  rw [g1, g2]
  refine ⟨?_, fun m7 e7 => ?_⟩
  · exact ⟨8, 8, so_S1 hb, so_S1 ha, by decide, by decide, by decide, by decide, by decide, by decide, by decide⟩
  · have : m7 = mstd μ a b := by
      rw [e7]
      funext k i
      unfold mcpy mstd
      simp only [f]
      by_cases c : k = a + 1 ∧ 0 ≤ i ∧ i < 8
      · rw [if_pos (by omega), if_neg (by omega), if_neg (by omega), if_pos c, show 0 + (i - 0) = i by omega]
      · rw [if_neg (by omega)]
        by_cases c' : k = a ∧ 0 ≤ i ∧ i ≤ 2
        · rw [if_pos c', if_pos c']
        · rw [if_neg c', if_neg c', if_neg c]
    rw [this]; exact h
theorem mstd_off {μ : Mem} {a b k i : Int} (h : ¬ (k = a ∧ 0 ≤ i ∧ i ≤ 2)) (h' : ¬ (k = a + 1 ∧ 0 ≤ i ∧ i < 8)) : mstd μ a b k i = μ k i := by unfold mstd; rw [if_neg h, if_neg h']
theorem mstd_f {μ : Mem} {a b i : Int} (h : 0 ≤ i ∧ i ≤ 2) : mstd μ a b a i = μ b i := by unfold mstd; rw [if_pos ⟨rfl, h⟩]
theorem mstd_p {μ : Mem} {a b i : Int} (h : 0 ≤ i ∧ i < 8) : mstd μ a b (a + 1) i = μ (b + 1) i := by unfold mstd; rw [if_neg (by omega), if_pos ⟨rfl, h⟩]
theorem mrow_off {μ : Mem} {x y n k i : Int} (h : ¬ (k = 111 ∧ y ≤ i ∧ i < y + n)) : mrow μ x y n k i = μ k i := by unfold mrow; rw [if_neg h]
theorem mrow_on {μ : Mem} {x y n i : Int} (h : y ≤ i ∧ i < y + n) : mrow μ x y n 111 i = μ 111 (x + (i - y)) := by unfold mrow; rw [if_pos ⟨rfl, h⟩]
theorem IS_cp {μ μ' : Mem} {o p o' p' : Int} (q : IS μ o p) (w : nW μ ≤ 8) (e : SW μ μ') (hf : ∀ i, 0 ≤ i → i ≤ 2 → μ' o' i = μ o i) (hp : ∀ i, 0 ≤ i → i < 8 → μ' (o' + 1) i = μ (o + 1) i) (hr : ∀ i, 0 ≤ i → i < 11 → μ' 111 (p' + i) = μ 111 (p + i)) : IS μ' o' p' := by
  obtain ⟨q1, q2, q3, q4⟩ := q
  refine ⟨by rw [hf 0 (by omega) (by omega), hf 1 (by omega) (by omega), hf 2 (by omega) (by omega), hr 8 (by omega) (by omega), hr 9 (by omega) (by omega), hr 10 (by omega) (by omega)]; exact q1, by rw [hf 0 (by omega) (by omega), hf 1 (by omega) (by omega)]; exact q2, by rw [hf 2 (by omega) (by omega), e.nl]; exact q3, ?_⟩
  rw [e.nw, e.w]; intro i g0 g1
  rw [hp i g0 (by omega), hr i g0 (by omega), e.t]; exact q4 i g0 g1
