/-! THE WORKS TAKEN OVER, the reference -/
def cpy (κ : Mem) (a b s x : Int) : Mem := fun k i => if a ≤ k ∧ k ≤ b ∧ 0 ≤ i ∧ i < x then κ k (s + i) else κ k i
theorem cpy_in {κ : Mem} {a b s x k i : Int} (h : a ≤ k ∧ k ≤ b ∧ 0 ≤ i ∧ i < x) : cpy κ a b s x k i = κ k (s + i) := if_pos h
theorem cpy_out {κ : Mem} {a b s x k i : Int} (h : ¬ (a ≤ k ∧ k ≤ b ∧ 0 ≤ i ∧ i < x)) : cpy κ a b s x k i = κ k i := if_neg h
theorem cpy_0 {κ : Mem} {a b s : Int} : cpy κ a b s 0 = κ := by
  funext k i
  exact cpy_out (by omega)
theorem wf_cpy {κ : Mem} {a b s x : Int} (h : WF κ) (ha : 113 ≤ a) : WF (cpy κ a b s x) := wf_sm h (fun k i d => cpy_out (by unfold dF at d; omega))
theorem cpy_2 {κ m5 m8 : Mem} {a s x : Int} (hs : x < s) (x0 : 0 ≤ x) (e5 : m5 = mu (cpy κ a (a + 1) s x) a x (cpy κ a (a + 1) s x a (s + x))) (e8 : m8 = mu m5 (a + 1) x (m5 (a + 1) (s + x))) : m8 = cpy κ a (a + 1) s (x + 1) := by
  funext k i
  by_cases c : a ≤ k ∧ k ≤ a + 1 ∧ 0 ≤ i ∧ i < x + 1
  · rw [cpy_in c]
    by_cases d : i = x
    · rcases (show k = a ∨ k = a + 1 by omega) with y | y
      · rw [e8, mu_off2 (by omega), e5, mu_on2 y d, cpy_out (by omega), y, d]
      · rw [e8, mu_on2 y d, e5, mu_off2 (by omega), cpy_out (by omega), y, d]
    · rw [e8, mu_off2 (by omega), e5, mu_off2 (by omega), cpy_in (by omega)]
  · rw [cpy_out c, e8, mu_off2 (by omega), e5, mu_off2 (by omega), cpy_out (by omega)]
theorem cpy_4 {κ m5 m8 m11 m14 : Mem} {a s x : Int} (hs : x < s) (x0 : 0 ≤ x) (e5 : m5 = mu (cpy κ a (a + 3) s x) a x (cpy κ a (a + 3) s x a (s + x))) (e8 : m8 = mu m5 (a + 1) x (m5 (a + 1) (s + x))) (e11 : m11 = mu m8 (a + 2) x (m8 (a + 2) (s + x))) (e14 : m14 = mu m11 (a + 3) x (m11 (a + 3) (s + x))) : m14 = cpy κ a (a + 3) s (x + 1) := by
  funext k i
  by_cases c : a ≤ k ∧ k ≤ a + 3 ∧ 0 ≤ i ∧ i < x + 1
  · rw [cpy_in c]
    by_cases d : i = x
    · rcases (show k = a ∨ k = a + 1 ∨ k = a + 2 ∨ k = a + 3 by omega) with y | y | y | y
      · rw [e14, mu_off2 (by omega), e11, mu_off2 (by omega), e8, mu_off2 (by omega), e5, mu_on2 y d, cpy_out (by omega), y, d]
      · rw [e14, mu_off2 (by omega), e11, mu_off2 (by omega), e8, mu_on2 y d, e5, mu_off2 (by omega), cpy_out (by omega), y, d]
      · rw [e14, mu_off2 (by omega), e11, mu_on2 y d, e8, mu_off2 (by omega), e5, mu_off2 (by omega), cpy_out (by omega), y, d]
      · rw [e14, mu_on2 y d, e11, mu_off2 (by omega), e8, mu_off2 (by omega), e5, mu_off2 (by omega), cpy_out (by omega), y, d]
    · rw [e14, mu_off2 (by omega), e11, mu_off2 (by omega), e8, mu_off2 (by omega), e5, mu_off2 (by omega), cpy_in (by omega)]
  · rw [cpy_out c, e14, mu_off2 (by omega), e11, mu_off2 (by omega), e8, mu_off2 (by omega), e5, mu_off2 (by omega), cpy_out (by omega)]
def tk5 (κ : Mem) : Mem := mu (mu (mu (mu (mu κ 110 2 (κ 110 7)) 110 3 (κ 110 8)) 110 4 (κ 110 9)) 110 5 (κ 110 10)) 110 6 (κ 110 11)
theorem tk5_off {κ : Mem} {k i : Int} (h : ¬ (k = 110 ∧ 2 ≤ i ∧ i ≤ 6)) : tk5 κ k i = κ k i := by
  unfold tk5
  rw [mu_off2 (by omega), mu_off2 (by omega), mu_off2 (by omega), mu_off2 (by omega), mu_off2 (by omega)]
def tkA (κ : Mem) : Mem := cpy (cpy (cpy (tk5 κ) 113 114 8 8) 115 118 10 10) 119 120 6 6
theorem c8_take {G : Gm} {κ : Mem} {Q : Mem → Prop} (wf : WF κ) (q : Q (tkA κ)) : Cv G mX8_take [(2, 110)] SHl κ Q := by
  refine eX8_take (fun Φ hΦ hR => ?_)
  have wf5 : WF (tk5 κ) := wf_sm wf (fun k i d => tk5_off (by unfold dF at d; omega))
  have wfa : WF (cpy (tk5 κ) 113 114 8 8) := wf_cpy wf5 (by decide)
  have wfb : WF (cpy (cpy (tk5 κ) 113 114 8 8) 115 118 10 10) := wf_cpy wfa (by decide)
  have l3 : ∀ (m : Nat) (x : Int), x + m = 6 → 0 ≤ x → Ex G Φ 2 160 [some (2, 110), some (0, x)] [] SHl (cpy (cpy (cpy (tk5 κ) 113 114 8 8) 115 118 10 10) 119 120 6 x) 0 0 := by
    intro m
    induction m with
    | zero =>
      intro x hx x0
      refine bX8_take_160 hΦ hR ⟨⟨by omega, by omega⟩, fun _ => ?_, fun c => absurd (by omega) c⟩
      have e : x = 6 := by omega
      rw [e]; exact q
    | succ m ih =>
      intro x hx x0
      generalize cpy (cpy (tk5 κ) 113 114 8 8) 115 118 10 10 = κb at *
      have w : WF (cpy κb 119 120 6 x) := wf_cpy wfb (by decide)
      refine bX8_take_160 hΦ hR ⟨⟨by omega, by omega⟩, fun c => absurd c (by omega), fun _ => ⟨so_110, ?_⟩⟩
      rw [wf_110_19 w]
      refine ⟨ai_119 (by omega) (by omega), ai_119 (by omega) (by omega), ?_⟩
      rintro m5 e5
      have w5 : m5 110 20 = 120 := by rw [e5, mu_off2 (by omega)]; exact wf_110_20 w
      rw [w5]
      refine ⟨ai_120 (by omega) (by omega), ai_120 (by omega) (by omega), ?_⟩
      rintro m8 e8
      rw [cpy_2 (a := 119) (s := 6) (by omega) x0 e5 e8]
      exact ih (x + 1) (by omega) (by omega)
  have l2 : ∀ (m : Nat) (x : Int), x + m = 10 → 0 ≤ x → Ex G Φ 2 86 [some (2, 110), some (0, x)] [] SHl (cpy (cpy (tk5 κ) 113 114 8 8) 115 118 10 x) 0 0 := by
    intro m
    induction m with
    | zero =>
      intro x hx x0
      refine bX8_take_86 hΦ hR ⟨⟨by omega, by omega⟩, fun _ => ?_, fun c => absurd (by omega) c⟩
      have e : x = 10 := by omega
      have := l3 6 0 (by decide) (by decide)
      rw [cpy_0] at this
      rw [e]; exact this
    | succ m ih =>
      intro x hx x0
      generalize cpy (tk5 κ) 113 114 8 8 = κb at *
      have w : WF (cpy κb 115 118 10 x) := wf_cpy wfa (by decide)
      refine bX8_take_86 hΦ hR ⟨⟨by omega, by omega⟩, fun c => absurd c (by omega), fun _ => ⟨so_110, ?_⟩⟩
      rw [wf_110_15 w]
      refine ⟨ai_115 (by omega) (by omega), ai_115 (by omega) (by omega), ?_⟩
      rintro m5 e5
      have w5 : m5 110 16 = 116 := by rw [e5, mu_off2 (by omega)]; exact wf_110_16 w
      rw [w5]
      refine ⟨ai_116 (by omega) (by omega), ai_116 (by omega) (by omega), ?_⟩
      rintro m8 e8
      have w8 : m8 110 17 = 117 := by rw [e8, mu_off2 (by omega), e5, mu_off2 (by omega)]; exact wf_110_17 w
      rw [w8]
      refine ⟨ai_117 (by omega) (by omega), ai_117 (by omega) (by omega), ?_⟩
      rintro m11 e11
      have w11 : m11 110 18 = 118 := by rw [e11, mu_off2 (by omega), e8, mu_off2 (by omega), e5, mu_off2 (by omega)]; exact wf_110_18 w
      rw [w11]
      refine ⟨ai_118 (by omega) (by omega), ai_118 (by omega) (by omega), ?_⟩
      rintro m14 e14
      rw [cpy_4 (a := 115) (s := 10) (by omega) x0 e5 e8 e11 e14]
      exact ih (x + 1) (by omega) (by omega)
  have l1 : ∀ (m : Nat) (x : Int), x + m = 8 → 0 ≤ x → Ex G Φ 2 42 [some (2, 110), some (0, x)] [] SHl (cpy (tk5 κ) 113 114 8 x) 0 0 := by
    intro m
    induction m with
    | zero =>
      intro x hx x0
      refine bX8_take_42 hΦ hR ⟨⟨by omega, by omega⟩, fun _ => ?_, fun c => absurd (by omega) c⟩
      have e : x = 8 := by omega
      have := l2 10 0 (by decide) (by decide)
      rw [cpy_0] at this
      rw [e]; exact this
    | succ m ih =>
      intro x hx x0
      generalize tk5 κ = κb at *
      have w : WF (cpy κb 113 114 8 x) := wf_cpy wf5 (by decide)
      refine bX8_take_42 hΦ hR ⟨⟨by omega, by omega⟩, fun c => absurd c (by omega), fun _ => ⟨so_110, ?_⟩⟩
      rw [wf_110_13 w]
      refine ⟨ai_113 (by omega) (by omega), ai_113 (by omega) (by omega), ?_⟩
      rintro m5 e5
      have w5 : m5 110 14 = 114 := by rw [e5, mu_off2 (by omega)]; exact wf_110_14 w
      rw [w5]
      refine ⟨ai_114 (by omega) (by omega), ai_114 (by omega) (by omega), ?_⟩
      rintro m8 e8
      rw [cpy_2 (a := 113) (s := 8) (by omega) x0 e5 e8]
      exact ih (x + 1) (by omega) (by omega)
  refine bX8_take_0 hΦ hR ⟨so_110, ?_⟩
  rintro m2 e2 m3 e3 m4 e4 m5 e5 m6 e6
  have e : m6 = tk5 κ := by
    rw [show m2 110 8 = κ 110 8 by rw [e2, mu_off2 (by omega)]] at e3
    rw [show m3 110 9 = κ 110 9 by rw [e3, mu_off2 (by omega), e2, mu_off2 (by omega)]] at e4
    rw [show m4 110 10 = κ 110 10 by rw [e4, mu_off2 (by omega), e3, mu_off2 (by omega), e2, mu_off2 (by omega)]] at e5
    rw [show m5 110 11 = κ 110 11 by rw [e5, mu_off2 (by omega), e4, mu_off2 (by omega), e3, mu_off2 (by omega), e2, mu_off2 (by omega)]] at e6
    rw [e6, e5, e4, e3, e2]; rfl
  rw [e]
  have := l1 8 0 (by decide) (by decide)
  rw [cpy_0] at this
  exact this
