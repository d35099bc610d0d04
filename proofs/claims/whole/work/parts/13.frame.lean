/-! WHICH CELLS a part of what holds looks at -/
theorem mu_off2 {μ : Mem} {k i x k' i' : Int} (h : ¬ (k' = k ∧ i' = i)) : mu μ k i x k' i' = μ k' i' := by simp [mu, h]
theorem mu_on2 {μ : Mem} {k i x k' i' : Int} (h : k' = k) (h' : i' = i) : mu μ k i x k' i' = x := by simp [mu, h, h']
def dW (W nl k i : Int) : Prop := (k = 0 ∧ (i = 1 ∨ i = 2)) ∨ (k = W ∧ 0 ≤ i ∧ i ≤ 4) ∨ k = W + 1 ∨ k = W + 3 ∨ ((k = W + 4 ∨ k = W + 5 ∨ k = W + 6) ∧ i < nl) ∨ k = W + 7 ∨ k = W + 8 ∨ (k = 110 ∧ 2 ≤ i ∧ i ≤ 6) ∨ (k = 113 ∧ i < 8) ∨ (115 ≤ k ∧ k ≤ 118 ∧ i < 10) ∨ ((k = 119 ∨ k = 120) ∧ i < 6)
def dR (k i : Int) : Prop := (k = 1 ∧ (i = 1 ∨ i = 7)) ∨ k = 2 ∨ k = 121 ∨ (k = 110 ∧ (i = 22 ∨ i = 26))
def dN (k i : Int) : Prop := (k = 29 ∧ 0 ≤ i ∧ i ≤ 2) ∨ k = 30 ∨ (k = 111 ∧ 0 ≤ i ∧ i < 12) ∨ (k = 0 ∧ i = 12)
def dD (k i : Int) : Prop := (k = 31 ∧ 1 ≤ i ∧ i ≤ 2) ∨ (33 ≤ k ∧ k ≤ 92) ∨ (k = 111 ∧ 36 ≤ i) ∨ (k = 110 ∧ i = 31)
def dI (k i : Int) : Prop := (104 ≤ k ∧ k ≤ 109) ∨ (k = 111 ∧ 12 ≤ i ∧ i < 36) ∨ k = 112
def dL (k i : Int) : Prop := (94 ≤ k ∧ k ≤ 101) ∨ (126 ≤ k ∧ k ≤ 128) ∨ (130 ≤ k ∧ k ≤ 132) ∨ (k = 110 ∧ (i = 37 ∨ i = 42))
def dM (k i : Int) : Prop := (k = 21 ∧ 4 ≤ i ∧ i ≤ 5) ∨ k = 22 ∨ k = 23 ∨ (k = 29 ∧ i = 2)
def Sm (d : Int → Int → Prop) (μ μ' : Mem) : Prop := ∀ k i, d k i → μ' k i = μ k i
/-- the rows that the works need agree -/
def SW (μ μ' : Mem) : Prop := (wW μ' = wW μ) ∧ (nW μ' = nW μ) ∧ (nL μ' = nL μ) ∧ (nF μ' = nF μ) ∧ (μ' (wW μ) 3 = μ (wW μ) 3) ∧ (μ' (wW μ) 4 = μ (wW μ) 4) ∧ (∀ i, μ' (wW μ + 1) i = μ (wW μ + 1) i) ∧ (∀ i, μ' (wW μ + 3) i = μ (wW μ + 3) i) ∧ (∀ i, i < nL μ → μ' (wW μ + 4) i = μ (wW μ + 4) i) ∧ (∀ i, i < nL μ → μ' (wW μ + 5) i = μ (wW μ + 5) i) ∧ (∀ i, i < nL μ → μ' (wW μ + 6) i = μ (wW μ + 6) i)
theorem SW.w {μ μ' : Mem} (h : SW μ μ') : wW μ' = wW μ := h.1
theorem SW.nw {μ μ' : Mem} (h : SW μ μ') : nW μ' = nW μ := h.2.1
theorem SW.nl {μ μ' : Mem} (h : SW μ μ') : nL μ' = nL μ := h.2.2.1
theorem SW.nf {μ μ' : Mem} (h : SW μ μ') : nF μ' = nF μ := h.2.2.2.1
theorem SW.f3 {μ μ' : Mem} (h : SW μ μ') : μ' (wW μ) 3 = μ (wW μ) 3 := h.2.2.2.2.1
theorem SW.f4 {μ μ' : Mem} (h : SW μ μ') : μ' (wW μ) 4 = μ (wW μ) 4 := h.2.2.2.2.2.1
theorem SW.t {μ μ' : Mem} (h : SW μ μ') : ∀ i, μ' (wW μ + 1) i = μ (wW μ + 1) i := h.2.2.2.2.2.2.1
theorem SW.s {μ μ' : Mem} (h : SW μ μ') : ∀ i, μ' (wW μ + 3) i = μ (wW μ + 3) i := h.2.2.2.2.2.2.2.1
theorem SW.k {μ μ' : Mem} (h : SW μ μ') : ∀ i, i < nL μ → μ' (wW μ + 4) i = μ (wW μ + 4) i := h.2.2.2.2.2.2.2.2.1
theorem SW.a {μ μ' : Mem} (h : SW μ μ') : ∀ i, i < nL μ → μ' (wW μ + 5) i = μ (wW μ + 5) i := h.2.2.2.2.2.2.2.2.2.1
theorem SW.b {μ μ' : Mem} (h : SW μ μ') : ∀ i, i < nL μ → μ' (wW μ + 6) i = μ (wW μ + 6) i := h.2.2.2.2.2.2.2.2.2.2
theorem SW_of {μ μ' : Mem} (h : Sm (dW (wW μ) (nL μ)) μ μ') : SW μ μ' := by
  have e : wW μ' = wW μ := h 0 1 (by unfold dW; omega)
  refine ⟨e, ?_, ?_, ?_, h _ _ (by unfold dW; omega), h _ _ (by unfold dW; omega), fun i => h _ _ (by unfold dW; omega), fun i => h _ _ (by unfold dW; omega), fun i hi => h _ _ (by unfold dW; omega), fun i hi => h _ _ (by unfold dW; omega), fun i hi => h _ _ (by unfold dW; omega)⟩
  · show μ' (wW μ') 0 = _; rw [e]; exact h _ _ (by unfold dW; omega)
  · show μ' (wW μ') 1 = _; rw [e]; exact h _ _ (by unfold dW; omega)
  · show μ' (wW μ') 2 = _; rw [e]; exact h _ _ (by unfold dW; omega)
theorem SW.rf {μ : Mem} : SW μ μ := ⟨rfl, rfl, rfl, rfl, rfl, rfl, fun _ => rfl, fun _ => rfl, fun _ _ => rfl, fun _ _ => rfl, fun _ _ => rfl⟩
theorem IW_sm {μ μ' : Mem} (q : IW μ) (h : Sm (dW (wW μ) (nL μ)) μ μ') : IW μ' := by
  have e := SW_of h
  obtain ⟨q1, q2, q3, q4, q5, q6, q7, q8, q9, q10⟩ := q
  have g : ∀ j, 2 ≤ j → j ≤ 6 → μ' 110 j = μ 110 j := fun j _ _ => h _ _ (by unfold dW; omega)
  refine ⟨by rw [e.w]; exact q1, by rw [e.w, h 0 2 (by unfold dW; omega)]; exact q2, by rw [e.nw, g 2 (by omega) (by omega)]; exact q3, by rw [e.nl, g 3 (by omega) (by omega)]; exact q4, by rw [e.nf, g 4 (by omega) (by omega)]; exact q5, ?_, ?_, ?_, ?_, ?_⟩
  · rw [e.w, e.f3, e.nw, g 5 (by omega) (by omega)]; exact q6
  · rw [e.w, e.f4, g 6 (by omega) (by omega)]; exact q7
  · rw [e.w, e.nw]; intro i h0 h1; rw [e.t, h 113 i (by unfold dW; omega)]; exact q8 i h0 h1
  · rw [e.w, e.nl, e.nw]; intro i h0 h1
    rw [e.k i h1, e.a i h1, e.b i h1, e.s i, h 115 i (by unfold dW; omega), h 116 i (by unfold dW; omega), h 117 i (by unfold dW; omega), h 118 i (by unfold dW; omega)]
    exact q9 i h0 h1
  · rw [e.w, e.nf, e.nw]; intro i h0 h1
    rw [h (wW μ + 7) i (by unfold dW; omega), h (wW μ + 8) i (by unfold dW; omega), h 119 i (by unfold dW; omega), h 120 i (by unfold dW; omega)]
    exact q10 i h0 h1
theorem IR_sm {μ μ' : Mem} (q : IR μ) (h : Sm dR μ μ') : IR μ' := by
  obtain ⟨q1, q2, q3⟩ := q
  have e1 := h 1 1 (by unfold dR; omega)
  refine ⟨by rw [e1, h 110 22 (by unfold dR; omega)]; exact q1, ?_, by rw [h 1 7 (by unfold dR; omega), h 110 26 (by unfold dR; omega)]; exact q3⟩
  rw [e1]; intro i h0 h1
  rw [h 2 i (by unfold dR; omega), h 121 i (by unfold dR; omega)]; exact q2 i h0 h1
theorem IS_sm {μ μ' : Mem} {o p : Int} (q : IS μ o p) (e : SW μ μ') (h0 : μ' o 0 = μ o 0) (h1 : μ' o 1 = μ o 1) (h2 : μ' o 2 = μ o 2) (hp : ∀ i, 0 ≤ i → i < nW μ → μ' (o + 1) i = μ (o + 1) i ∧ μ' 111 (p + i) = μ 111 (p + i)) (h8 : μ' 111 (p + 8) = μ 111 (p + 8)) (h9 : μ' 111 (p + 9) = μ 111 (p + 9)) (h10 : μ' 111 (p + 10) = μ 111 (p + 10)) : IS μ' o p := by
  obtain ⟨q1, q2, q3, q4⟩ := q
  refine ⟨by rw [h0, h1, h2, h8, h9, h10]; exact q1, by rw [h0, h1]; exact q2, by rw [h2, e.nl]; exact q3, ?_⟩
  rw [e.nw, e.w]; intro i g0 g1
  rw [(hp i g0 g1).1, (hp i g0 g1).2, e.t]; exact q4 i g0 g1
theorem IN_sm {μ μ' : Mem} (q : IN μ) (w : nW μ ≤ 8) (e : SW μ μ') (h : Sm dN μ μ') : IN μ' := by
  obtain ⟨q1, q2⟩ := q
  refine ⟨IS_sm q1 e (h _ _ (by unfold dN; omega)) (h _ _ (by unfold dN; omega)) (h _ _ (by unfold dN; omega)) (fun i h0 h1 => ⟨h _ _ (by unfold dN; omega), h _ _ (by unfold dN; omega)⟩) (h _ _ (by unfold dN; omega)) (h _ _ (by unfold dN; omega)) (h _ _ (by unfold dN; omega)), ?_⟩
  rw [h 0 12 (by unfold dN; omega), h 111 11 (by unfold dN; omega)]; exact q2
theorem ID_sm {μ μ' : Mem} (q : ID μ) (w : nW μ ≤ 8) (e : SW μ μ') (h : Sm dD μ μ') : ID μ' := by
  obtain ⟨q1, q2, q3⟩ := q
  have e1 := h 31 1 (by unfold dD; omega)
  have e2 := h 31 2 (by unfold dD; omega)
  refine ⟨by rw [e2, h 110 31 (by unfold dD; omega)]; exact q1, by rw [e1]; exact q2, ?_⟩
  rw [e1, e2]; intro j h0 h1
  have b := Int.emod_lt_of_pos (μ 31 1 - μ 31 2 + j) (show (0 : Int) < 30 by decide)
  have b' := Int.emod_nonneg (μ 31 1 - μ 31 2 + j) (show (30 : Int) ≠ 0 by decide)
  have q4 := q3 j h0 h1
  generalize (μ 31 1 - μ 31 2 + j) % 30 = z at q4 b b' ⊢
  exact IS_sm q4 e (h _ _ (by unfold dD; omega)) (h _ _ (by unfold dD; omega)) (h _ _ (by unfold dD; omega)) (fun i h0 h1 => ⟨h _ _ (by unfold dD; omega), h _ _ (by unfold dD; omega)⟩) (h _ _ (by unfold dD; omega)) (h _ _ (by unfold dD; omega)) (h _ _ (by unfold dD; omega))
theorem II_sm {μ μ' : Mem} (q : II μ) (w : nW μ ≤ 8) (e : SW μ μ') (h : Sm dI μ μ') : II μ' := by
  intro i h0 h1
  obtain ⟨q1, q2⟩ := q i h0 h1
  refine ⟨by rw [h (104 + 3 * i) 2 (by unfold dI; omega), h 112 i (by unfold dI; omega)]; exact q1, ?_⟩
  rw [h 112 i (by unfold dI; omega)]; intro k
  obtain ⟨q3, q4⟩ := q2 k
  refine ⟨IS_sm q3 e (h _ _ (by unfold dI; omega)) (h _ _ (by unfold dI; omega)) (h _ _ (by unfold dI; omega)) (fun i h0 h1 => ⟨h _ _ (by unfold dI; omega), h _ _ (by unfold dI; omega)⟩) (h _ _ (by unfold dI; omega)) (h _ _ (by unfold dI; omega)) (h _ _ (by unfold dI; omega)), ?_⟩
  rw [h (104 + 3 * i) 1 (by unfold dI; omega), h 111 _ (by unfold dI; omega)]; exact q4
theorem IL_sm {μ μ' : Mem} (q : IL μ) (e : SW μ μ') (h : Sm dL μ μ') : IL μ' := by
  obtain ⟨q1, q2, q3, q4⟩ := q
  have e1 := h 94 3 (by unfold dL; omega)
  have e2 := h 98 3 (by unfold dL; omega)
  refine ⟨by rw [e1, h 110 37 (by unfold dL; omega)]; exact q1, by rw [e2, h 110 42 (by unfold dL; omega)]; exact q2, ?_, ?_⟩
  · rw [e1, e.nw]; intro j h0 h1
    rw [h 95 j (by unfold dL; omega), h 96 j (by unfold dL; omega), h 97 j (by unfold dL; omega), h 126 j (by unfold dL; omega), h 127 j (by unfold dL; omega), h 128 j (by unfold dL; omega)]; exact q3 j h0 h1
  · rw [e2, e.nw]; intro j h0 h1
    rw [h 99 j (by unfold dL; omega), h 100 j (by unfold dL; omega), h 101 j (by unfold dL; omega), h 130 j (by unfold dL; omega), h 131 j (by unfold dL; omega), h 132 j (by unfold dL; omega)]; exact q4 j h0 h1
theorem Edg_sm {nl : Int} {on on' : Int → Prop} {kd kd' a a' b b' : Int → Int} (h : ∀ l, 0 ≤ l → l < nl → (on' l ↔ on l) ∧ kd' l = kd l ∧ a' l = a l ∧ b' l = b l) : Edg nl on' kd' a' b' = Edg nl on kd a b := by
  funext k x y
  apply propext
  constructor
  · rintro ⟨l, h0, h1, h2, h3, h4, h5⟩
    obtain ⟨e1, e2, e3, e4⟩ := h l h0 h1
    exact ⟨l, h0, h1, e1.mp h2, by rw [h3, e2], by rw [h4, e3], by rw [h5, e4]⟩
  · rintro ⟨l, h0, h1, h2, h3, h4, h5⟩
    obtain ⟨e1, e2, e3, e4⟩ := h l h0 h1
    exact ⟨l, h0, h1, e1.mpr h2, by rw [h3, e2], by rw [h4, e3], by rw [h5, e4]⟩
theorem IM_sm {μ μ' : Mem} (q : IM μ) (e : SW μ μ') (h : Sm dM μ μ') : IM μ' := by
  obtain ⟨q1, q2, q3⟩ := q
  have r2 : ∀ w, μ' 22 w = μ 22 w := fun w => h 22 w (by unfold dM; omega)
  have r3 : ∀ w, μ' 23 w = μ 23 w := fun w => h 23 w (by unfold dM; omega)
  have c := h 29 2 (by unfold dM; omega)
  have tu := h 21 4 (by unfold dM; omega)
  have bi := h 21 5 (by unfold dM; omega)
  have ed : Edg (nL μ) (fun l => bt_ (μ 29 2) l = 0) (μ' (wW μ + 4)) (μ' (wW μ + 5)) (μ' (wW μ + 6)) = Edg (nL μ) (fun l => bt_ (μ 29 2) l = 0) (μ (wW μ + 4)) (μ (wW μ + 5)) (μ (wW μ + 6)) := Edg_sm (fun l _ h1 => ⟨Iff.rfl, e.k l h1, e.a l h1, e.b l h1⟩)
  refine ⟨?_, by rw [tu, e.nw]; exact q2, by rw [e.nw]; intro w h0 h1; rw [tu, r2]; exact q3 w h0 h1⟩
  rw [e.w, e.nw, e.nl, e.f3, e.f4, c, bi, ed, show μ' (wW μ + 1) = μ (wW μ + 1) from funext e.t, show (fun w => (μ' 22 w, μ' 23 w)) = fun w => (μ 22 w, μ 23 w) from funext fun w => by rw [r2, r3]]
  exact q1
