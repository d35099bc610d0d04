/-! THE BEST of the sets: the one with fewest bits, the first of those -/
def IsB (g : Int → Prop) (n b : Int) : Prop := (b = -1 ∧ ∀ s, 0 ≤ s → s < n → ¬ g s) ∨ (0 ≤ b ∧ b < n ∧ g b ∧ ∀ s, 0 ≤ s → s < n → g s → pc b 10 < pc s 10 ∨ (pc b 10 = pc s 10 ∧ b ≤ s))
theorem IsB_0 {g : Int → Prop} : IsB g 0 (-1) := Or.inl ⟨rfl, fun s h0 h1 => by omega⟩
theorem IsB_no {g : Int → Prop} {n b : Int} (h : IsB g n b) (hn : ¬ g n) : IsB g (n + 1) b := by
  rcases h with ⟨e, h⟩ | ⟨h0, h1, h2, h3⟩
  · refine Or.inl ⟨e, fun s s0 s1 => ?_⟩
    by_cases c : s = n
    · rw [c]; exact hn
    · exact h s s0 (by omega)
  · refine Or.inr ⟨h0, by omega, h2, fun s s0 s1 gs => ?_⟩
    by_cases c : s = n
    · rw [c] at gs; exact absurd gs hn
    · exact h3 s s0 (by omega) gs
theorem IsB_worse {g : Int → Prop} {n b : Int} (h : IsB g n b) (hb : 0 ≤ b) (hn : pc b 10 ≤ pc n 10) : IsB g (n + 1) b := by
  rcases h with ⟨e, h⟩ | ⟨h0, h1, h2, h3⟩
  · omega
  · refine Or.inr ⟨h0, by omega, h2, fun s s0 s1 gs => ?_⟩
    by_cases c : s = n
    · rw [c]; omega
    · exact h3 s s0 (by omega) gs
theorem IsB_new {g : Int → Prop} {n b : Int} (h : IsB g n b) (hn : 0 ≤ n) (gn : g n) (hb : 0 ≤ b → pc n 10 < pc b 10) : IsB g (n + 1) n := by
  refine Or.inr ⟨hn, by omega, gn, fun s s0 s1 gs => ?_⟩
  by_cases c : s = n
  · rw [c]; omega
  · rcases h with ⟨e, h⟩ | ⟨h0, h1, h2, h3⟩
    · exact absurd gs (h s s0 (by omega))
    · have := h3 s s0 (by omega) gs
      have := hb h0
      omega
theorem IsB_un {g : Int → Prop} {n b b' : Int} (h : IsB g n b) (h' : IsB g n b') : b = b' := by
  rcases h with ⟨e, h⟩ | ⟨h0, h1, h2, h3⟩ <;> rcases h' with ⟨e', h'⟩ | ⟨h0', h1', h2', h3'⟩
  · omega
  · exact absurd h2' (h _ h0' h1')
  · exact absurd h2 (h' _ h0 h1)
  · have := h3 _ h0' h1' h2'
    have := h3' _ h0 h1 h2
    omega
theorem IsB_up {g : Int → Prop} {n m b : Int} (h : IsB g n b) (hm : n ≤ m) (hn : ∀ s, n ≤ s → s < m → ¬ g s) : IsB g m b := by
  rcases h with ⟨e, h⟩ | ⟨h0, h1, h2, h3⟩
  · refine Or.inl ⟨e, fun s s0 s1 => ?_⟩
    by_cases c : s < n
    · exact h s s0 c
    · exact hn s (by omega) s1
  · refine Or.inr ⟨h0, by omega, h2, fun s s0 s1 gs => ?_⟩
    by_cases c : s < n
    · exact h3 s s0 c gs
    · exact absurd gs (hn s (by omega) s1)
theorem IsB_rg {g : Int → Prop} {n b : Int} (h : IsB g n b) : b = -1 ∨ (0 ≤ b ∧ b < n) := by
  rcases h with ⟨e, h⟩ | ⟨h0, h1, h2, h3⟩
  · exact Or.inl e
  · exact Or.inr ⟨h0, h1⟩
theorem pc_31 {x : Int} (h0 : 0 ≤ x) (h1 : x < 1024) : pc x 31 = pc x 10 := pc_hi (n := 10) (fun k hk => bt_lt (n := 10) h0 (by rw [show (2 : Int) ^ 10 = 1024 by decide]; exact h1) hk) 21
theorem pc_sub {x y : Int} (h : ∀ k : Nat, k < 32 → bt_ x (k : Int) = 1 → bt_ y (k : Int) = 1) : ∀ n : Nat, n ≤ 32 → pc x n ≤ pc y n ∧ (pc x n = pc y n → ∀ k : Nat, k < n → bt_ x (k : Int) = bt_ y (k : Int))
  | 0, _ => ⟨Int.le_refl _, fun _ k hk => absurd hk (Nat.not_lt_zero _)⟩
  | n + 1, hn => by
    obtain ⟨i1, i2⟩ := pc_sub h n (by omega)
    have hk := h n (by omega)
    have b1 := bt_rg x (n : Int)
    have b2 := bt_rg y (n : Int)
    have le : bt_ x (n : Int) ≤ bt_ y (n : Int) := by
      rcases bt_01 (x := x) (k := (n : Int)) with e | e
      · omega
      · have := hk e; omega
    refine ⟨by show pc x n + bt_ x (n : Int) ≤ pc y n + bt_ y (n : Int); omega, fun e k hk => ?_⟩
    have e : pc x n + bt_ x (n : Int) = pc y n + bt_ y (n : Int) := e
    by_cases c : k = n
    · rw [c]; omega
    · exact i2 (by omega) k (by omega)
theorem pc_lt {x y : Int} (x0 : 0 ≤ x) (x1 : x < 1024) (y0 : 0 ≤ y) (y1 : y < 1024) (h : ∀ k : Nat, k < 32 → bt_ x (k : Int) = 1 → bt_ y (k : Int) = 1) (ne : x ≠ y) : pc x 10 < pc y 10 := by
  obtain ⟨a, b⟩ := pc_sub h 10 (by decide)
  refine Classical.byContradiction fun c => ne ?_
  have e := b (by omega)
  refine bt_ext ⟨by omega, by omega⟩ ⟨by omega, by omega⟩ (fun k hk => ?_)
  by_cases d : k < 10
  · exact e k d
  · rw [bt_lt (n := 10) x0 (by rw [show (2 : Int) ^ 10 = 1024 by decide]; exact x1) (by omega), bt_lt (n := 10) y0 (by rw [show (2 : Int) ^ 10 = 1024 by decide]; exact y1) (by omega)]
/-- a search that begins with the greatest set A, whose subsets alone are looked at -/
def IsA (g : Int → Prop) (A n v : Int) : Prop := (v = A ∧ IsB g n (-1)) ∨ (0 ≤ v ∧ v < n ∧ IsB g n v)
theorem IsA_0 {g : Int → Prop} {A : Int} : IsA g A 0 A := Or.inl ⟨rfl, IsB_0⟩
theorem IsA_no {g : Int → Prop} {A n v : Int} (h : IsA g A n v) (hn : ¬ g n) : IsA g A (n + 1) v := by
  rcases h with ⟨e, h⟩ | ⟨v0, v1, h⟩
  · exact Or.inl ⟨e, IsB_no h hn⟩
  · exact Or.inr ⟨v0, by omega, IsB_no h hn⟩
theorem IsA_worse {g : Int → Prop} {A n v : Int} (h : IsA g A n v) (n0 : 0 ≤ n) (n1 : n < A) (A1 : A < 1024) (sb : ∀ k : Nat, k < 32 → bt_ n (k : Int) = 1 → bt_ A (k : Int) = 1) (hp : pc v 10 ≤ pc n 10) : IsA g A (n + 1) v := by
  rcases h with ⟨e, h⟩ | ⟨v0, v1, h⟩
  · have := pc_lt n0 (by omega) (by omega) A1 sb (by omega)
    rw [e] at hp; omega
  · exact Or.inr ⟨v0, by omega, IsB_worse h v0 hp⟩
theorem IsA_new {g : Int → Prop} {A n v : Int} (h : IsA g A n v) (n0 : 0 ≤ n) (gn : g n) (hp : pc n 10 < pc v 10) : IsA g A (n + 1) n := by
  rcases h with ⟨e, h⟩ | ⟨v0, v1, h⟩
  · exact Or.inr ⟨n0, by omega, IsB_new h n0 gn (fun c => absurd c (by decide))⟩
  · exact Or.inr ⟨n0, by omega, IsB_new h n0 gn (fun _ => hp)⟩
theorem IsA_fin {g : Int → Prop} {A v : Int} (h : IsA g A A v) (A0 : 0 ≤ A) (A1 : A < 1024) (gA : g A) (gs : ∀ s, g s → ∀ k : Nat, k < 32 → bt_ s (k : Int) = 1 → bt_ A (k : Int) = 1) : IsB g (A + 1) v := by
  rcases h with ⟨e, h⟩ | ⟨v0, v1, h⟩
  · rw [e]; exact IsB_new h A0 gA (fun c => absurd c (by decide))
  · have gv : g v := by
      rcases h with ⟨e, -⟩ | ⟨-, -, h, -⟩
      · omega
      · exact h
    have := pc_lt v0 (by omega) A0 A1 (gs v gv) (by omega)
    exact IsB_worse h v0 (by omega)
theorem c8_ones {G : Gm} {S : List Sh} {μ : Mem} {Q : Int → Mem → Prop} {x : Int} (hx : R32 x) (h : Q (pc x 10) μ) : Ci G mX8_ones [(0, x)] S μ Q := by
  refine eX8_ones (fun Φ hΦ hR => bX8_ones_0 hΦ hR ?_)
  have loop : ∀ (m i : Nat), i + m = 10 → Ex G Φ 3 4 [some (0, x), some (0, pc x i), some (0, (i : Int))] [] S μ 0 0 := by
    intro m
    induction m with
    | zero =>
      intro i hi
      obtain rfl : i = 10 := by omega
      exact bX8_ones_4 hΦ hR ⟨⟨by decide, by decide⟩, fun _ => h, fun c => absurd (by decide) c⟩
    | succ m ih =>
      intro i hi
      have nx := ih (i + 1) (by omega)
      rw [show (((i + 1 : Nat)) : Int) = (i : Int) + 1 by omega] at nx
      exact bX8_ones_4 hΦ hR ⟨⟨by omega, by omega⟩, fun c => absurd c (by omega), fun _ => ⟨hx, by omega, by omega, nx⟩⟩
  exact loop 10 0 (by decide)
theorem c7_howManyOrWhich {G : Gm} {S : List Sh} {μ : Mem} {Q : Int → Mem → Prop} {x w : Int} (hx : x = -1 ∨ (0 ≤ x ∧ x < 1024)) (hw : R32 w) (k : Q (if x = -1 then -1 else if w = 0 then pc x 10 else x) μ) : Ci G mX7_howManyOrWhich [(0, x), (0, w)] S μ Q := by
  refine eX7_howManyOrWhich (fun Φ hΦ hR => bX7_howManyOrWhich_0 hΦ hR ⟨⟨by omega, by omega⟩, fun c => ⟨hw, fun d => ?_, fun d => c_bitCount (by omega) (by omega) ?_⟩, fun c => ?_⟩)
  · rw [if_neg c, if_neg d] at k; exact k
  · rw [if_neg c, if_pos d] at k; rw [pc_31 (by omega) (by omega)]; exact k
  · rw [if_pos c] at k; exact k
/-! WHAT HOLDS looks at no cell of these -/
def FT (μ : Mem) (k i : Int) : Prop := FM 25 k i ∨ FR' k i ∨ (115 ≤ k ∧ k ≤ 117 ∧ i = 20) ∨ ((k = wW μ + 4 ∨ k = wW μ + 5 ∨ k = wW μ + 6) ∧ nL μ ≤ i) ∨ k = 102 ∨ k = 103 ∨ k = 124 ∨ k = 125 ∨ k = 129
theorem FT_inv {μ κ : Mem} (h : Inv μ) (of : Off (FT μ) μ κ) : Inv κ := by
  obtain ⟨wf, iw, ir, inn, idd, ii, il, im⟩ := h
  have hW : wW μ = 3 ∨ wW μ = 12 := iw.1
  have hnW := iw.2.2.1
  have hnL := iw.2.2.2.1
  have sw : Sm (dW (wW μ) (nL μ)) μ κ := fun k i d => of k i (by unfold dW at d; unfold FT FM FR' FR; omega)
  have e := SW_of sw
  exact ⟨wf_sm wf (fun k i d => of k i (by unfold dF at d; unfold FT FM FR' FR; omega)), IW_sm iw sw, IR_sm ir (fun k i d => of k i (by unfold dR at d; unfold FT FM FR' FR; omega)), IN_sm inn hnW.2.2 e (fun k i d => of k i (by unfold dN at d; unfold FT FM FR' FR; omega)), ID_sm idd hnW.2.2 e (fun k i d => of k i (by unfold dD at d; unfold FT FM FR' FR; omega)), II_sm ii hnW.2.2 e (fun k i d => of k i (by unfold dI at d; unfold FT FM FR' FR; omega)), IL_sm il e (fun k i d => of k i (by unfold dL at d; unfold FT FM FR' FR; omega)), IM_sm im e (fun k i d => of k i (by unfold dM at d; unfold FT FM FR' FR; omega))⟩
theorem Off.mono {F F' : Int → Int → Prop} {μ κ : Mem} (h : Off F μ κ) (hs : ∀ k i, F k i → F' k i) : Off F' μ κ := fun k i q => h k i (fun c => q (hs k i c))
theorem Off.t25 {μ κ : Mem} (h : Off (FM 25) μ κ) : Off (FT μ) μ κ := h.mono (fun _ _ c => Or.inl c)
theorem Off.tR {μ κ : Mem} (h : Off FR' μ κ) : Off (FT μ) μ κ := h.mono (fun _ _ c => Or.inr (Or.inl c))
