/-! PAIRS, one after the other, up to the i-th that is so -/
def hl (p : Int → Int → Bool) (i : Int) : List (Int × Int) → Int → Int
  | [], f => if i = -1 then f else -1
  | q :: t, f => if p q.1 q.2 = true then (if f = i then 100 * q.1 + q.2 else hl p i t (f + 1)) else hl p i t f
def pin (a : Int) : Int → Nat → List (Int × Int)
  | _, 0 => []
  | b, k + 1 => (a, b) :: pin a (b + 1) k
def pou : Int → Nat → List (Int × Int)
  | _, 0 => []
  | a, k + 1 => pin a (a + 1) k ++ pou (a + 1) k
theorem hl_r (p : Int → Int → Bool) (i : Int) (n : Int) : ∀ (L : List (Int × Int)) (f : Int), (∀ q ∈ L, 0 ≤ q.1 ∧ q.1 < 8 ∧ 0 ≤ q.2 ∧ q.2 < 8) → 0 ≤ f → f + L.length ≤ n → n ≤ 1000000 → -1 ≤ hl p i L f ∧ hl p i L f ≤ 1000000
  | [], f, hL, h0, h1, h2 => by
    show -1 ≤ (if i = -1 then f else -1) ∧ (if i = -1 then f else -1) ≤ 1000000
    simp only [List.length_nil] at h1
    split <;> omega
  | q :: t, f, hL, h0, h1, h2 => by
    have hq := hL q List.mem_cons_self
    simp only [List.length_cons] at h1
    have t1 := hl_r p i n t (f + 1) (fun x hx => hL x (List.mem_cons_of_mem _ hx)) (by omega) (by omega) h2
    have t2 := hl_r p i n t f (fun x hx => hL x (List.mem_cons_of_mem _ hx)) (by omega) (by omega) h2
    show -1 ≤ (if p q.1 q.2 = true then (if f = i then 100 * q.1 + q.2 else hl p i t (f + 1)) else hl p i t f) ∧ (if p q.1 q.2 = true then (if f = i then 100 * q.1 + q.2 else hl p i t (f + 1)) else hl p i t f) ≤ 1000000
    split
    · split
      · omega
      · exact t1
    · exact t2
theorem pin_m {a : Int} : ∀ (k : Nat) (b : Int), (pin a b k).length = k ∧ ∀ q ∈ pin a b k, q.1 = a ∧ b ≤ q.2 ∧ q.2 < b + k
  | 0, b => ⟨rfl, fun q hq => by cases hq⟩
  | k + 1, b => by
    obtain ⟨h1, h2⟩ := pin_m k (b + 1) (a := a)
    refine ⟨by show (pin a (b + 1) k).length + 1 = _; rw [h1], fun q hq => ?_⟩
    rcases List.mem_cons.mp hq with e | e
    · rw [e]; exact ⟨rfl, Int.le_refl _, by show b < _; omega⟩
    · have := h2 q e; omega
theorem pou_m : ∀ (k : Nat) (a : Int), (pou a k).length ≤ k * 8 + k * k ∧ ∀ q ∈ pou a k, a ≤ q.1 ∧ q.1 < a + k ∧ a ≤ q.2 ∧ q.2 < a + k
  | 0, a => ⟨Nat.zero_le _, fun q hq => by cases hq⟩
  | k + 1, a => by
    obtain ⟨h1, h2⟩ := pou_m k (a + 1)
    obtain ⟨h3, h4⟩ := pin_m k (a + 1) (a := a)
    refine ⟨?_, fun q hq => ?_⟩
    · show (pin a (a + 1) k ++ pou (a + 1) k).length ≤ _
      rw [List.length_append, h3]
      have : (k + 1) * (k + 1) = k * k + 2 * k + 1 := by rw [Nat.add_mul, Nat.mul_add]; omega
      omega
    · rcases List.mem_append.mp hq with e | e
      · have := h4 q e; omega
      · have := h2 q e; omega
/-- a run over pairs, told by what its two loop heads ask -/
theorem pairs_run {E : Int → Int → Mem → Prop} {F : Int → Int → Int → Mem → Prop} {Fin : Int → Mem → Prop} {I : Mem → Prop} {p : Int → Int → Bool} {i n : Int}
    (h1 : ∀ f κ, I κ → Fin (if i = -1 then f else -1) κ → E f n κ) (h2 : ∀ f a κ, I κ → 0 ≤ a → a < n → F f a (a + 1) κ → E f a κ)
    (h3 : ∀ f a κ, I κ → 0 ≤ a → a < n → E f (a + 1) κ → F f a n κ)
    (h4 : ∀ f a b κ, I κ → 0 ≤ f → f ≤ 100000 → 0 ≤ a → a < b → b < n → (p a b = true → ∀ κ', I κ' → (f = i → Fin (100 * a + b) κ') ∧ (f ≠ i → F (f + 1) a (b + 1) κ')) → (p a b = false → ∀ κ', I κ' → F f a (b + 1) κ') → F f a b κ) :
    ∀ (k : Nat) (a f : Int) (κ : Mem), 0 ≤ a → a + k = n → 0 ≤ f → f + (pou a k).length ≤ 1000 → I κ → (∀ κ', I κ' → Fin (hl p i (pou a k) f) κ') → E f a κ := by
  intro k
  induction k with
  | zero =>
    intro a f κ a0 hk f0 fl hI K
    obtain rfl : a = n := by omega
    exact h1 f κ hI (K κ hI)
  | succ k ih =>
    intro a f κ a0 hk f0 fl hI K
    refine h2 f a κ hI a0 (by omega) ?_
    have inner : ∀ (j : Nat) (b f : Int) (κ : Mem), a < b → b + j = n → 0 ≤ f → f + (pin a b j ++ pou (a + 1) k).length ≤ 1000 → I κ → (∀ κ', I κ' → Fin (hl p i (pin a b j ++ pou (a + 1) k) f) κ') → F f a b κ := by
      intro j
      induction j with
      | zero =>
        intro b f κ b0 hj f0 fl hI K
        obtain rfl : b = n := by omega
        exact h3 f a κ hI a0 (by omega) (ih (a + 1) f κ (by omega) (by omega) f0 fl hI K)
      | succ j ihj =>
        intro b f κ b0 hj f0 fl hI K
        have fl' : f + (((pin a (b + 1) j ++ pou (a + 1) k).length + 1 : Nat) : Int) ≤ 1000 := fl
        refine h4 f a b κ hI f0 (by omega) a0 b0 (by omega) (fun hp κ' hI' => ⟨fun e => ?_, fun e => ?_⟩) (fun hp κ' hI' => ?_)
        · have := K κ' hI'
          have e2 : hl p i (pin a b (j + 1) ++ pou (a + 1) k) f = 100 * a + b := by
            show (if p a b = true then (if f = i then 100 * a + b else _) else _) = _
            rw [if_pos hp, if_pos e]
          rw [e2] at this; exact this
        · refine ihj (b + 1) (f + 1) κ' (by omega) (by omega) (by omega) (by omega) hI' (fun κ2 hI2 => ?_)
          have := K κ2 hI2
          have e2 : hl p i (pin a b (j + 1) ++ pou (a + 1) k) f = hl p i (pin a (b + 1) j ++ pou (a + 1) k) (f + 1) := by
            show (if p a b = true then (if f = i then 100 * a + b else hl p i (pin a (b + 1) j ++ pou (a + 1) k) (f + 1)) else _) = _
            rw [if_pos hp, if_neg e]
          rw [e2] at this; exact this
        · refine ihj (b + 1) f κ' (by omega) (by omega) (by omega) (by omega) hI' (fun κ2 hI2 => ?_)
          have := K κ2 hI2
          have e2 : hl p i (pin a b (j + 1) ++ pou (a + 1) k) f = hl p i (pin a (b + 1) j ++ pou (a + 1) k) f := by
            show (if p a b = true then _ else hl p i (pin a (b + 1) j ++ pou (a + 1) k) f) = _
            rw [if_neg (by rw [hp]; decide)]
          rw [e2] at this; exact this
    exact inner k (a + 1) f κ (by omega) (by omega) f0 fl hI K
noncomputable def hpb (μ : Mem) (w kd r a b : Int) : Bool := @decide (¬ (μ 22 a ≠ 0 ↔ μ 22 b ≠ 0) ∧ Hw μ w kd r a b) (Classical.propDecidable _)
theorem hpb_t {μ : Mem} {w kd r a b : Int} : hpb μ w kd r a b = true ↔ ¬ (μ 22 a ≠ 0 ↔ μ 22 b ≠ 0) ∧ Hw μ w kd r a b := by
  unfold hpb
  exact @decide_eq_true_iff _ (Classical.propDecidable _)
theorem hpb_eq {μ κ : Mem} (h : Inv μ) (of : Off (FT μ) μ κ) {w kd r : Int} : hpb κ w kd r = hpb μ w kd r := by
  funext a b
  have hW := h.W
  have e : ∀ x, κ 22 x = μ 22 x := fun x => of _ _ (by unfold FT FM FR' FR; omega)
  rw [Bool.eq_iff_iff, hpb_t, hpb_t, e, e, Hw_eq h of]
theorem st_hidden {G : Gm} {μ : Mem} {a0 a1 a2 a3 : Int} (h : Inv μ) (ha0 : R32 a0) (ha1 : R32 a1) (ha2 : R32 a2) (ha3 : R32 a3) : Both G mX7_hidden mX8_hidden [(0, a0), (0, a1), (0, a2), (0, a3)] μ := by
  have hW := h.W
  have hn := h.nw
  have un : ¬ (0 ≤ a0 ∧ a0 < nW μ) → Ci G mX8_hidden [(2, 110), (0, a0), (0, a1), (0, a2), (0, a3)] SHl μ (fun r' μ2 => -1000000001 = r' ∧ R32 (-1000000001) ∧ Inv μ2) := fun c =>
    eX8_hidden (fun Φ hΦ hR => bX8_hidden_0 hΦ hR ⟨so_110, c8_isW h ha0 (fun x0 x1 => absurd ⟨x0, x1⟩ c) (fun _ => no_ ⟨rfl, by decide, h⟩)⟩)
  have ou : 0 ≤ a0 → a0 < nW μ → ¬ (0 ≤ a1 ∧ a1 ≤ 2 ∧ -30 ≤ a2 ∧ a2 ≤ 30 ∧ a2 ≠ 0) → Ci G mX8_hidden [(2, 110), (0, a0), (0, a1), (0, a2), (0, a3)] SHl μ (fun r' μ2 => -1000000002 = r' ∧ R32 (-1000000002) ∧ Inv μ2) := fun x0 x1 c =>
    eX8_hidden (fun Φ hΦ hR => bX8_hidden_0 hΦ hR ⟨so_110, c8_isW h ha0 (fun _ _ => yes_ ⟨ha1, c_m_in (r64 ha1) ⟨by decide, by decide⟩ ⟨by decide, by decide⟩ (fun c1 c2 => yes'_ ⟨ha2, c_m_in (r64 ha2) ⟨by decide, by decide⟩ ⟨by decide, by decide⟩ (fun c3 c4 => yes'_ ⟨fun c5 => absurd ⟨c1, c2, c3, c4, c5⟩ c, fun _ => ⟨rfl, by decide, h⟩⟩) (fun _ => no'_ ⟨rfl, by decide, h⟩)⟩) (fun _ => no'_ ⟨rfl, by decide, h⟩)⟩) (fun d => absurd ⟨x0, x1⟩ d)⟩)
  refine eX7_hidden (fun Φ hΦ hR => bX7_hidden_0 hΦ hR ⟨so_0, c7_hasW h ha0 (fun x0 x1 => yes_ ⟨ha1, fun c => ou x0 x1 (by omega), fun c1 => ⟨fun c => ou x0 x1 (by omega), fun c2 => ⟨ha2, fun c => ou x0 x1 (by omega), fun c3 => ⟨fun c => ou x0 x1 (by omega), fun c4 => ⟨fun c5 => ?_, fun c => ou x0 x1 (by omega)⟩⟩⟩⟩⟩) (fun c => no_ (un c))⟩)
  have rb := h.r22 x0 x1
  have p8 := pw10 (n := (nW μ).toNat) (by omega)
  have tr := h.2.2.2.2.2.2.2.2.1
  have tb := h.2.2.2.2.2.2.2.2.2
  have mr : R32 (μ 21 4) := ⟨by omega, by omega⟩
  have has : ∀ {ν : Mem} {v : Int} {K : Int → Mem → Prop}, 0 ≤ v → v < nW μ → K (if μ 22 v ≠ 0 then 1 else 0) ν → Ci G mX8_has [(0, μ 21 4), (0, v)] SHl ν K := fun {ν v K} v0 v1 k => by
    refine c_m_has mr v0 (by omega) ?_
    have := tb v v0 v1
    by_cases c : μ 22 v ≠ 0
    · rw [if_pos c] at k; rw [this.mpr c]; exact k
    · rw [if_neg c] at k
      rcases bt_01 (x := μ 21 4) (k := v) with e | e
      · rw [e]; exact k
      · exact absurd (this.mp e) c
  have ref : ∀ {K : Int → Mem → Prop} {κ : Mem}, Off (FT μ) μ κ → (∀ κ', Off (FT μ) μ κ' → Ci G mX8_has [(0, μ 21 4), (0, a0)] SHl κ' (fun r12 μ12 => R32 r12 ∧ ((r12 = 0 → ∀ Φ, St G Φ cX8_hidden RX8 9 6 152 0 0 → Rt G Φ (Pi SHl K) 0 0 (some .int) → Ex G Φ 9 73 [some (2, 110), some (0, a0), some (0, a1), some (0, a2), some (0, a3), some (0, μ 21 4), some (0, 0), some (0, 0), none] [] SHl μ12 0 0) ∧ (¬ (r12 = 0) → K (-1000000003) μ12)))) → Ci G mX8_hidden [(2, 110), (0, a0), (0, a1), (0, a2), (0, a3)] SHl κ K := fun {K κ} of hk => by
    obtain ⟨hi, en, el⟩ := off8 h of
    have e21 : κ 21 4 = μ 21 4 := of 21 4 (by unfold FT FM FR' FR; omega)
    refine eX8_hidden (fun Φ hΦ hR => bX8_hidden_0 hΦ hR ⟨so_110, c8_isW hi ha0 (fun _ _ => yes_ ⟨ha1, c_m_in (r64 ha1) ⟨by decide, by decide⟩ ⟨by decide, by decide⟩ (fun _ _ => yes'_ ⟨ha2, c_m_in (r64 ha2) ⟨by decide, by decide⟩ ⟨by decide, by decide⟩ (fun _ _ => yes'_ ⟨fun _ => c8_rates hi (fun κ' rn => c8_turning hi rn ?_), fun e => absurd e c5⟩) (fun d => absurd ⟨by omega, by omega⟩ d)⟩) (fun d => absurd ⟨by omega, by omega⟩ d)⟩) (fun d => absurd ⟨x0, by rw [en]; exact x1⟩ d)⟩)
    rw [e21]
    refine Ci_mono (hk κ' (of.tr (rn.1.mono (fun _ _ c => Or.inr (Or.inl c))))) (fun r μ' q => ⟨q.1, fun e => q.2.1 e Φ hΦ hR, q.2.2⟩)
  rw [wf_0_3 h.1]
  refine ⟨so_21, c3_turns' h x0 x1 ?_⟩
  by_cases ct : μ 22 a0 ≠ 0
  · rw [if_pos ct]
    exact ⟨R32_1, fun e => absurd e (by decide), fun _ => ref Off.rf (fun κ' o' => has x0 x1 (by rw [if_pos ct]; exact ⟨R32_1, fun e => absurd e (by decide), fun _ => ⟨rfl, by decide, FT_inv h o'⟩⟩))⟩
  rw [if_neg ct]
  have kd : 0 ≤ a1 ∧ a1 ≤ 2 := ⟨by omega, by omega⟩
  have rr' : -30 ≤ a2 ∧ a2 ≤ 30 ∧ a2 ≠ 0 := ⟨by omega, by omega, c5⟩
  have pl := pou_m (nW μ).toNat 0
  have p88 : (nW μ).toNat * 8 + (nW μ).toNat * (nW μ).toNat ≤ 128 := by
    have : (nW μ).toNat * (nW μ).toNat ≤ 8 * 8 := Nat.mul_le_mul (by omega) (by omega)
    omega
  have lr := hl_r (hpb μ a0 a1 a2) a3 1000 (pou 0 (nW μ).toNat) 0 (fun q hq => by have := pl.2 q hq; omega) (by decide) (by omega) (by decide)
  refine ⟨R32_0, fun _ => ?_, fun e => absurd rfl e⟩
  have fin : ∀ κ, Off (FT μ) μ κ → Ci G mX8_hidden [(2, 110), (0, a0), (0, a1), (0, a2), (0, a3)] SHl κ (fun r' μ2 => hl (hpb μ a0 a1 a2) a3 (pou 0 (nW μ).toNat) 0 = r' ∧ R32 (hl (hpb μ a0 a1 a2) a3 (pou 0 (nW μ).toNat) 0) ∧ Inv μ2) := fun κ of => ref of (fun κ1 o1 => has x0 x1 (by
    rw [if_neg ct]
    refine ⟨R32_0, fun _ Φ hΦ hR => ?_, fun e => absurd rfl e⟩
    refine pairs_run (n := nW μ) (E := fun f a κ => Ex G Φ 9 73 [some (2, 110), some (0, a0), some (0, a1), some (0, a2), some (0, a3), some (0, μ 21 4), some (0, f), some (0, a), none] [] SHl κ 0 0) (F := fun f a b κ => Ex G Φ 9 88 [some (2, 110), some (0, a0), some (0, a1), some (0, a2), some (0, a3), some (0, μ 21 4), some (0, f), some (0, a), some (0, b)] [] SHl κ 0 0) (Fin := fun r' μ2 => hl (hpb μ a0 a1 a2) a3 (pou 0 (nW μ).toNat) 0 = r' ∧ R32 (hl (hpb μ a0 a1 a2) a3 (pou 0 (nW μ).toNat) 0) ∧ Inv μ2) (I := Off (FT μ) μ) (p := hpb μ a0 a1 a2) (i := a3) ?_ ?_ ?_ ?_ (nW μ).toNat 0 0 κ1 (by decide) (by omega) (by decide) (by omega) o1 (fun κ' o' => ⟨rfl, ⟨by omega, by omega⟩, FT_inv h o'⟩)
    · intro f κ' o' K
      have e2 : κ' 110 2 = nW μ := (FT_inv h o').nw.1.symm.trans (off8 h o').2.1
      refine bX8_hidden_73 hΦ hR ⟨so_110, ⟨by omega, by omega⟩, ?_⟩
      rw [e2]
      refine ⟨⟨by omega, by omega⟩, fun _ => ⟨ha3, fun c => ?_, fun c => ?_⟩, fun c => absurd (by omega) c⟩
      · rw [if_neg c] at K; exact K
      · rw [if_pos c] at K; exact K
    · intro f a κ' o' z0 z1 K
      have e2 : κ' 110 2 = nW μ := (FT_inv h o').nw.1.symm.trans (off8 h o').2.1
      refine bX8_hidden_73 hΦ hR ⟨so_110, ⟨by omega, by omega⟩, ?_⟩
      rw [e2]
      exact ⟨⟨by omega, by omega⟩, fun c => absurd c (by omega), fun _ => K⟩
    · intro f a κ' o' z0 z1 K
      have e2 : κ' 110 2 = nW μ := (FT_inv h o').nw.1.symm.trans (off8 h o').2.1
      refine bX8_hidden_88 hΦ hR ⟨so_110, ⟨by omega, by omega⟩, ?_⟩
      rw [e2]
      exact ⟨⟨by omega, by omega⟩, fun _ => K, fun c => absurd (by omega) c⟩
    · intro f a b κ' o' f0 f1 z0 z1 z2 Ky Kn
      have e2 : κ' 110 2 = nW μ := (FT_inv h o').nw.1.symm.trans (off8 h o').2.1
      refine bX8_hidden_88 hΦ hR ⟨so_110, ⟨by omega, by omega⟩, ?_⟩
      rw [e2]
      refine ⟨⟨by omega, by omega⟩, fun c => absurd c (by omega), fun _ => has z0 (by omega) (has (by omega) z2 ?_)⟩
      have hq := @hpb_t μ a0 a1 a2 a b
      have gv : ¬ (μ 22 a ≠ 0 ↔ μ 22 b ≠ 0) → Ci G mX8_gives [(2, 110), (0, a), (0, b), (0, a1), (0, a0), (0, a2)] SHl κ' (fun r8 μ8 => R32 r8 ∧ ((r8 = 0 → Ex G Φ 9 88 [some (2, 110), some (0, a0), some (0, a1), some (0, a2), some (0, a3), some (0, μ 21 4), some (0, f), some (0, a), some (0, (b + 1))] [] SHl μ8 0 0) ∧ (¬ (r8 = 0) → R32 f ∧ (R32 a3 ∧ ((f ≠ a3 → Ex G Φ 9 88 [some (2, 110), some (0, a0), some (0, a1), some (0, a2), some (0, a3), some (0, μ 21 4), some (0, (f + 1)), some (0, a), some (0, (b + 1))] [] SHl μ8 0 0) ∧ (f = a3 → hl (hpb μ a0 a1 a2) a3 (pou 0 (nW μ).toNat) 0 = 100 * a + b ∧ R32 (hl (hpb μ a0 a1 a2) a3 (pou 0 (nW μ).toNat) 0) ∧ Inv μ8)))))) := fun cn =>
        c8_gives h o' x0 x1 kd rr' z0 z1 z2 (fun κ2 o2 hw => ⟨R32_1, fun e => absurd e (by decide), fun _ => ⟨⟨by omega, by omega⟩, ha3, fun e => (Ky (hq.mpr ⟨cn, hw⟩) κ2 o2).2 e, fun e => (Ky (hq.mpr ⟨cn, hw⟩) κ2 o2).1 e⟩⟩) (fun κ2 o2 hw => ⟨R32_0, fun _ => Kn (by cases e : hpb μ a0 a1 a2 a b; rfl; exact absurd (hq.mp e).2 hw) κ2 o2, fun e => absurd rfl e⟩)
      by_cases ca : μ 22 a ≠ 0
      · rw [if_pos ca]
        by_cases cb : μ 22 b ≠ 0
        · rw [if_pos cb]
          exact ⟨R32_1, R32_1, fun _ => Kn (by cases e : hpb μ a0 a1 a2 a b; rfl; exact absurd ⟨fun _ => cb, fun _ => ca⟩ (hq.mp e).1) κ' o', fun e => absurd rfl e⟩
        · rw [if_neg cb]
          exact ⟨R32_1, R32_0, fun e => absurd e (by decide), fun _ => gv (fun q => cb (q.mp ca))⟩
      · rw [if_neg ca]
        by_cases cb : μ 22 b ≠ 0
        · rw [if_pos cb]
          exact ⟨R32_0, R32_1, fun e => absurd e (by decide), fun _ => gv (fun q => ca (q.mpr cb))⟩
        · rw [if_neg cb]
          exact ⟨R32_0, R32_0, fun _ => Kn (by cases e : hpb μ a0 a1 a2 a b; rfl; exact absurd ⟨fun q => absurd q ca, fun q => absurd q cb⟩ (hq.mp e).1) κ' o', fun e => absurd rfl e⟩))
  have e22 : ∀ κ', Off (FT μ) μ κ' → ∀ v, κ' 22 v = μ 22 v := fun κ' o' v => o' _ _ (by unfold FT FM FR' FR; omega)
  refine pairs_run (n := nW μ) (E := fun f a κ => Ex G Φ 8 59 [some (2, 0), some (0, a0), some (0, a1), some (0, a2), some (0, a3), some (0, f), some (0, a), none] [] SHl κ 0 0) (F := fun f a b κ => Ex G Φ 8 77 [some (2, 0), some (0, a0), some (0, a1), some (0, a2), some (0, a3), some (0, f), some (0, a), some (0, b)] [] SHl κ 0 0) (Fin := fun r μ1 => Ci G mX8_hidden [(2, 110), (0, a0), (0, a1), (0, a2), (0, a3)] SHl μ1 (fun r' μ2 => r = r' ∧ R32 r ∧ Inv μ2)) (I := Off (FT μ) μ) (p := hpb μ a0 a1 a2) (i := a3) ?_ ?_ ?_ ?_ (nW μ).toNat 0 0 μ (by decide) (by omega) (by decide) (by omega) Off.rf fin
  · intro f κ' o' K
    obtain ⟨hi, en, el⟩ := off8 h o'
    refine bX7_hidden_59 hΦ hR ⟨so_0, so_W hi.2.1.1, ⟨by omega, by omega⟩, ⟨?_, ?_⟩, fun _ => ⟨ha3, fun c => ?_, fun c => ?_⟩, fun c => absurd ?_ c⟩
    · show _ ≤ nW κ'; omega
    · show nW κ' ≤ _; omega
    · rw [if_neg c] at K; exact K
    · rw [if_pos c] at K; exact K
    · show nW κ' ≤ nW μ; omega
  · intro f a κ' o' z0 z1 K
    obtain ⟨hi, en, el⟩ := off8 h o'
    refine bX7_hidden_59 hΦ hR ⟨so_0, so_W hi.2.1.1, ⟨by omega, by omega⟩, ⟨?_, ?_⟩, fun c => absurd (show nW κ' ≤ a from c) (by omega), fun _ => K⟩
    · show _ ≤ nW κ'; omega
    · show nW κ' ≤ _; omega
  · intro f a κ' o' z0 z1 K
    obtain ⟨hi, en, el⟩ := off8 h o'
    refine bX7_hidden_77 hΦ hR ⟨so_0, so_W hi.2.1.1, ⟨by omega, by omega⟩, ⟨?_, ?_⟩, fun _ => K, fun c => absurd (show nW κ' ≤ nW μ by omega) c⟩
    · show _ ≤ nW κ'; omega
    · show nW κ' ≤ _; omega
  · intro f a b κ' o' f0 f1 z0 z1 z2 Ky Kn
    obtain ⟨hi, en, el⟩ := off8 h o'
    have hq := @hpb_t μ a0 a1 a2 a b
    have wk := hi.1
    refine bX7_hidden_77 hΦ hR ⟨so_0, so_W hi.2.1.1, ⟨by omega, by omega⟩, ⟨?_, ?_⟩, fun c => absurd (show nW κ' ≤ b from c) (by omega), fun _ => ?_⟩
    · show _ ≤ nW κ'; omega
    · show nW κ' ≤ _; omega
    rw [wf_0_3 wk]
    refine ⟨so_21, c3_turns' hi z0 (by omega) ?_⟩
    rw [wf_0_3 wk]
    refine ⟨so_21, c3_turns' hi (by omega) (by omega) ?_⟩
    rw [e22 κ' o', e22 κ' o']
    have gv : ¬ (μ 22 a ≠ 0 ↔ μ 22 b ≠ 0) → Ci G mX7_wouldTurn [(2, 0), (0, a0), (0, a2), (0, a1), (0, a), (0, b)] SHl κ' (fun r11 μ11 => R32 r11 ∧ ((r11 ≠ 0 → R32 f ∧ (R32 a3 ∧ ((f ≠ a3 → Ex G Φ 8 77 [some (2, 0), some (0, a0), some (0, a1), some (0, a2), some (0, a3), some (0, (f + 1)), some (0, a), some (0, (b + 1))] [] SHl μ11 0 0) ∧ (f = a3 → Ci G mX8_hidden [(2, 110), (0, a0), (0, a1), (0, a2), (0, a3)] SHl μ11 (fun r' μ2 => 100 * a + b = r' ∧ R32 (100 * a + b) ∧ Inv μ2))))) ∧ (r11 = 0 → Ex G Φ 8 77 [some (2, 0), some (0, a0), some (0, a1), some (0, a2), some (0, a3), some (0, f), some (0, a), some (0, (b + 1))] [] SHl μ11 0 0))) := fun cn =>
      c7_would h o' x0 x1 kd rr' z0 z1 z2 (fun κ2 o2 hw => ⟨R32_1, fun _ => ⟨⟨by omega, by omega⟩, ha3, fun e => (Ky (hq.mpr ⟨cn, hw⟩) κ2 o2).2 e, fun e => (Ky (hq.mpr ⟨cn, hw⟩) κ2 o2).1 e⟩, fun e => absurd e (by decide)⟩) (fun κ2 o2 hw => ⟨R32_0, fun e => absurd rfl e, fun _ => Kn (by cases e : hpb μ a0 a1 a2 a b; rfl; exact absurd (hq.mp e).2 hw) κ2 o2⟩)
    by_cases ca : μ 22 a ≠ 0
    · rw [if_pos ca]
      by_cases cb : μ 22 b ≠ 0
      · rw [if_pos cb]
        exact ⟨R32_1, R32_1, fun _ => Kn (by cases e : hpb μ a0 a1 a2 a b; rfl; exact absurd ⟨fun _ => cb, fun _ => ca⟩ (hq.mp e).1) κ' o', fun e => absurd rfl e⟩
      · rw [if_neg cb]
        exact ⟨R32_1, R32_0, fun e => absurd e (by decide), fun _ => gv (fun q => cb (q.mp ca))⟩
    · rw [if_neg ca]
      by_cases cb : μ 22 b ≠ 0
      · rw [if_pos cb]
        exact ⟨R32_0, R32_1, fun e => absurd e (by decide), fun _ => gv (fun q => ca (q.mpr cb))⟩
      · rw [if_neg cb]
        exact ⟨R32_0, R32_0, fun _ => Kn (by cases e : hpb μ a0 a1 a2 a b; rfl; exact absurd ⟨fun q => absurd q ca, fun q => absurd q cb⟩ (hq.mp e).1) κ' o', fun e => absurd rfl e⟩
