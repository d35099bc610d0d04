/-! NUMBERS and the smallest methods: what each answers -/
theorem tmod_pos {x y : Int} (hy : 0 < y) : Int.tmod x y = if 0 ≤ x ∨ x % y = 0 then x % y else x % y - y := by
  rw [Int.tmod_eq_emod]
  have e : (y ∣ x) ↔ x % y = 0 := Int.dvd_iff_emod_eq_zero
  by_cases h : 0 ≤ x ∨ x % y = 0
  · rw [if_pos h, if_pos (h.imp id e.mpr)]; omega
  · rw [if_neg h, if_neg (fun q => h (q.imp id e.mp))]; omega
theorem tdiv_pos {x y : Int} (hy : 0 < y) : Int.tdiv x y = if 0 ≤ x ∨ x % y = 0 then x / y else x / y + 1 := by
  rw [Int.tdiv_eq_ediv]
  have e : (y ∣ x) ↔ x % y = 0 := Int.dvd_iff_emod_eq_zero
  by_cases h : 0 ≤ x ∨ x % y = 0
  · rw [if_pos h, if_pos (h.imp id e.mpr)]; omega
  · rw [if_neg h, if_neg (fun q => h (q.imp id e.mp)), Int.sign_eq_one_of_pos hy]
theorem emod_rg {x y : Int} (hy : 0 < y) : 0 ≤ x % y ∧ x % y < y := ⟨Int.emod_nonneg x (by omega), Int.emod_lt_of_pos x hy⟩
theorem tmod_rg {x y : Int} (hy : 0 < y) : -y < Int.tmod x y ∧ Int.tmod x y < y := by
  have := emod_rg (x := x) hy
  rw [tmod_pos hy]
  split <;> omega
theorem ediv_rg {x y : Int} (hy : 0 < y) (hx : R64 x) : R64 (x / y) := by
  obtain ⟨h1, h2⟩ := hx
  constructor
  · rw [Int.le_ediv_iff_mul_le hy]
    have : (-9223372036854775808 : Int) * y ≤ -9223372036854775808 * 1 := Int.mul_le_mul_of_nonpos_left (by omega) (by omega)
    omega
  · have h3 := Int.mul_ediv_self_le (x := x) (k := y) (by omega)
    by_cases h : x / y ≤ 0
    · omega
    · have : 1 * (x / y) ≤ y * (x / y) := Int.mul_le_mul_of_nonneg_right (by omega) (by omega)
      omega
theorem xorl_r (x y : Int) : R64 (mxorl x y) := by
  unfold mxorl
  have h1 := Int64.minValue_le_toInt (Int64.ofInt x ^^^ Int64.ofInt y)
  have h2 := Int64.toInt_le (Int64.ofInt x ^^^ Int64.ofInt y)
  have e1 : Int64.minValue.toInt = -9223372036854775808 := by decide
  have e2 : Int64.maxValue.toInt = 9223372036854775807 := by decide
  rw [e1] at h1
  rw [e2] at h2
  exact ⟨h1, h2⟩
theorem xorl_neg {x y : Int} (hx : R64 x) (hy : R64 y) : mxorl x y < 0 ↔ ¬ (x < 0 ↔ y < 0) := by
  have k : ∀ z : Int64, z.toBitVec.msb = decide (z.toInt < 0) := fun z => BitVec.msb_eq_toInt
  have h := k (Int64.ofInt x ^^^ Int64.ofInt y)
  rw [Int64.toBitVec_xor, BitVec.msb_xor, k, k, i64_in hx, i64_in hy] at h
  unfold mxorl
  generalize (Int64.ofInt x ^^^ Int64.ofInt y).toInt = z at h ⊢
  by_cases a : x < 0 <;> by_cases b : y < 0 <;> by_cases c : z < 0 <;> simp [a, b, c] at h ⊢
theorem c_floorMod {G : Gm} {S : List Sh} {μ : Mem} {Q : Int → Mem → Prop} {x y : Int} (hx : R64 x) (hy0 : 0 < y) (hy : y ≤ 9223372036854775807) (h : Q (x % y) μ) : Cj G mJ9_floorMod_f86c9 [(1, x), (1, y)] S μ Q := by
  have hyr : R64 y := ⟨by omega, hy⟩
  have h1 := emod_rg (x := x) hy0
  have h2 := tmod_rg (x := x) hy0
  have h3 := xorl_neg hx hyr
  have h4 := tmod_pos (x := x) hy0
  refine eJ9_floorMod_f86c9 (fun Φ hΦ hR => bJ9_floorMod_f86c9_0 hΦ hR ⟨hx, hyr, by omega, xorl_r x y, fun c => ?_, fun c => ⟨⟨by omega, by omega⟩, fun c2 => ?_, fun c2 => ?_⟩⟩)
  · have hx0 : 0 ≤ x := by
      have : ¬ mxorl x y < 0 := by omega
      rw [h3] at this
      omega
    rw [h4, if_pos (Or.inl hx0)]; exact h
  · have hx0 : x < 0 := by
      have : mxorl x y < 0 := by omega
      rw [h3] at this
      omega
    rw [c2]
    have : x % y = 0 := by
      rw [h4] at c2
      split at c2
      · exact c2
      · omega
    rw [this] at h
    exact h
  · have hx0 : x < 0 := by
      have : mxorl x y < 0 := by omega
      rw [h3] at this
      omega
    rw [h4] at c2 ⊢
    split at c2
    · omega
    · rename_i hq
      rw [if_neg hq, show x % y - y + y = x % y by omega]
      exact h
theorem c_floorDiv {G : Gm} {S : List Sh} {μ : Mem} {Q : Int → Mem → Prop} {x y : Int} (hx : R64 x) (hy0 : 0 < y) (hy : y ≤ 9223372036854775807) (h : Q (x / y) μ) : Cj G mJ9_floorDiv_f86c9 [(1, x), (1, y)] S μ Q := by
  have hyr : R64 y := ⟨by omega, hy⟩
  have h1 := emod_rg (x := x) hy0
  have h3 := xorl_neg hx hyr
  have h4 := tdiv_pos (x := x) hy0
  have h5 := Int.mul_ediv_add_emod x y
  have key : Int.tdiv x y * y = if 0 ≤ x ∨ x % y = 0 then x - x % y else x - x % y + y := by
    rw [h4]
    split
    · rw [Int.mul_comm]; omega
    · rw [Int.add_mul, Int.mul_comm]; omega
  have hx2 := hx.2
  have hx1 := hx.1
  refine eJ9_floorDiv_f86c9 (fun Φ hΦ hR => bJ9_floorDiv_f86c9_0 hΦ hR ⟨hx, hyr, by omega, xorl_r x y, fun c => ?_, fun c => ?_⟩)
  · have hx0 : 0 ≤ x := by
      have : ¬ mxorl x y < 0 := by omega
      rw [h3] at this
      omega
    rw [h4, if_pos (Or.inl hx0)]; exact h
  · have hx0 : x < 0 := by
      have : mxorl x y < 0 := by omega
      rw [h3] at this
      omega
    refine ⟨?_, fun c2 => ?_, fun c2 => ?_⟩
    · rw [key]
      split <;> constructor <;> omega
    · rw [key] at c2
      split at c2
      · rename_i hq
        rw [h4, if_pos hq]; exact h
      · omega
    · rw [key] at c2
      split at c2
      · omega
      · rename_i hq
        rw [h4, if_neg hq, show x / y + 1 - 1 = x / y by omega]; exact h
theorem c_floorPart {G : Gm} {S : List Sh} {μ : Mem} {Q : Int → Mem → Prop} {x y : Int} (hx : R64 x) (hy0 : 0 < y) (hy : y ≤ 9223372036854775807) (h : Q (x / y) μ) : Cj G mX7_floorPart [(1, x), (1, y)] S μ Q :=
  eX7_floorPart (fun Φ hΦ hR => bX7_floorPart_0 hΦ hR ⟨⟨by omega, hy⟩, fun _ => c_floorDiv hx hy0 hy h, fun c => by omega⟩)
theorem c_leftOver {G : Gm} {S : List Sh} {μ : Mem} {Q : Int → Mem → Prop} {x y : Int} (hx : R64 x) (hy0 : 0 < y) (hy : y ≤ 9223372036854775807) (h : Q (x % y) μ) : Cj G mX7_leftOver [(1, x), (1, y)] S μ Q :=
  eX7_leftOver (fun Φ hΦ hR => bX7_leftOver_0 hΦ hR ⟨⟨by omega, hy⟩, fun _ => c_floorMod hx hy0 hy h, fun c => by omega⟩)
theorem c_m_down {G : Gm} {S : List Sh} {μ : Mem} {Q : Int → Mem → Prop} {x y : Int} (hx : R64 x) (hy0 : 0 < y) (hy : y ≤ 9223372036854775807) (h : Q (x / y) μ) : Cj G mX8_down [(1, x), (1, y)] S μ Q := by
  have h2 := tmod_rg (x := x) hy0
  have h1 := emod_rg (x := x) hy0
  have h4 := tdiv_pos (x := x) hy0
  have h5 := tmod_pos (x := x) hy0
  refine eX8_down (fun Φ hΦ hR => bX8_down_0 hΦ hR ⟨hx, ⟨by omega, hy⟩, by omega, ⟨by omega, by omega⟩, fun c => ?_, fun c => ?_⟩)
  · rw [h5] at c
    split at c
    · rename_i hq
      rw [h4, if_pos hq]; exact h
    · omega
  · rw [h5] at c
    split at c
    · omega
    · rename_i hq
      rw [h4, if_neg hq, show x / y + 1 - 1 = x / y by omega]; exact h
theorem c_m_over {G : Gm} {S : List Sh} {μ : Mem} {Q : Int → Mem → Prop} {x y : Int} (hx : R64 x) (hy0 : 0 < y) (hy : y ≤ 2147483647) (h : Q (x % y) μ) : Ci G mX8_over [(1, x), (0, y)] S μ Q := by
  have h2 := tmod_rg (x := x) hy0
  have h1 := emod_rg (x := x) hy0
  have h5 := tmod_pos (x := x) hy0
  refine eX8_over (fun Φ hΦ hR => bX8_over_0 hΦ hR ⟨⟨by omega, hy⟩, hx, ⟨by omega, by omega⟩, by omega, ⟨by omega, by omega⟩, fun c => ?_, fun c => ?_⟩)
  · rw [h5] at c ⊢
    split at c
    · rename_i hq
      rw [if_pos hq]; exact h
    · omega
  · rw [h5] at c ⊢
    split at c
    · omega
    · rename_i hq
      rw [if_neg hq, show x % y - y + y = x % y by omega]; exact h
theorem c_m_in {G : Gm} {S : List Sh} {μ : Mem} {Q : Int → Mem → Prop} {x a b : Int} (hx : R64 x) (ha : R64 a) (hb : R64 b) (h1 : a ≤ x → x ≤ b → Q 1 μ) (h0 : ¬ (a ≤ x ∧ x ≤ b) → Q 0 μ) : Ci G mX8_in [(1, x), (1, a), (1, b)] S μ Q :=
  eX8_in (fun Φ hΦ hR => bX8_in_0 hΦ hR ⟨hx, ha, fun c => h0 (by omega), fun c => ⟨hb, fun c2 => h0 (by omega), fun c2 => h1 (by omega) (by omega)⟩⟩)
theorem c_m_one {G : Gm} {S : List Sh} {μ : Mem} {Q : Int → Mem → Prop} {x : Int} (hx : R32 x) (h : Q (if x = 0 then 0 else 1) μ) : Ci G mX8_one [(0, x)] S μ Q :=
  eX8_one (fun Φ hΦ hR => bX8_one_0 hΦ hR ⟨hx, fun c => by rw [if_pos c] at h; exact h, fun c => by rw [if_neg c] at h; exact h⟩)
/-- bit k of a number -/
def bt_ (x k : Int) : Int := (x / 2 ^ k.toNat) % 2
theorem bt_rg (x k : Int) : 0 ≤ bt_ x k ∧ bt_ x k ≤ 1 := by unfold bt_; omega
theorem c_m_has {G : Gm} {S : List Sh} {μ : Mem} {Q : Int → Mem → Prop} {x k : Int} (hx : R32 x) (h0 : 0 ≤ k) (h1 : k ≤ 31) (h : Q (bt_ x k) μ) : Ci G mX8_has [(0, x), (0, k)] S μ Q := by
  have hb := bt_rg x k
  refine eX8_has (fun Φ hΦ hR => bX8_has_0 hΦ hR ⟨hx, h0, h1, ⟨by unfold bt_ at hb; omega, by unfold bt_ at hb; omega⟩, fun c => ?_, fun c => ?_⟩)
  · have : bt_ x k = 0 := by unfold bt_ at hb ⊢; omega
    rw [this] at h; exact h
  · have : bt_ x k = 1 := c
    rw [this] at h; exact h
theorem c_m_size {G : Gm} {S : List Sh} {μ : Mem} {Q : Int → Mem → Prop} {x : Int} (hx : R64 x) (h : Q (x.natAbs : Int) μ) : Cj G mX8_size [(1, x)] S μ Q :=
  eX8_size (fun Φ hΦ hR => bX8_size_0 hΦ hR ⟨hx, fun c => by rw [show (x.natAbs : Int) = x by omega] at h; exact h, fun c => by rw [show (x.natAbs : Int) = -x by omega] at h; exact h⟩)
theorem gcd_step {a b : Nat} : Nat.gcd b (a % b) = Nat.gcd a b := by rw [Nat.gcd_comm b, ← Nat.gcd_rec, Nat.gcd_comm]
theorem tmod_nat (a b : Nat) : Int.tmod (a : Int) (b : Int) = ((a % b : Nat) : Int) := rfl
theorem c_m_common {G : Gm} {S : List Sh} {μ : Mem} {Q : Int → Mem → Prop} {x y : Int} (hx : -9223372036854775808 < x ∧ x ≤ 9223372036854775807) (hy : -9223372036854775808 < y ∧ y ≤ 9223372036854775807) (h : Q (Int.gcd x y : Int) μ) : Cj G mX8_common [(1, x), (1, y)] S μ Q := by
  refine eX8_common (fun Φ hΦ hR => bX8_common_0 hΦ hR (c_m_size ⟨by omega, hx.2⟩ (c_m_size ⟨by omega, hy.2⟩ ?_)))
  have loop : ∀ (n a b : Nat), b ≤ n → (a : Int) ≤ 9223372036854775807 → (b : Int) ≤ 9223372036854775807 → Q (Nat.gcd a b : Int) μ → Ex G Φ 10 12 [some (1, x), none, some (1, y), none, some (1, (a : Int)), none, some (1, (b : Int)), none, none, none] [] S μ 0 0 := by
    intro n
    induction n with
    | zero =>
      intro a b hb ha hb2 hq
      obtain rfl : b = 0 := by omega
      exact bX8_common_12 hΦ hR ⟨⟨by omega, by omega⟩, fun _ => by rw [Nat.gcd_zero_right] at hq; exact hq, fun c => by omega⟩
    | succ n ih =>
      intro a b hb ha hb2 hq
      refine bX8_common_12 hΦ hR ⟨⟨by omega, by omega⟩, fun c => ?_, fun c => ⟨⟨by omega, by omega⟩, by omega, ?_⟩⟩
      · obtain rfl : b = 0 := by omega
        rw [Nat.gcd_zero_right] at hq; exact hq
      · have hlt : a % b < b := Nat.mod_lt _ (by omega)
        rw [tmod_nat]
        exact ih b (a % b) (by omega) hb2 (by omega) (by rw [gcd_step]; exact hq)
  exact loop y.natAbs x.natAbs y.natAbs (Nat.le_refl _) (by omega) (by omega) h
theorem gcd_half {a b : Nat} (hb : 0 < b) (hab : b ≤ a) : 2 * (a % b) ≤ a := by
  have h1 := Nat.mod_lt a hb
  have h2 := Nat.div_add_mod a b
  have h3 : 1 ≤ a / b := (Nat.le_div_iff_mul_le hb).mpr (by omega)
  have h4 : b * 1 ≤ b * (a / b) := Nat.mul_le_mul_left b h3
  omega
theorem c_common {G : Gm} {S : List Sh} {μ : Mem} {Q : Int → Mem → Prop} {x y : Int} (hx : -9223372036854775808 < x ∧ x ≤ 9223372036854775807) (hy : -281474976710656 < y ∧ y < 281474976710656) (hne : x ≠ 0 ∨ y ≠ 0) (h : Q (Int.gcd x y : Int) μ) : Cj G mX7_common [(1, x), (1, y)] S μ Q := by
  refine eX7_common (fun Φ hΦ hR => bX7_common_0 hΦ hR ⟨⟨by omega, hx.2⟩, ⟨by omega, by omega⟩, ?_⟩)
  have loop : ∀ (n : Nat) (i : Int) (a b : Nat), 0 ≤ i → i + 2 * n ≤ 98 → b < 2 ^ n → (a : Int) ≤ 9223372036854775807 → 1 ≤ Nat.gcd a b → Q (Nat.gcd a b : Int) μ → Ex G Φ 11 15 [some (1, x), none, some (1, y), none, some (1, (a : Int)), none, some (1, (b : Int)), none, some (0, i), none, none] [] S μ 0 0 := by
    intro n
    induction n with
    | zero =>
      intro i a b h0 hi hb ha hg hq
      obtain rfl : b = 0 := by simpa using hb
      rw [Nat.gcd_zero_right] at hq hg
      refine bX7_common_15 hΦ hR ⟨⟨by omega, by omega⟩, fun c => by omega, fun c => ⟨⟨by decide, by decide⟩, fun _ => ⟨⟨by omega, by omega⟩, ?_⟩, fun c => absurd rfl c⟩⟩
      by_cases h1 : 1 < (a : Int)
      · rw [if_pos h1]; exact hq
      · rw [if_neg h1, show (1 : Int) = a by omega]; exact hq
    | succ n ih =>
      intro i a b h0 hi hb ha hg hq
      have hp : 2 ^ n ≤ 2 ^ 49 := Nat.pow_le_pow_right (by decide) (by omega)
      have hb63 : b < 2 * 2 ^ 49 := by rw [Nat.pow_succ] at hb; omega
      have hbr : (b : Int) < 1125899906842624 := by have : (2 * 2 ^ 49 : Nat) = 1125899906842624 := by decide
                                                    omega
      have fin : ∀ (i : Int) (a : Nat), 0 ≤ i → i ≤ 98 → (a : Int) ≤ 9223372036854775807 → 1 ≤ a → Q (a : Int) μ → Ex G Φ 11 15 [some (1, x), none, some (1, y), none, some (1, (a : Int)), none, some (1, ((0 : Nat) : Int)), none, some (0, i), none, none] [] S μ 0 0 := by
        intro i a h0 hi ha hg hq
        refine bX7_common_15 hΦ hR ⟨⟨by omega, by omega⟩, fun c => by omega, fun c => ⟨⟨by decide, by decide⟩, fun _ => ⟨⟨by omega, by omega⟩, ?_⟩, fun c => absurd rfl c⟩⟩
        by_cases h1 : 1 < (a : Int)
        · rw [if_pos h1]; exact hq
        · rw [if_neg h1, show (1 : Int) = a by omega]; exact hq
      by_cases hb0 : b = 0
      · subst hb0
        rw [Nat.gcd_zero_right] at hq hg
        exact fin i a h0 (by omega) ha hg hq
      · have hlt : a % b < b := Nat.mod_lt _ (by omega)
        refine bX7_common_15 hΦ hR ⟨⟨by omega, by omega⟩, fun c => by omega, fun c => ⟨⟨by omega, by omega⟩, fun c => by omega, fun _ => ⟨⟨by omega, by omega⟩, by omega, ?_⟩⟩⟩
        rw [tmod_nat]
        by_cases hc0 : a % b = 0
        · rw [hc0]
          have hg2 : Nat.gcd a b = b := by rw [← gcd_step, hc0, Nat.gcd_zero_right]
          rw [hg2] at hq hg
          exact fin (i + 1) b (by omega) (by omega) (by omega) hg hq
        · have hlt2 : b % (a % b) < a % b := Nat.mod_lt _ (by omega)
          have hh := gcd_half (a := b) (b := a % b) (by omega) (by omega)
          refine bX7_common_15 hΦ hR ⟨⟨by omega, by omega⟩, fun c => by omega, fun c => ⟨⟨by omega, by omega⟩, fun c => by omega, fun _ => ⟨⟨by omega, by omega⟩, by omega, ?_⟩⟩⟩
          rw [tmod_nat]
          have e2 : Nat.gcd (a % b) (b % (a % b)) = Nat.gcd a b := by rw [gcd_step, gcd_step]
          exact ih (i + 1 + 1) (a % b) (b % (a % b)) (by omega) (by omega) (by rw [Nat.pow_succ] at hb; omega) (by omega) (by rw [e2]; exact hg) (by rw [e2]; exact hq)
  have h48 : y.natAbs < 2 ^ 48 := by have : (2 ^ 48 : Nat) = 281474976710656 := by decide
                                     omega
  have hg : 1 ≤ Nat.gcd x.natAbs y.natAbs := by
    rcases hne with h | h
    · exact Nat.gcd_pos_of_pos_left _ (by omega)
    · exact Nat.gcd_pos_of_pos_right _ (by omega)
  have := loop 48 0 x.natAbs y.natAbs (by omega) (by omega) h48 (by omega) hg h
  rw [show ((x.natAbs : Nat) : Int) = if 0 < x then x else -x by split <;> omega, show ((y.natAbs : Nat) : Int) = if 0 < y then y else -y by split <;> omega] at this
  exact this
/-! filling -/
def mfill (μ : Mem) (a n v : Int) : Mem := fun k i => if k = a ∧ 0 ≤ i ∧ i < n then v else μ k i
theorem mfill_0 {μ : Mem} {a v : Int} : mfill μ a 0 v = μ := by
  funext k i
  unfold mfill
  rw [if_neg (by omega)]
theorem mfill_s {μ : Mem} {a v i : Int} (h : 0 ≤ i) : mu (mfill μ a i v) a i v = mfill μ a (i + 1) v := by
  funext k j
  unfold mu mfill
  by_cases hk : k = a
  · subst hk
    by_cases hj : j = i
    · rw [if_pos ⟨rfl, hj⟩, if_pos ⟨rfl, by omega, by omega⟩]
    · rw [if_neg (fun q => hj q.2)]
      by_cases hl : 0 ≤ j ∧ j < i
      · rw [if_pos ⟨rfl, hl⟩, if_pos ⟨rfl, by omega, by omega⟩]
      · rw [if_neg (fun q => hl q.2), if_neg (fun q => hl ⟨q.2.1, by omega⟩)]
  · rw [if_neg (fun q => hk q.1), if_neg (fun q => hk q.1), if_neg (fun q => hk q.1)]
theorem c_fillJ {G : Gm} {S : List Sh} {μ : Mem} {Q : Mem → Prop} {a v : Int} {n : Nat} (ha : So S a (.inr (1, n))) (hn : n ≤ 100000) (h : Q (mfill μ a n v)) : Cv G mJ7_fill_d0a16 [(2, a), (1, v)] S μ Q := by
  refine eJ7_fill_d0a16 (fun Φ hΦ hR => bJ7_fill_d0a16_0 hΦ hR ⟨ha.1, ⟨n, ha⟩, ?_⟩)
  have hl : aln S a = n := by unfold aln; rw [ha.2]
  rw [hl]
  have loop : ∀ (d : Nat) (i : Int), 0 ≤ i → i + d = n → Ex G Φ 5 6 [some (2, a), some (1, v), none, some (0, i), some (0, (n : Int))] [] S (mfill μ a i v) 0 0 := by
    intro d
    induction d with
    | zero =>
      intro i h0 h1
      obtain rfl : i = n := by omega
      exact bJ7_fill_d0a16_6 hΦ hR ⟨⟨by omega, by omega⟩, ⟨by omega, by omega⟩, fun _ => h, fun c => by omega⟩
    | succ d ih =>
      intro i h0 h1
      refine bJ7_fill_d0a16_6 hΦ hR ⟨⟨by omega, by omega⟩, ⟨by omega, by omega⟩, fun c => by omega, fun _ => ⟨ha.1, ⟨n, ha, h0, by omega, by omega⟩, ?_⟩⟩
      intro m5 e5
      rw [mfill_s h0] at e5
      subst e5
      exact ih (i + 1) (by omega) (by omega)
  have := loop n 0 (by omega) (by omega)
  rw [mfill_0] at this
  exact this
theorem c_fillI {G : Gm} {S : List Sh} {μ : Mem} {Q : Mem → Prop} {a v : Int} {n : Nat} (ha : So S a (.inr (0, n))) (hn : n ≤ 100000) (h : Q (mfill μ a n v)) : Cv G mJ7_fill_53178 [(2, a), (0, v)] S μ Q := by
  refine eJ7_fill_53178 (fun Φ hΦ hR => bJ7_fill_53178_0 hΦ hR ⟨ha.1, ⟨n, ha⟩, ?_⟩)
  have hl : aln S a = n := by unfold aln; rw [ha.2]
  rw [hl]
  have loop : ∀ (d : Nat) (i : Int), 0 ≤ i → i + d = n → Ex G Φ 4 5 [some (2, a), some (0, v), some (0, i), some (0, (n : Int))] [] S (mfill μ a i v) 0 0 := by
    intro d
    induction d with
    | zero =>
      intro i h0 h1
      obtain rfl : i = n := by omega
      exact bJ7_fill_53178_5 hΦ hR ⟨⟨by omega, by omega⟩, ⟨by omega, by omega⟩, fun _ => h, fun c => by omega⟩
    | succ d ih =>
      intro i h0 h1
      refine bJ7_fill_53178_5 hΦ hR ⟨⟨by omega, by omega⟩, ⟨by omega, by omega⟩, fun c => by omega, fun _ => ⟨ha.1, ⟨n, ha, h0, by omega, by omega⟩, ?_⟩⟩
      intro m5 e5
      rw [mfill_s h0] at e5
      subst e5
      exact ih (i + 1) (by omega) (by omega)
  have := loop n 0 (by omega) (by omega)
  rw [mfill_0] at this
  exact this
theorem c_restAll {G : Gm} {S : List Sh} {μ : Mem} {Q : Mem → Prop} {o a b : Int} (ho : So S o (.inl 3)) (ha : So S a (.inr (1, 8))) (hb : So S b (.inr (1, 8))) (h1 : μ o 0 = a) (h2 : μ o 1 = b) (hab : o ≠ a) (h : Q (mu (mu (mfill (mfill μ a 8 0) b 8 1) o 3 0) o 4 0)) : Cv G mX3_restAll [(2, o)] S μ Q := by
  refine eX3_restAll (fun Φ hΦ hR => bX3_restAll_0 hΦ hR ⟨ho, ?_⟩)
  rw [h1]
  refine c_fillJ ha (by decide) ?_
  rw [show mfill μ a ((8 : Nat) : Int) 0 o 1 = b by unfold mfill; rw [if_neg (fun q => hab q.1), h2]]
  refine c_fillJ hb (by decide) ?_
  rintro _ rfl _ rfl
  exact h
