/-! BITS of ints -/
theorem bt_nat (n k : Nat) : bt_ (n : Int) (k : Int) = if n.testBit k then 1 else 0 := by
  unfold bt_
  rw [Int.toNat_natCast, Nat.testBit_eq_decide_div_mod_eq, show ((n : Int) / 2 ^ k) % 2 = ((n / 2 ^ k % 2 : Nat) : Int) by simp]
  have : n / 2 ^ k % 2 < 2 := Nat.mod_lt _ (by decide)
  by_cases c : n / 2 ^ k % 2 = 1
  · simp [c]
  · have : n / 2 ^ k % 2 = 0 := by omega
    simp [this]
theorem bt_sub (x m : Int) (k : Nat) : bt_ (x - 2 ^ (k + 1) * m) (k : Int) = bt_ x (k : Int) := by
  unfold bt_
  rw [Int.toNat_natCast]
  have h0 : (2 : Int) ^ k ≠ 0 := Int.pow_ne_zero (by decide)
  rw [show x - 2 ^ (k + 1) * m = x + 2 ^ k * (-(2 * m)) by rw [Int.pow_succ, Int.mul_neg, Int.mul_assoc]; rfl, Int.add_mul_ediv_left _ _ h0]
  omega
theorem bt_v (v : BitVec 32) {k : Nat} (hk : k < 32) : bt_ v.toInt (k : Int) = if v.getLsbD k then 1 else 0 := by
  rw [BitVec.toInt_eq_toNat_cond]
  have e : v.getLsbD k = v.toNat.testBit k := rfl
  rw [e, ← bt_nat]
  split
  · rfl
  · have := bt_sub (v.toNat : Int) (2 ^ (31 - k)) k
    rw [← Int.pow_add, show k + 1 + (31 - k) = 32 by omega] at this
    exact this
theorem bt_of {x : Int} (hx : R32 x) {k : Nat} (hk : k < 32) : bt_ x (k : Int) = if (BitVec.ofInt 32 x).getLsbD k then 1 else 0 := by
  rw [← bt_v _ hk]
  congr 1
  exact (i32_in hx).symm
theorem bt_ext {x y : Int} (hx : R32 x) (hy : R32 y) (h : ∀ k : Nat, k < 32 → bt_ x (k : Int) = bt_ y (k : Int)) : x = y := by
  have : BitVec.ofInt 32 x = BitVec.ofInt 32 y := by
    apply BitVec.eq_of_getLsbD_eq
    intro k hk
    have := h k hk
    rw [bt_of hx hk, bt_of hy hk] at this
    cases h1 : (BitVec.ofInt 32 x).getLsbD k <;> cases h2 : (BitVec.ofInt 32 y).getLsbD k <;> simp [h1, h2] at this ⊢
  rw [← i32_in hx, ← i32_in hy]
  show (BitVec.ofInt 32 x).toInt = (BitVec.ofInt 32 y).toInt
  rw [this]
theorem mor_r (x y : Int) : R32 (mor x y) := ⟨Int32.le_toInt _, by have := Int32.toInt_lt (Int32.ofInt x ||| Int32.ofInt y); unfold mor; omega⟩
theorem mand_r (x y : Int) : R32 (mand x y) := ⟨Int32.le_toInt _, by have := Int32.toInt_lt (Int32.ofInt x &&& Int32.ofInt y); unfold mand; omega⟩
theorem mxor_r (x y : Int) : R32 (mxor x y) := ⟨Int32.le_toInt _, by have := Int32.toInt_lt (Int32.ofInt x ^^^ Int32.ofInt y); unfold mxor; omega⟩
theorem bt_mor {x y : Int} (hx : R32 x) (hy : R32 y) {k : Nat} (hk : k < 32) : bt_ (mor x y) (k : Int) = if bt_ x (k : Int) = 1 ∨ bt_ y (k : Int) = 1 then 1 else 0 := by
  have : mor x y = (BitVec.ofInt 32 x ||| BitVec.ofInt 32 y).toInt := rfl
  rw [this, bt_v _ hk, bt_of hx hk, bt_of hy hk, BitVec.getLsbD_or]
  cases h1 : (BitVec.ofInt 32 x).getLsbD k <;> cases h2 : (BitVec.ofInt 32 y).getLsbD k <;> simp
theorem bt_mand {x y : Int} (hx : R32 x) (hy : R32 y) {k : Nat} (hk : k < 32) : bt_ (mand x y) (k : Int) = if bt_ x (k : Int) = 1 ∧ bt_ y (k : Int) = 1 then 1 else 0 := by
  have : mand x y = (BitVec.ofInt 32 x &&& BitVec.ofInt 32 y).toInt := rfl
  rw [this, bt_v _ hk, bt_of hx hk, bt_of hy hk, BitVec.getLsbD_and]
  cases h1 : (BitVec.ofInt 32 x).getLsbD k <;> cases h2 : (BitVec.ofInt 32 y).getLsbD k <;> simp
theorem bt_mxor {x y : Int} (hx : R32 x) (hy : R32 y) {k : Nat} (hk : k < 32) : bt_ (mxor x y) (k : Int) = if bt_ x (k : Int) = bt_ y (k : Int) then 0 else 1 := by
  have : mxor x y = (BitVec.ofInt 32 x ^^^ BitVec.ofInt 32 y).toInt := rfl
  rw [this, bt_v _ hk, bt_of hx hk, bt_of hy hk, BitVec.getLsbD_xor]
  cases h1 : (BitVec.ofInt 32 x).getLsbD k <;> cases h2 : (BitVec.ofInt 32 y).getLsbD k <;> simp
theorem bt_m1 {k : Nat} (hk : k < 32) : bt_ (-1) (k : Int) = 1 := by
  rw [bt_of ⟨by decide, by decide⟩ hk, show BitVec.ofInt 32 (-1) = BitVec.allOnes 32 by decide, BitVec.getLsbD_allOnes]; simp [hk]
theorem bt_01 {x k : Int} : bt_ x k = 0 ∨ bt_ x k = 1 := by have := bt_rg x k; omega
theorem bt_2 {w k : Nat} : bt_ (2 ^ w) (k : Int) = if k = w then 1 else 0 := by
  rw [show (2 : Int) ^ w = ((2 ^ w : Nat) : Int) by simp, bt_nat, Nat.testBit_two_pow]
  by_cases c : w = k
  · simp [c]
  · simp [c, Ne.symm c]
theorem r32_2 {w : Nat} (h : w < 31) : R32 (2 ^ w) := by
  have : ∀ w : Nat, w < 31 → (1 : Int) ≤ 2 ^ w ∧ (2 : Int) ^ w ≤ 1073741824 := by decide +kernel
  have := this w h
  exact ⟨by omega, by omega⟩
theorem bt_lt {x : Int} {n k : Nat} (h0 : 0 ≤ x) (h1 : x < 2 ^ n) (hk : n ≤ k) : bt_ x (k : Int) = 0 := by
  obtain ⟨m, rfl⟩ := Int.eq_ofNat_of_zero_le h0
  have : m < 2 ^ n := by
    have e : ((2 ^ n : Nat) : Int) = 2 ^ n := by simp
    omega
  rw [bt_nat, Nat.testBit_lt_two_pow (Nat.lt_of_lt_of_le this (Nat.pow_le_pow_right (by decide) hk))]
  simp
theorem rg_bt {x : Int} (hx : R32 x) {n : Nat} (hn : n ≤ 31) (h : ∀ k : Nat, n ≤ k → k < 32 → bt_ x (k : Int) = 0) : 0 ≤ x ∧ x < 2 ^ n := by
  have p : (1 : Int) ≤ 2 ^ n := by
    have : 0 < 2 ^ n := Nat.two_pow_pos n
    have e : ((2 ^ n : Nat) : Int) = 2 ^ n := by simp
    omega
  have h31 := h 31 hn (by decide)
  have h0 : 0 ≤ x := by
    unfold bt_ at h31
    have e : ((31 : Nat) : Int).toNat = 31 := rfl
    rw [e, show (2 : Int) ^ 31 = 2147483648 by decide] at h31
    omega
  refine ⟨h0, ?_⟩
  obtain ⟨m, rfl⟩ := Int.eq_ofNat_of_zero_le h0
  have : m < 2 ^ n := by
    apply Nat.lt_pow_two_of_testBit
    intro i hi
    by_cases c : i < 32
    · have := h i hi c
      rw [bt_nat] at this
      cases q : m.testBit i
      · rfl
      · rw [q] at this; simp at this
    · have : m < 2 ^ i := Nat.lt_of_lt_of_le (show m < 2 ^ 32 by have := hx.2; omega) (Nat.pow_le_pow_right (by decide) (by omega))
      exact Nat.testBit_lt_two_pow this
  have e : ((2 ^ n : Nat) : Int) = 2 ^ n := by simp
  omega
