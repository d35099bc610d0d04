/-! COUNTS of bits -/
def pc (x : Int) : Nat → Int
  | 0 => 0
  | n + 1 => pc x n + bt_ x (n : Int)
def vl (k : Nat) : List Nat → Nat
  | [] => 0
  | d :: t => 2 ^ k * vl k t + d
theorem land_split {k a b c d : Nat} (hb : b < 2 ^ k) (hd : d < 2 ^ k) : (2 ^ k * a + b) &&& (2 ^ k * c + d) = 2 ^ k * (a &&& c) + (b &&& d) := by
  have hbd : b &&& d < 2 ^ k := Nat.and_lt_two_pow b hd
  apply Nat.eq_of_testBit_eq
  intro j
  rw [Nat.testBit_and, Nat.testBit_two_pow_mul_add _ hb, Nat.testBit_two_pow_mul_add _ hd, Nat.testBit_two_pow_mul_add _ hbd]
  split
  · rw [Nat.testBit_and]
  · rw [Nat.testBit_and]
def mkm (k : Nat) : List Bool → List Nat
  | [] => []
  | m :: t => (if m then 2 ^ k - 1 else 0) :: mkm k t
def zpm : List Nat → List Bool → List Nat
  | d :: t, m :: s => (if m then d else 0) :: zpm t s
  | _, _ => []
theorem vl_and {k : Nat} : ∀ (ds : List Nat) (ms : List Bool), ds.length = ms.length → (∀ d ∈ ds, d < 2 ^ k) → vl k ds &&& vl k (mkm k ms) = vl k (zpm ds ms)
  | [], [], _, _ => Nat.zero_and _
  | [], _ :: _, h, _ => by cases h
  | _ :: _, [], h, _ => by cases h
  | d :: t, m :: s, h, hd => by
    have ih := vl_and t s (by simpa using h) (fun x hx => hd x (List.mem_cons_of_mem _ hx))
    have h1 : d < 2 ^ k := hd d List.mem_cons_self
    have h2 : (if m then 2 ^ k - 1 else 0) < 2 ^ k := by have := Nat.two_pow_pos k; split <;> omega
    show (2 ^ k * vl k t + d) &&& (2 ^ k * vl k (mkm k s) + (if m then 2 ^ k - 1 else 0)) = 2 ^ k * vl k (zpm t s) + (if m then d else 0)
    rw [land_split h1 h2, ih]
    congr 1
    cases m
    · simp
    · show d &&& (2 ^ k - 1) = d
      exact Nat.and_two_pow_sub_one_of_lt_two_pow h1
theorem r32n {a : Nat} (h : a < 2147483648) : R32 (a : Int) := ⟨by omega, by omega⟩
theorem mand_nat {a b : Nat} (ha : a < 2147483648) (hb : b < 2147483648) : mand (a : Int) (b : Int) = ((a &&& b : Nat) : Int) := by
  have hab : a &&& b < 2 ^ 31 := Nat.and_lt_two_pow a (show b < 2 ^ 31 by omega)
  refine bt_ext (mand_r _ _) (r32n (show a &&& b < 2147483648 by omega)) (fun k hk => ?_)
  rw [bt_mand (r32n ha) (r32n hb) hk, bt_nat, bt_nat, bt_nat, Nat.testBit_and]
  cases a.testBit k <;> cases b.testBit k <;> simp
theorem shr_w (v : BitVec 32) (h : v.toNat < 2147483648) (n : Nat) : (v >>> n).toInt = ((v.toNat / 2 ^ n : Nat) : Int) := by
  have e : (v >>> n).toNat = v.toNat / 2 ^ n := by rw [BitVec.toNat_ushiftRight, Nat.shiftRight_eq_div_pow]
  have := Nat.div_le_self v.toNat (2 ^ n)
  rw [BitVec.toInt_eq_toNat_of_lt (by omega), e]
theorem bvn {a : Nat} (h : a < 2147483648) : (BitVec.ofInt 32 (a : Int)).toNat = a := by
  rw [BitVec.toNat_ofInt]; omega
theorem mushr_1 {a : Nat} (h : a < 2147483648) : mushr (a : Int) 1 = ((a / 2 : Nat) : Int) := by
  have e : mushr (a : Int) 1 = (BitVec.ofInt 32 (a : Int) >>> (1 : Nat)).toInt := rfl
  rw [e, shr_w _ (by rw [bvn h]; exact h), bvn h]
theorem mushr_2 {a : Nat} (h : a < 2147483648) : mushr (a : Int) 2 = ((a / 4 : Nat) : Int) := by
  have e : mushr (a : Int) 2 = (BitVec.ofInt 32 (a : Int) >>> (2 : Nat)).toInt := rfl
  rw [e, shr_w _ (by rw [bvn h]; exact h), bvn h]
theorem mushr_4 {a : Nat} (h : a < 2147483648) : mushr (a : Int) 4 = ((a / 16 : Nat) : Int) := by
  have e : mushr (a : Int) 4 = (BitVec.ofInt 32 (a : Int) >>> (4 : Nat)).toInt := rfl
  rw [e, shr_w _ (by rw [bvn h]; exact h), bvn h]
theorem mushr_8 {a : Nat} (h : a < 2147483648) : mushr (a : Int) 8 = ((a / 256 : Nat) : Int) := by
  have e : mushr (a : Int) 8 = (BitVec.ofInt 32 (a : Int) >>> (8 : Nat)).toInt := rfl
  rw [e, shr_w _ (by rw [bvn h]; exact h), bvn h]
theorem mushr_16 {a : Nat} (h : a < 2147483648) : mushr (a : Int) 16 = ((a / 65536 : Nat) : Int) := by
  have e : mushr (a : Int) 16 = (BitVec.ofInt 32 (a : Int) >>> (16 : Nat)).toInt := rfl
  rw [e, shr_w _ (by rw [bvn h]; exact h), bvn h]
def bcA (x : Int) : Int := x - mand (mushr x 1) 1431655765
def bcB (a : Int) : Int := mand a 858993459 + mand (mushr a 2) 858993459
def bcC (b : Int) : Int := mand (b + mushr b 4) 252645135
def bcD (c : Int) : Int := c + mushr c 8
def bcE (d : Int) : Int := mand (d + mushr d 16) 63
theorem bcA_l (b0 b1 b2 b3 b4 b5 b6 b7 b8 b9 b10 b11 b12 b13 b14 b15 b16 b17 b18 b19 b20 b21 b22 b23 b24 b25 b26 b27 b28 b29 b30 : Nat) (q0 : b0 < 2) (q1 : b1 < 2) (q2 : b2 < 2) (q3 : b3 < 2) (q4 : b4 < 2) (q5 : b5 < 2) (q6 : b6 < 2) (q7 : b7 < 2) (q8 : b8 < 2) (q9 : b9 < 2) (q10 : b10 < 2) (q11 : b11 < 2) (q12 : b12 < 2) (q13 : b13 < 2) (q14 : b14 < 2) (q15 : b15 < 2) (q16 : b16 < 2) (q17 : b17 < 2) (q18 : b18 < 2) (q19 : b19 < 2) (q20 : b20 < 2) (q21 : b21 < 2) (q22 : b22 < 2) (q23 : b23 < 2) (q24 : b24 < 2) (q25 : b25 < 2) (q26 : b26 < 2) (q27 : b27 < 2) (q28 : b28 < 2) (q29 : b29 < 2) (q30 : b30 < 2) : bcA ((vl 1 [b0, b1, b2, b3, b4, b5, b6, b7, b8, b9, b10, b11, b12, b13, b14, b15, b16, b17, b18, b19, b20, b21, b22, b23, b24, b25, b26, b27, b28, b29, b30] : Nat) : Int) = ((vl 2 [b0 + b1, b2 + b3, b4 + b5, b6 + b7, b8 + b9, b10 + b11, b12 + b13, b14 + b15, b16 + b17, b18 + b19, b20 + b21, b22 + b23, b24 + b25, b26 + b27, b28 + b29, b30] : Nat) : Int) := by
  have hx : vl 1 [b0, b1, b2, b3, b4, b5, b6, b7, b8, b9, b10, b11, b12, b13, b14, b15, b16, b17, b18, b19, b20, b21, b22, b23, b24, b25, b26, b27, b28, b29, b30] < 2147483648 := by simp only [vl]; omega
  have hy : vl 1 [b0, b1, b2, b3, b4, b5, b6, b7, b8, b9, b10, b11, b12, b13, b14, b15, b16, b17, b18, b19, b20, b21, b22, b23, b24, b25, b26, b27, b28, b29, b30] / 2 = vl 1 [b1, b2, b3, b4, b5, b6, b7, b8, b9, b10, b11, b12, b13, b14, b15, b16, b17, b18, b19, b20, b21, b22, b23, b24, b25, b26, b27, b28, b29, b30] := by simp only [vl]; omega
  have hm : (1431655765 : Nat) = vl 1 (mkm 1 [true, false, true, false, true, false, true, false, true, false, true, false, true, false, true, false, true, false, true, false, true, false, true, false, true, false, true, false, true, false, true]) := by decide +kernel
  have hz : vl 1 [b1, b2, b3, b4, b5, b6, b7, b8, b9, b10, b11, b12, b13, b14, b15, b16, b17, b18, b19, b20, b21, b22, b23, b24, b25, b26, b27, b28, b29, b30, 0] = vl 1 [b1, b2, b3, b4, b5, b6, b7, b8, b9, b10, b11, b12, b13, b14, b15, b16, b17, b18, b19, b20, b21, b22, b23, b24, b25, b26, b27, b28, b29, b30] := by simp only [vl]
  have ha := vl_and (k := 1) [b1, b2, b3, b4, b5, b6, b7, b8, b9, b10, b11, b12, b13, b14, b15, b16, b17, b18, b19, b20, b21, b22, b23, b24, b25, b26, b27, b28, b29, b30, 0] [true, false, true, false, true, false, true, false, true, false, true, false, true, false, true, false, true, false, true, false, true, false, true, false, true, false, true, false, true, false, true] rfl (by
    simp only [List.forall_mem_cons]
    exact ⟨q1, q2, q3, q4, q5, q6, q7, q8, q9, q10, q11, q12, q13, q14, q15, q16, q17, q18, q19, q20, q21, q22, q23, q24, q25, q26, q27, q28, q29, q30, by decide, fun _ h => by cases h⟩)
  have hz2 : vl 1 (zpm [b1, b2, b3, b4, b5, b6, b7, b8, b9, b10, b11, b12, b13, b14, b15, b16, b17, b18, b19, b20, b21, b22, b23, b24, b25, b26, b27, b28, b29, b30, 0] [true, false, true, false, true, false, true, false, true, false, true, false, true, false, true, false, true, false, true, false, true, false, true, false, true, false, true, false, true, false, true]) = vl 1 [b1, 0, b3, 0, b5, 0, b7, 0, b9, 0, b11, 0, b13, 0, b15, 0, b17, 0, b19, 0, b21, 0, b23, 0, b25, 0, b27, 0, b29, 0, 0] := rfl
  unfold bcA
  rw [mushr_1 hx, hy, show (1431655765 : Int) = ((1431655765 : Nat) : Int) from rfl, mand_nat (by rw [← hy]; omega) (by decide), ← hz, hm, ha, hz2]
  simp only [vl]
  omega
theorem bcB_l (f0 f1 f2 f3 f4 f5 f6 f7 f8 f9 f10 f11 f12 f13 f14 f15 : Nat) (q0 : f0 < 3) (q1 : f1 < 3) (q2 : f2 < 3) (q3 : f3 < 3) (q4 : f4 < 3) (q5 : f5 < 3) (q6 : f6 < 3) (q7 : f7 < 3) (q8 : f8 < 3) (q9 : f9 < 3) (q10 : f10 < 3) (q11 : f11 < 3) (q12 : f12 < 3) (q13 : f13 < 3) (q14 : f14 < 3) (q15 : f15 < 2) : bcB ((vl 2 [f0, f1, f2, f3, f4, f5, f6, f7, f8, f9, f10, f11, f12, f13, f14, f15] : Nat) : Int) = ((vl 4 [f0 + f1, f2 + f3, f4 + f5, f6 + f7, f8 + f9, f10 + f11, f12 + f13, f14 + f15] : Nat) : Int) := by
  have hx : vl 2 [f0, f1, f2, f3, f4, f5, f6, f7, f8, f9, f10, f11, f12, f13, f14, f15] < 2147483648 := by simp only [vl]; omega
  have hy : vl 2 [f0, f1, f2, f3, f4, f5, f6, f7, f8, f9, f10, f11, f12, f13, f14, f15] / 4 = vl 2 [f1, f2, f3, f4, f5, f6, f7, f8, f9, f10, f11, f12, f13, f14, f15, 0] := by simp only [vl]; omega
  have hm : (858993459 : Nat) = vl 2 (mkm 2 [true, false, true, false, true, false, true, false, true, false, true, false, true, false, true, false]) := by decide +kernel
  have ha := vl_and (k := 2) [f0, f1, f2, f3, f4, f5, f6, f7, f8, f9, f10, f11, f12, f13, f14, f15] [true, false, true, false, true, false, true, false, true, false, true, false, true, false, true, false] rfl (by
    simp only [List.forall_mem_cons]
    exact ⟨by omega, by omega, by omega, by omega, by omega, by omega, by omega, by omega, by omega, by omega, by omega, by omega, by omega, by omega, by omega, by omega, fun _ h => by cases h⟩)
  have hb := vl_and (k := 2) [f1, f2, f3, f4, f5, f6, f7, f8, f9, f10, f11, f12, f13, f14, f15, 0] [true, false, true, false, true, false, true, false, true, false, true, false, true, false, true, false] rfl (by
    simp only [List.forall_mem_cons]
    exact ⟨by omega, by omega, by omega, by omega, by omega, by omega, by omega, by omega, by omega, by omega, by omega, by omega, by omega, by omega, by omega, by omega, fun _ h => by cases h⟩)
  have ha2 : vl 2 (zpm [f0, f1, f2, f3, f4, f5, f6, f7, f8, f9, f10, f11, f12, f13, f14, f15] [true, false, true, false, true, false, true, false, true, false, true, false, true, false, true, false]) = vl 2 [f0, 0, f2, 0, f4, 0, f6, 0, f8, 0, f10, 0, f12, 0, f14, 0] := rfl
  have hb2 : vl 2 (zpm [f1, f2, f3, f4, f5, f6, f7, f8, f9, f10, f11, f12, f13, f14, f15, 0] [true, false, true, false, true, false, true, false, true, false, true, false, true, false, true, false]) = vl 2 [f1, 0, f3, 0, f5, 0, f7, 0, f9, 0, f11, 0, f13, 0, f15, 0] := rfl
  unfold bcB
  rw [mushr_2 hx, hy, show (858993459 : Int) = ((858993459 : Nat) : Int) from rfl, mand_nat hx (by decide), mand_nat (by rw [← hy]; omega) (by decide), hm, ha, hb, ha2, hb2]
  simp only [vl]
  omega
theorem bcC_l (g0 g1 g2 g3 g4 g5 g6 g7 : Nat) (q0 : g0 < 5) (q1 : g1 < 5) (q2 : g2 < 5) (q3 : g3 < 5) (q4 : g4 < 5) (q5 : g5 < 5) (q6 : g6 < 5) (q7 : g7 < 4) : bcC ((vl 4 [g0, g1, g2, g3, g4, g5, g6, g7] : Nat) : Int) = ((vl 8 [g0 + g1, g2 + g3, g4 + g5, g6 + g7] : Nat) : Int) := by
  have hx : vl 4 [g0, g1, g2, g3, g4, g5, g6, g7] < 2000000000 := by simp only [vl]; omega
  have hy : vl 4 [g0, g1, g2, g3, g4, g5, g6, g7] + vl 4 [g0, g1, g2, g3, g4, g5, g6, g7] / 16 = vl 4 [g0 + g1, g1 + g2, g2 + g3, g3 + g4, g4 + g5, g5 + g6, g6 + g7, g7] := by simp only [vl]; omega
  have hx2 : vl 4 [g0 + g1, g1 + g2, g2 + g3, g3 + g4, g4 + g5, g5 + g6, g6 + g7, g7] < 2147483648 := by simp only [vl]; omega
  have hm : (252645135 : Nat) = vl 4 (mkm 4 [true, false, true, false, true, false, true, false]) := by decide +kernel
  have ha := vl_and (k := 4) [g0 + g1, g1 + g2, g2 + g3, g3 + g4, g4 + g5, g5 + g6, g6 + g7, g7] [true, false, true, false, true, false, true, false] rfl (by
    simp only [List.forall_mem_cons]
    exact ⟨by omega, by omega, by omega, by omega, by omega, by omega, by omega, by omega, fun _ h => by cases h⟩)
  have ha2 : vl 4 (zpm [g0 + g1, g1 + g2, g2 + g3, g3 + g4, g4 + g5, g5 + g6, g6 + g7, g7] [true, false, true, false, true, false, true, false]) = vl 4 [g0 + g1, 0, g2 + g3, 0, g4 + g5, 0, g6 + g7, 0] := rfl
  unfold bcC
  rw [mushr_4 (by omega), show (252645135 : Int) = ((252645135 : Nat) : Int) from rfl, ← Int.natCast_add, hy, mand_nat hx2 (by decide), hm, ha, ha2]
  simp only [vl]
  omega
theorem bcDE_l (h0 h1 h2 h3 : Nat) (q0 : h0 < 9) (q1 : h1 < 9) (q2 : h2 < 9) (q3 : h3 < 9) : bcE (bcD ((vl 8 [h0, h1, h2, h3] : Nat) : Int)) = ((h0 + h1 + h2 + h3 : Nat) : Int) := by
  have hx : vl 8 [h0, h1, h2, h3] < 1000000000 := by simp only [vl]; omega
  have hy : vl 8 [h0, h1, h2, h3] + vl 8 [h0, h1, h2, h3] / 256 = vl 8 [h0 + h1, h1 + h2, h2 + h3, h3] := by simp only [vl]; omega
  have hx2 : vl 8 [h0 + h1, h1 + h2, h2 + h3, h3] < 1000000000 := by simp only [vl]; omega
  have hy2 : vl 8 [h0 + h1, h1 + h2, h2 + h3, h3] + vl 8 [h0 + h1, h1 + h2, h2 + h3, h3] / 65536 = vl 8 [h0 + h1 + h2 + h3, h1 + h2 + h3, h2 + h3, h3] := by simp only [vl]; omega
  have hx3 : vl 8 [h0 + h1 + h2 + h3, h1 + h2 + h3, h2 + h3, h3] < 1000000000 := by simp only [vl]; omega
  unfold bcE bcD
  rw [mushr_8 (by omega), ← Int.natCast_add, hy, mushr_16 (by omega), ← Int.natCast_add, hy2, show (63 : Int) = ((63 : Nat) : Int) from rfl, mand_nat (by omega) (by decide), show (63 : Nat) = 2 ^ 6 - 1 from rfl, Nat.and_two_pow_sub_one_eq_mod]
  simp only [vl]
  omega
def hb : Nat → Nat → Nat
  | 0, x => x
  | k + 1, x => hb k (x / 2)
def bl : Nat → Nat → List Nat
  | 0, _ => []
  | n + 1, x => (x % 2) :: bl n (x / 2)
theorem bl_vl : ∀ (n x : Nat), x < 2 ^ n → vl 1 (bl n x) = x
  | 0, x, h => by have : x = 0 := by simpa using h
                  rw [this]; rfl
  | n + 1, x, h => by
    have h1 : x / 2 < 2 ^ n := by rw [Nat.pow_succ] at h; omega
    show 2 ^ 1 * vl 1 (bl n (x / 2)) + x % 2 = x
    rw [bl_vl n (x / 2) h1]
    omega
theorem hb_pow : ∀ (k x : Nat), hb k x = x / 2 ^ k
  | 0, x => by show x = _; rw [Nat.pow_zero, Nat.div_one]
  | k + 1, x => by
    show hb k (x / 2) = _
    rw [hb_pow k, Nat.div_div_eq_div_mul, Nat.pow_succ, Nat.mul_comm]
theorem bt_hb (x k : Nat) : bt_ (x : Int) (k : Int) = ((hb k x % 2 : Nat) : Int) := by
  rw [hb_pow]
  unfold bt_
  rw [Int.toNat_natCast]
  simp
theorem hb2 (k x : Nat) : hb k x % 2 < 2 := Nat.mod_lt _ (by decide)
theorem bcf_l {x : Nat} (h : x < 2147483648) : bcE (bcD (bcC (bcB (bcA (x : Int))))) = pc (x : Int) 31 := by
  have e : vl 1 [(hb 0 x % 2), (hb 1 x % 2), (hb 2 x % 2), (hb 3 x % 2), (hb 4 x % 2), (hb 5 x % 2), (hb 6 x % 2), (hb 7 x % 2), (hb 8 x % 2), (hb 9 x % 2), (hb 10 x % 2), (hb 11 x % 2), (hb 12 x % 2), (hb 13 x % 2), (hb 14 x % 2), (hb 15 x % 2), (hb 16 x % 2), (hb 17 x % 2), (hb 18 x % 2), (hb 19 x % 2), (hb 20 x % 2), (hb 21 x % 2), (hb 22 x % 2), (hb 23 x % 2), (hb 24 x % 2), (hb 25 x % 2), (hb 26 x % 2), (hb 27 x % 2), (hb 28 x % 2), (hb 29 x % 2), (hb 30 x % 2)] = x := bl_vl 31 x (by omega)
  have eA := bcA_l (hb 0 x % 2) (hb 1 x % 2) (hb 2 x % 2) (hb 3 x % 2) (hb 4 x % 2) (hb 5 x % 2) (hb 6 x % 2) (hb 7 x % 2) (hb 8 x % 2) (hb 9 x % 2) (hb 10 x % 2) (hb 11 x % 2) (hb 12 x % 2) (hb 13 x % 2) (hb 14 x % 2) (hb 15 x % 2) (hb 16 x % 2) (hb 17 x % 2) (hb 18 x % 2) (hb 19 x % 2) (hb 20 x % 2) (hb 21 x % 2) (hb 22 x % 2) (hb 23 x % 2) (hb 24 x % 2) (hb 25 x % 2) (hb 26 x % 2) (hb 27 x % 2) (hb 28 x % 2) (hb 29 x % 2) (hb 30 x % 2) (hb2 0 x) (hb2 1 x) (hb2 2 x) (hb2 3 x) (hb2 4 x) (hb2 5 x) (hb2 6 x) (hb2 7 x) (hb2 8 x) (hb2 9 x) (hb2 10 x) (hb2 11 x) (hb2 12 x) (hb2 13 x) (hb2 14 x) (hb2 15 x) (hb2 16 x) (hb2 17 x) (hb2 18 x) (hb2 19 x) (hb2 20 x) (hb2 21 x) (hb2 22 x) (hb2 23 x) (hb2 24 x) (hb2 25 x) (hb2 26 x) (hb2 27 x) (hb2 28 x) (hb2 29 x) (hb2 30 x)
  rw [e] at eA
  have p : pc (x : Int) 31 = (((hb 0 x % 2) + (hb 1 x % 2) + (hb 2 x % 2) + (hb 3 x % 2) + (hb 4 x % 2) + (hb 5 x % 2) + (hb 6 x % 2) + (hb 7 x % 2) + (hb 8 x % 2) + (hb 9 x % 2) + (hb 10 x % 2) + (hb 11 x % 2) + (hb 12 x % 2) + (hb 13 x % 2) + (hb 14 x % 2) + (hb 15 x % 2) + (hb 16 x % 2) + (hb 17 x % 2) + (hb 18 x % 2) + (hb 19 x % 2) + (hb 20 x % 2) + (hb 21 x % 2) + (hb 22 x % 2) + (hb 23 x % 2) + (hb 24 x % 2) + (hb 25 x % 2) + (hb 26 x % 2) + (hb 27 x % 2) + (hb 28 x % 2) + (hb 29 x % 2) + (hb 30 x % 2) : Nat) : Int) := by
    simp only [pc]
    have z0 := bt_hb x 0; have z1 := bt_hb x 1; have z2 := bt_hb x 2; have z3 := bt_hb x 3; have z4 := bt_hb x 4; have z5 := bt_hb x 5; have z6 := bt_hb x 6; have z7 := bt_hb x 7; have z8 := bt_hb x 8; have z9 := bt_hb x 9; have z10 := bt_hb x 10; have z11 := bt_hb x 11; have z12 := bt_hb x 12; have z13 := bt_hb x 13; have z14 := bt_hb x 14; have z15 := bt_hb x 15; have z16 := bt_hb x 16; have z17 := bt_hb x 17; have z18 := bt_hb x 18; have z19 := bt_hb x 19; have z20 := bt_hb x 20; have z21 := bt_hb x 21; have z22 := bt_hb x 22; have z23 := bt_hb x 23; have z24 := bt_hb x 24; have z25 := bt_hb x 25; have z26 := bt_hb x 26; have z27 := bt_hb x 27; have z28 := bt_hb x 28; have z29 := bt_hb x 29; have z30 := bt_hb x 30
    simp only [z0, z1, z2, z3, z4, z5, z6, z7, z8, z9, z10, z11, z12, z13, z14, z15, z16, z17, z18, z19, z20, z21, z22, z23, z24, z25, z26, z27, z28, z29, z30]
    omega
  have y0 := hb2 0 x; have y1 := hb2 1 x; have y2 := hb2 2 x; have y3 := hb2 3 x; have y4 := hb2 4 x; have y5 := hb2 5 x; have y6 := hb2 6 x; have y7 := hb2 7 x; have y8 := hb2 8 x; have y9 := hb2 9 x; have y10 := hb2 10 x; have y11 := hb2 11 x; have y12 := hb2 12 x; have y13 := hb2 13 x; have y14 := hb2 14 x; have y15 := hb2 15 x; have y16 := hb2 16 x; have y17 := hb2 17 x; have y18 := hb2 18 x; have y19 := hb2 19 x; have y20 := hb2 20 x; have y21 := hb2 21 x; have y22 := hb2 22 x; have y23 := hb2 23 x; have y24 := hb2 24 x; have y25 := hb2 25 x; have y26 := hb2 26 x; have y27 := hb2 27 x; have y28 := hb2 28 x; have y29 := hb2 29 x; have y30 := hb2 30 x
  rw [p, eA]
  clear e eA p
  generalize hb 0 x % 2 = c0 at *
  generalize hb 1 x % 2 = c1 at *
  generalize hb 2 x % 2 = c2 at *
  generalize hb 3 x % 2 = c3 at *
  generalize hb 4 x % 2 = c4 at *
  generalize hb 5 x % 2 = c5 at *
  generalize hb 6 x % 2 = c6 at *
  generalize hb 7 x % 2 = c7 at *
  generalize hb 8 x % 2 = c8 at *
  generalize hb 9 x % 2 = c9 at *
  generalize hb 10 x % 2 = c10 at *
  generalize hb 11 x % 2 = c11 at *
  generalize hb 12 x % 2 = c12 at *
  generalize hb 13 x % 2 = c13 at *
  generalize hb 14 x % 2 = c14 at *
  generalize hb 15 x % 2 = c15 at *
  generalize hb 16 x % 2 = c16 at *
  generalize hb 17 x % 2 = c17 at *
  generalize hb 18 x % 2 = c18 at *
  generalize hb 19 x % 2 = c19 at *
  generalize hb 20 x % 2 = c20 at *
  generalize hb 21 x % 2 = c21 at *
  generalize hb 22 x % 2 = c22 at *
  generalize hb 23 x % 2 = c23 at *
  generalize hb 24 x % 2 = c24 at *
  generalize hb 25 x % 2 = c25 at *
  generalize hb 26 x % 2 = c26 at *
  generalize hb 27 x % 2 = c27 at *
  generalize hb 28 x % 2 = c28 at *
  generalize hb 29 x % 2 = c29 at *
  generalize hb 30 x % 2 = c30 at *
  rw [bcB_l (c0 + c1) (c2 + c3) (c4 + c5) (c6 + c7) (c8 + c9) (c10 + c11) (c12 + c13) (c14 + c15) (c16 + c17) (c18 + c19) (c20 + c21) (c22 + c23) (c24 + c25) (c26 + c27) (c28 + c29) c30 (by omega) (by omega) (by omega) (by omega) (by omega) (by omega) (by omega) (by omega) (by omega) (by omega) (by omega) (by omega) (by omega) (by omega) (by omega) (by omega)]
  rw [bcC_l ((c0 + c1) + (c2 + c3)) ((c4 + c5) + (c6 + c7)) ((c8 + c9) + (c10 + c11)) ((c12 + c13) + (c14 + c15)) ((c16 + c17) + (c18 + c19)) ((c20 + c21) + (c22 + c23)) ((c24 + c25) + (c26 + c27)) ((c28 + c29) + c30) (by omega) (by omega) (by omega) (by omega) (by omega) (by omega) (by omega) (by omega)]
  rw [bcDE_l (((c0 + c1) + (c2 + c3)) + ((c4 + c5) + (c6 + c7))) (((c8 + c9) + (c10 + c11)) + ((c12 + c13) + (c14 + c15))) (((c16 + c17) + (c18 + c19)) + ((c20 + c21) + (c22 + c23))) (((c24 + c25) + (c26 + c27)) + ((c28 + c29) + c30)) (by omega) (by omega) (by omega) (by omega)]
  omega
theorem c_bitCount {G : Gm} {S : List Sh} {μ : Mem} {Q : Int → Mem → Prop} {x : Int} (h0 : 0 ≤ x) (h1 : x ≤ 2147483647) (h : Q (pc x 31) μ) : Ci G mJ6_bitCount_0f7a4 [(0, x)] S μ Q := by
  refine eJ6_bitCount_0f7a4 (fun Φ hΦ hR => bJ6_bitCount_0f7a4_0 hΦ hR ?_)
  obtain ⟨n, rfl⟩ := Int.eq_ofNat_of_zero_le h0
  rw [← bcf_l (show n < 2147483648 by omega)] at h
  exact h
theorem pc_rg (x : Int) : ∀ n : Nat, 0 ≤ pc x n ∧ pc x n ≤ n
  | 0 => ⟨Int.le_refl _, Int.le_refl _⟩
  | n + 1 => by
    have := pc_rg x n
    have := bt_rg x n
    show 0 ≤ pc x n + bt_ x n ∧ pc x n + bt_ x n ≤ ((n + 1 : Nat) : Int)
    omega
theorem pc_hi {x : Int} {n : Nat} (h : ∀ k : Nat, n ≤ k → bt_ x (k : Int) = 0) : ∀ d : Nat, pc x (n + d) = pc x n
  | 0 => rfl
  | d + 1 => by
    show pc x (n + d) + bt_ x ((n + d : Nat) : Int) = _
    rw [h (n + d) (by omega), pc_hi h d]; omega
