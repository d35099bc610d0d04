/-! HOW MANY of some numbers, or the i-th of them -/
def hs (p : Int → Bool) (i : Int) : Int → Nat → Int → Int
  | _, 0, f => if i = -1 then f else -1
  | t, k + 1, f => if p t = true then (if f = i then t else hs p i (t + 1) k (f + 1)) else hs p i (t + 1) k f
theorem hs_y {p : Int → Bool} {i t f : Int} {k : Nat} (h : p t = true) (e : f = i) : hs p i t (k + 1) f = t := by
  show (if p t = true then (if f = i then t else _) else _) = _
  rw [if_pos h, if_pos e]
theorem hs_yn {p : Int → Bool} {i t f : Int} {k : Nat} (h : p t = true) (e : f ≠ i) : hs p i t (k + 1) f = hs p i (t + 1) k (f + 1) := by
  show (if p t = true then (if f = i then t else hs p i (t + 1) k (f + 1)) else _) = _
  rw [if_pos h, if_neg e]
theorem hs_n {p : Int → Bool} {i t f : Int} {k : Nat} (h : ¬ p t = true) : hs p i t (k + 1) f = hs p i (t + 1) k f := by
  show (if p t = true then _ else hs p i (t + 1) k f) = _
  rw [if_neg h]
theorem hs_cong {p q : Int → Bool} {i : Int} : ∀ (k : Nat) (t f : Int), (∀ j, t ≤ j → p j = q j) → hs p i t k f = hs q i t k f
  | 0, _, _, _ => rfl
  | k + 1, t, f, h => by
    have h1 := hs_cong k (t + 1) (f + 1) (fun j hj => h j (by omega)) (i := i)
    have h2 := hs_cong k (t + 1) f (fun j hj => h j (by omega)) (i := i)
    show (if p t = true then (if f = i then t else hs p i (t + 1) k (f + 1)) else hs p i (t + 1) k f) = (if q t = true then (if f = i then t else hs q i (t + 1) k (f + 1)) else hs q i (t + 1) k f)
    rw [h t (by omega), h1, h2]
theorem hs_r {p : Int → Bool} {i : Int} : ∀ (k : Nat) (t f : Int), 0 ≤ t → t + k ≤ 31 → 0 ≤ f → f ≤ t → -1 ≤ hs p i t k f ∧ hs p i t k f ≤ 31
  | 0, t, f, h0, h1, h2, h3 => by
    show -1 ≤ (if i = -1 then f else -1) ∧ (if i = -1 then f else -1) ≤ 31
    split <;> omega
  | k + 1, t, f, h0, h1, h2, h3 => by
    have a := hs_r k (t + 1) (f + 1) (by omega) (by omega) (by omega) (by omega) (p := p) (i := i)
    have b := hs_r k (t + 1) f (by omega) (by omega) (by omega) (by omega) (p := p) (i := i)
    show -1 ≤ (if p t = true then (if f = i then t else hs p i (t + 1) k (f + 1)) else hs p i (t + 1) k f) ∧ (if p t = true then (if f = i then t else hs p i (t + 1) k (f + 1)) else hs p i (t + 1) k f) ≤ 31
    split
    · split
      · omega
      · exact a
    · exact b
theorem hs_m1 {p : Int → Bool} {x : Int} (hb : ∀ k : Nat, k < 31 → (bt_ x (k : Int) = 1 ↔ p k = true)) : ∀ (k t : Nat) (f : Int), 0 ≤ f → t + k ≤ 31 → hs p (-1) t k f = f + (pc x (t + k) - pc x t)
  | 0, t, f, h0, h1 => by show (if (-1 : Int) = -1 then f else -1) = _; rw [if_pos rfl, Nat.add_zero]; omega
  | k + 1, t, f, h0, h1 => by
    have e : pc x (t + 1) = pc x t + bt_ x (t : Int) := rfl
    have hk := hb t (by omega)
    have b1 := bt_rg x (t : Int)
    by_cases c : p t = true
    · rw [hs_yn c (by omega), show (t : Int) + 1 = ((t + 1 : Nat) : Int) by omega, hs_m1 hb k (t + 1) (f + 1) (by omega) (by omega), show t + 1 + k = t + (k + 1) by omega]
      have := hk.mpr c
      omega
    · rw [hs_n c, show (t : Int) + 1 = ((t + 1 : Nat) : Int) by omega, hs_m1 hb k (t + 1) f (by omega) (by omega), show t + 1 + k = t + (k + 1) by omega]
      have : ¬ bt_ x (t : Int) = 1 := fun q => c (hk.mp q)
      omega
theorem c7_howManyOrOne {G : Gm} {S : List Sh} {μ : Mem} {Q : Int → Mem → Prop} {p : Int → Bool} {x i : Int} (h0 : 0 ≤ x) (h1 : x ≤ 2147483647) (hb : ∀ k : Nat, k < 31 → (bt_ x (k : Int) = 1 ↔ p k = true)) (hi : R32 i) (K : Q (hs p i 0 31 0) μ) : Ci G mX7_howManyOrOne [(0, x), (0, i)] S μ Q := by
  refine eX7_howManyOrOne (fun Φ hΦ hR => bX7_howManyOrOne_0 hΦ hR ⟨hi, fun c => ?_, fun c => c_bitCount h0 h1 ?_⟩)
  · have loop : ∀ (m k : Nat) (f : Int), k + m = 31 → 0 ≤ f → f ≤ k → Q (hs p i k m f) μ → Ex G Φ 4 14 [some (0, x), some (0, i), some (0, f), some (0, (k : Int))] [] S μ 0 0 := by
      intro m
      induction m with
      | zero =>
        intro k f hk f0 f1 K
        have K : Q (if i = -1 then f else -1) μ := K
        rw [if_neg c] at K
        exact bX7_howManyOrOne_14 hΦ hR ⟨⟨by omega, by omega⟩, fun _ => K, fun d => absurd (by omega) d⟩
      | succ m ih =>
        intro k f hk f0 f1 K
        have nx : ∀ f' : Int, 0 ≤ f' → f' ≤ k + 1 → Q (hs p i (k + 1) m f') μ → Ex G Φ 4 14 [some (0, x), some (0, i), some (0, f'), some (0, (k : Int) + 1)] [] S μ 0 0 := fun f' q0 q1 q2 => by
          have := ih (k + 1) f' (by omega) q0 (by omega) (by rw [show (((k + 1 : Nat)) : Int) = (k : Int) + 1 by omega]; exact q2)
          rw [show (((k + 1 : Nat)) : Int) = (k : Int) + 1 by omega] at this
          exact this
        have hk' := hb k (by omega)
        refine bX7_howManyOrOne_14 hΦ hR ⟨⟨by omega, by omega⟩, fun d => absurd d (by omega), fun _ => ⟨⟨by omega, by omega⟩, by omega, by omega, R32_one (bt_rg x k), fun d => ?_, fun d => ⟨⟨by omega, by omega⟩, hi, fun e => ?_, fun e => ?_⟩⟩⟩
        · have d : bt_ x (k : Int) ≠ 1 := d
          rw [hs_n (fun q => d (hk'.mpr q))] at K
          exact nx f f0 (by omega) K
        · have d : bt_ x (k : Int) = 1 := d
          rw [hs_yn (hk'.mp d) e] at K
          exact nx (f + 1) (by omega) (by omega) K
        · have d : bt_ x (k : Int) = 1 := d
          rw [hs_y (hk'.mp d) e] at K
          exact K
    exact loop 31 0 0 (by decide) (by decide) (by decide) K
  · rw [c] at K
    have e := hs_m1 hb 31 0 0 (by decide) (by decide)
    rw [show ((0 : Nat) : Int) = 0 from rfl, show (0 : Nat) + 31 = 31 from rfl, show pc x 0 = 0 from rfl] at e
    rw [e] at K
    rw [show (0 : Int) + (pc x 31 - 0) = pc x 31 by omega] at K
    exact K
/-- of three and more -/
def p3 (p : Int → Bool) : Int → Bool := fun k => decide (3 ≤ k) && p k
theorem hs_p3 {p : Int → Bool} {i : Int} : hs (p3 p) i 0 31 0 = hs p i 3 28 0 := by
  have e : hs (p3 p) i 0 31 0 = hs (p3 p) i 3 28 0 := rfl
  rw [e]
  exact hs_cong 28 3 0 (fun j hj => by unfold p3; simp [hj])
theorem fs_p3 {p : Int → Bool} : fs (p3 p) 3 = 0 := rfl
theorem fs_n {p : Int → Bool} {n : Nat} (h : ¬ p n = true) : fs p (n + 1) = fs p n := by show (if p n then _ else _) = _; rw [if_neg h]
theorem fs_y {p : Int → Bool} {n : Nat} (h : p n = true) : fs p (n + 1) = mor (fs p n) (1 * 2 ^ n) := by show (if p n then _ else _) = _; rw [if_pos h]
theorem c7_hm3 {G : Gm} {S : List Sh} {μ : Mem} {Q : Int → Mem → Prop} {p : Int → Bool} {i : Int} (hi : R32 i) (K : Q (hs p i 3 28 0) μ) : Ci G mX7_howManyOrOne [(0, fs (p3 p) 31), (0, i)] S μ Q := by
  have rg := fs_rg (p := p3 p) (n := 31) (by decide)
  rw [show (2 : Int) ^ 31 = 2147483648 by decide] at rg
  rw [← hs_p3] at K
  refine c7_howManyOrOne rg.1 (by omega) (fun k hk => ?_) hi K
  rw [fs_bt 31 (by decide) k (by omega)]
  by_cases c : p3 p k = true
  · rw [if_pos ⟨hk, c⟩]; simp [c]
  · rw [if_neg (fun q => c q.2)]; simp [c]
def ad (μ : Mem) (w a n : Int) : Int → Bool := fun t => decide ((-μ 22 w * n / μ 23 w) % t = a)
theorem st_added {G : Gm} {μ : Mem} {a0 a1 a2 a3 : Int} (h : Inv μ) (ha0 : R32 a0) (ha1 : R32 a1) (ha2 : R32 a2) (ha3 : R32 a3) : Both G mX7_added mX8_added [(0, a0), (0, a1), (0, a2), (0, a3)] μ := by
  have hW := h.W
  have hn := h.nw
  have wf := h.1
  have un : ¬ (0 ≤ a0 ∧ a0 < nW μ) → Ci G mX8_added [(2, 110), (0, a0), (0, a1), (0, a2), (0, a3)] SHl μ (fun r' μ2 => -1000000001 = r' ∧ R32 (-1000000001) ∧ Inv μ2) := fun c =>
    eX8_added (fun Φ hΦ hR => bX8_added_0 hΦ hR ⟨so_110, c8_isW h ha0 (fun x0 x1 => absurd ⟨x0, x1⟩ c) (fun _ => no_ ⟨rfl, by decide, h⟩)⟩)
  have ou : 0 ≤ a0 → a0 < nW μ → ¬ (0 ≤ a1 ∧ a1 ≤ 29 ∧ 0 ≤ a2 ∧ a2 ≤ 9999) → Ci G mX8_added [(2, 110), (0, a0), (0, a1), (0, a2), (0, a3)] SHl μ (fun r' μ2 => -1000000002 = r' ∧ R32 (-1000000002) ∧ Inv μ2) := fun x0 x1 c =>
    eX8_added (fun Φ hΦ hR => bX8_added_0 hΦ hR ⟨so_110, c8_isW h ha0 (fun _ _ => yes_ ⟨ha1, c_m_in (r64 ha1) ⟨by decide, by decide⟩ ⟨by decide, by decide⟩ (fun c1 c2 => yes'_ ⟨ha2, c_m_in (r64 ha2) ⟨by decide, by decide⟩ ⟨by decide, by decide⟩ (fun c3 c4 => absurd ⟨c1, c2, c3, c4⟩ c) (fun _ => no_ ⟨rfl, by decide, h⟩)⟩) (fun _ => no'_ ⟨rfl, by decide, h⟩)⟩) (fun d => absurd ⟨x0, x1⟩ d)⟩)
  refine eX7_added (fun Φ hΦ hR => bX7_added_0 hΦ hR ⟨so_0, c7_hasW h ha0 (fun x0 x1 => yes_ ⟨ha1, fun c => ou x0 x1 (by omega), fun c1 => ⟨fun c => ou x0 x1 (by omega), fun c2 => ⟨ha2, fun c => ou x0 x1 (by omega), fun c3 => ⟨fun c4 => ?_, fun c => ou x0 x1 (by omega)⟩⟩⟩⟩) (fun c => no_ (un c))⟩)
  obtain ⟨b1, b2⟩ := h.r22 x0 x1
  have m1 := bd_mul (a := -μ 22 a0) (b := a2) (A := 24300000) (B := 9999) ⟨by omega, by omega⟩ ⟨by omega, by omega⟩ (by decide)
  have m2 := ediv_bd (x := -μ 22 a0 * a2) (y := μ 23 a0) (B := 24300000 * 9999) b1.1 m1 (by decide)
  have tr : R64 (-μ 22 a0 * a2 / μ 23 a0) := ⟨by omega, by omega⟩
  let p : Int → Bool := ad μ a0 a1 a2
  have pt : ∀ t, p t = true ↔ (-μ 22 a0 * a2 / μ 23 a0) % t = a1 := fun t => by simp [p, ad]
  rw [wf_0_3 wf, wf_21_0 wf, wf_21_1 wf]
  refine ⟨so_21, ai_22 x0 (by omega), ai_23 x0 (by omega), c_floorPart ⟨by omega, by omega⟩ (by omega) (by omega) ?_⟩
  have rr := hs_r (p := p) (i := a3) 28 3 0 (by decide) (by decide) (by decide) (by decide)
  have ref : Ci G mX8_added [(2, 110), (0, a0), (0, a1), (0, a2), (0, a3)] SHl μ (fun r' μ2 => hs p a3 3 28 0 = r' ∧ R32 (hs p a3 3 28 0) ∧ Inv μ2) := by
    refine eX8_added (fun Φ hΦ hR => bX8_added_0 hΦ hR ⟨so_110, c8_isW h ha0 (fun _ _ => yes_ ⟨ha1, c_m_in (r64 ha1) ⟨by decide, by decide⟩ ⟨by decide, by decide⟩ (fun _ _ => yes'_ ⟨ha2, c_m_in (r64 ha2) ⟨by decide, by decide⟩ ⟨by decide, by decide⟩ (fun _ _ => yes_ (c8_rates h (fun μ' r => ?_))) (fun d => absurd ⟨by omega, by omega⟩ d)⟩) (fun d => absurd ⟨by omega, by omega⟩ d)⟩) (fun d => absurd ⟨x0, x1⟩ d)⟩)
    have hi := RN_inv h r
    have e := r.2.1 a0 x0 x1
    rw [wf_110_27 hi.1, wf_110_28 hi.1, e.1, e.2]
    refine ⟨ai_122 x0 (by omega), ai_123 x0 (by omega), c_m_down ⟨by omega, by omega⟩ (by omega) (by omega) ?_⟩
    have loop : ∀ (m : Nat) (t f : Int), 0 ≤ f → f ≤ t → 3 ≤ t → t + m = 31 → hs p a3 t m f = hs p a3 3 28 0 → Ex G Φ 9 69 [some (2, 110), some (0, a0), some (0, a1), some (0, a2), some (0, a3), some (1, -μ 22 a0 * a2 / μ 23 a0), none, some (0, f), some (0, t)] [] SHl μ' 0 0 := by
      intro m
      induction m with
      | zero =>
        intro t f f0 f1 t0 ht K
        have K : (if a3 = -1 then f else -1) = _ := K
        refine bX8_added_69 hΦ hR ⟨⟨by omega, by omega⟩, fun _ => ⟨ha3, fun c => ⟨?_, ⟨by omega, by omega⟩, hi⟩, fun c => ⟨?_, ⟨by omega, by omega⟩, hi⟩⟩, fun c => absurd (by omega) c⟩
        · rw [if_neg c] at K; exact K.symm
        · rw [if_pos c] at K; exact K.symm
      | succ m ih =>
        intro t f f0 f1 t0 ht K
        have em := emod_rg (x := -μ 22 a0 * a2 / μ 23 a0) (y := t) (by omega)
        refine bX8_added_69 hΦ hR ⟨⟨by omega, by omega⟩, fun c => absurd c (by omega), fun _ => c_m_over tr (by omega) (by omega) ⟨⟨by omega, by omega⟩, ha1, fun c => ?_, fun c => ⟨⟨by omega, by omega⟩, ha3, fun d => ?_, fun d => ⟨?_, ⟨by omega, by omega⟩, hi⟩⟩⟩⟩
        · rw [hs_n (fun q => c ((pt t).mp q))] at K
          exact ih (t + 1) f f0 (by omega) (by omega) (by omega) K
        · rw [hs_yn ((pt t).mpr c) d] at K
          exact ih (t + 1) (f + 1) (by omega) (by omega) (by omega) (by omega) K
        · rw [hs_y ((pt t).mpr c) d] at K
          exact K.symm
    exact loop 28 3 0 (by decide) (by decide) (by decide) (by decide) rfl
  have loop : ∀ (m t : Nat), 3 ≤ t → t + m = 31 → Ex G Φ 9 68 [some (2, 0), some (0, a0), some (0, a1), some (0, a2), some (0, a3), some (1, -μ 22 a0 * a2 / μ 23 a0), none, some (0, fs (p3 p) t), some (0, (t : Int))] [] SHl μ 0 0 := by
    intro m
    induction m with
    | zero =>
      intro t t0 ht
      obtain rfl : t = 31 := by omega
      exact bX7_added_68 hΦ hR ⟨⟨by decide, by decide⟩, fun _ => c7_hm3 ha3 ref, fun c => absurd (by decide) c⟩
    | succ m ih =>
      intro t t0 ht
      have nx := ih (t + 1) (by omega) (by omega)
      rw [show (((t + 1 : Nat)) : Int) = (t : Int) + 1 by omega] at nx
      have em := emod_rg (x := -μ 22 a0 * a2 / μ 23 a0) (y := (t : Int)) (by omega)
      have q3 : p3 p t = true ↔ p t = true := by unfold p3; simp; intro _; omega
      refine bX7_added_68 hΦ hR ⟨⟨by omega, by omega⟩, fun c => absurd c (by omega), fun _ => c_leftOver tr (by omega) (by omega) ⟨ha1, ⟨by omega, by omega⟩, r64 ha1, fun c => ?_, fun c => ⟨by omega, by omega, ?_⟩⟩⟩
      · rw [fs_n (fun q => c ((pt t).mp (q3.mp q)))] at nx; exact nx
      · rw [fs_y (q3.mpr ((pt t).mpr c))] at nx; rw [nat_pw]; exact nx
  exact loop 28 3 (by decide) (by decide)
