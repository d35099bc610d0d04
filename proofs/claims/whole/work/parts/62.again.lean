/-! ROUNDS: days in which some wheels stand again as they do -/
def ow (μ : Mem) (w : Int) : Int := (μ 23 w * μ (wW μ + 1) w) / (Int.gcd (μ 22 w) (μ (wW μ + 1) w) : Int)
def rd (o : Int → Int) (q : Int → Bool) (r0 : Int) : Nat → Int
  | 0 => r0
  | n + 1 => if 999999999 < rd o q r0 n then rd o q r0 n else if q n = true then rd o q r0 n / (Int.gcd (rd o q r0 n) (o n) : Int) * o n else rd o q r0 n
theorem rd_big {o : Int → Int} {q : Int → Bool} {r0 : Int} {n : Nat} (h : 999999999 < rd o q r0 n) : rd o q r0 (n + 1) = rd o q r0 n := by
  show (if 999999999 < rd o q r0 n then rd o q r0 n else _) = _
  rw [if_pos h]
theorem rd_no {o : Int → Int} {q : Int → Bool} {r0 : Int} {n : Nat} (h : ¬ q n = true) : rd o q r0 (n + 1) = rd o q r0 n := by
  show (if 999999999 < rd o q r0 n then rd o q r0 n else if q n = true then _ else rd o q r0 n) = _
  rw [if_neg h]; split <;> rfl
theorem rd_yes {o : Int → Int} {q : Int → Bool} {r0 : Int} {n : Nat} (h : ¬ 999999999 < rd o q r0 n) (hq : q n = true) : rd o q r0 (n + 1) = rd o q r0 n / (Int.gcd (rd o q r0 n) (o n) : Int) * o n := by
  show (if 999999999 < rd o q r0 n then rd o q r0 n else if q n = true then rd o q r0 n / (Int.gcd (rd o q r0 n) (o n) : Int) * o n else rd o q r0 n) = _
  rw [if_neg h, if_pos hq]
theorem rd_st {o : Int → Int} {q : Int → Bool} {r0 : Int} {n : Nat} (h : 999999999 < rd o q r0 n) : ∀ d : Nat, rd o q r0 (n + d) = rd o q r0 n
  | 0 => rfl
  | d + 1 => by
    have e := rd_st h d
    have := rd_big (o := o) (q := q) (r0 := r0) (n := n + d) (by rw [e]; exact h)
    rw [← Nat.add_assoc, this, e]
theorem rd_none {o : Int → Int} {q : Int → Bool} {r0 : Int} : ∀ n : Nat, (∀ j : Nat, j < n → ¬ q j = true) → rd o q r0 n = r0
  | 0, _ => rfl
  | n + 1, h => by rw [rd_no (h n (by omega)), rd_none n (fun j hj => h j (by omega))]
/-- one step of a least common multiple -/
theorem lcm_step {r o : Int} (hr : 1 ≤ r ∧ r ≤ 999999999) (ho : 1 ≤ o ∧ o ≤ 24300000) : (1 ≤ (Int.gcd r o : Int) ∧ (Int.gcd r o : Int) ≤ o) ∧ (1 ≤ r / (Int.gcd r o : Int) * o ∧ r / (Int.gcd r o : Int) * o ≤ 24299999975700000) ∧ r ∣ r / (Int.gcd r o : Int) * o ∧ o ∣ r / (Int.gcd r o : Int) * o := by
  have g0 : 0 < Int.gcd r o := Int.gcd_pos_of_ne_zero_left _ (by omega)
  have d1 : (Int.gcd r o : Int) ∣ r := Int.gcd_dvd_left ..
  have d2 : (Int.gcd r o : Int) ∣ o := Int.gcd_dvd_right ..
  have gl : (Int.gcd r o : Int) ≤ o := Int.le_of_dvd (by omega) d2
  obtain ⟨a, ea⟩ := d1
  obtain ⟨b, eb⟩ := d2
  generalize hg : (Int.gcd r o : Int) = g at *
  have hg0 : 0 < g := by omega
  have q : r / g = a := by rw [ea]; exact Int.mul_ediv_cancel_left _ (by omega)
  have ap : 1 ≤ a := by
    rcases Int.lt_or_le 0 a with c | c
    · omega
    · have : g * a ≤ 0 := Int.mul_nonpos_of_nonneg_of_nonpos (by omega) c
      omega
  have al : a ≤ r := by
    have : 1 * a ≤ g * a := Int.mul_le_mul_of_nonneg_right (by omega) (by omega)
    omega
  rw [q]
  refine ⟨⟨by omega, gl⟩, ⟨?_, ?_⟩, ⟨b, ?_⟩, ⟨a, Int.mul_comm _ _⟩⟩
  · have : 1 * 1 ≤ a * o := Int.mul_le_mul (by omega) (by omega) (by omega) (by omega)
    omega
  · have h1 : a * o ≤ 999999999 * o := Int.mul_le_mul_of_nonneg_right (by omega) (by omega)
    have h2 : (999999999 : Int) * o ≤ 999999999 * 24300000 := Int.mul_le_mul_of_nonneg_left (by omega) (by omega)
    omega
  · calc a * o = a * (g * b) := by rw [← eb]
      _ = g * a * b := by rw [← Int.mul_assoc, Int.mul_comm a g]
      _ = r * b := by rw [← ea]
theorem ow_rg {μ : Mem} (h : Inv μ) {w : Int} (w0 : 0 ≤ w) (w1 : w < nW μ) : (1 ≤ (Int.gcd (μ 22 w) (μ (wW μ + 1) w) : Int) ∧ (Int.gcd (μ 22 w) (μ (wW μ + 1) w) : Int) ≤ 30) ∧ (Int.gcd (μ 22 w) (μ (wW μ + 1) w) : Int) ∣ μ 23 w * μ (wW μ + 1) w ∧ (1 ≤ ow μ w ∧ ow μ w ≤ 24300000) ∧ (1 ≤ μ 23 w * μ (wW μ + 1) w ∧ μ 23 w * μ (wW μ + 1) w ≤ 24300000) := by
  have hT := h.T w0 w1
  obtain ⟨b1, b2⟩ := h.r22 w0 w1
  have g0 : 0 < Int.gcd (μ 22 w) (μ (wW μ + 1) w) := Int.gcd_pos_of_ne_zero_right _ (by omega)
  have d2 : (Int.gcd (μ 22 w) (μ (wW μ + 1) w) : Int) ∣ μ (wW μ + 1) w := Int.gcd_dvd_right ..
  have gl : (Int.gcd (μ 22 w) (μ (wW μ + 1) w) : Int) ≤ μ (wW μ + 1) w := Int.le_of_dvd (by omega) d2
  have m1 := bd_mul (a := μ 23 w) (b := μ (wW μ + 1) w) (A := 810000) (B := 30) ⟨by omega, by omega⟩ ⟨by omega, by omega⟩ (by decide)
  have m0 : μ (wW μ + 1) w ≤ μ 23 w * μ (wW μ + 1) w := by
    have : 1 * μ (wW μ + 1) w ≤ μ 23 w * μ (wW μ + 1) w := Int.mul_le_mul_of_nonneg_right (by omega) (by omega)
    omega
  have g0' : (0 : Int) < (Int.gcd (μ 22 w) (μ (wW μ + 1) w) : Int) := by omega
  unfold ow
  generalize (Int.gcd (μ 22 w) (μ (wW μ + 1) w) : Int) = g at *
  generalize hp : μ 23 w * μ (wW μ + 1) w = p at *
  have d3 : g ∣ p := by rw [← hp]; exact Int.dvd_trans d2 (Int.dvd_mul_left _ _)
  have e1 := ediv_bd (x := p) (y := g) (B := 24300000) (by omega) ⟨by omega, by omega⟩ (by decide)
  have e2 : 1 ≤ p / g := by
    have := (Int.le_ediv_iff_mul_le (a := 1) (b := p) (c := g) (by omega)).mpr (by omega)
    omega
  exact ⟨⟨by omega, by omega⟩, d3, ⟨e2, e1.2⟩, by omega, by omega⟩
theorem rd_rg {μ : Mem} (h : Inv μ) {q : Int → Bool} : ∀ n : Nat, (n : Int) ≤ nW μ → 1 ≤ rd (ow μ) q 1 n ∧ rd (ow μ) q 1 n ≤ 24299999975700000
  | 0, _ => ⟨by show (1 : Int) ≤ 1; decide, by show (1 : Int) ≤ 24299999975700000; decide⟩
  | n + 1, hn => by
    have ih := rd_rg h n (by omega) (q := q)
    have o := (ow_rg h (w := (n : Int)) (by omega) (by omega)).2.2.1
    by_cases c : 999999999 < rd (ow μ) q 1 n
    · rw [rd_big c]; exact ih
    · by_cases d : q n = true
      · rw [rd_yes c d]
        exact (lcm_step ⟨ih.1, by omega⟩ o).2.1
      · rw [rd_no d]; exact ih
theorem c7_roundOf {G : Gm} {Q : Int → Mem → Prop} {μ : Mem} {set : Int} (h : Inv μ) (q : Int → Bool) (hq : ∀ w, 0 ≤ w → w < nW μ → (bt_ (mand set (μ 21 4)) w = 1 ↔ q w = true)) (k : Q (rd (ow μ) q (if mand set (μ 21 4) = 0 then 0 else 1) (nW μ).toNat) μ) : Cj G mX7_roundOf [(2, 0), (0, set)] SHl μ Q := by
  have wf := h.1
  have hW := h.2.1.1
  have nw := h.nw
  refine eX7_roundOf (fun Φ hΦ hR => bX7_roundOf_0 hΦ hR ⟨so_0, ?_⟩)
  rw [wf_0_3 wf]
  generalize ht : mand set (μ 21 4) = t at *
  have tr : R32 t := by rw [← ht]; exact mand_r _ _
  have loop : ∀ (r0 : Int), (r0 = 1 ∨ (r0 = 0 ∧ t = 0)) → Q (rd (ow μ) q r0 (nW μ).toNat) μ → ∀ (m n : Nat), (n : Int) + m = nW μ → Ex G Φ 9 23 [some (2, 0), some (0, set), some (0, t), some (1, rd (ow μ) q r0 n), none, some (0, (n : Int)), none, none, none] [] SHl μ 0 0 := by
    intro r0 hr0 K m
    have rr : ∀ n : Nat, (n : Int) ≤ nW μ → 0 ≤ rd (ow μ) q r0 n ∧ rd (ow μ) q r0 n ≤ 24299999975700000 := fun n hn => by
      rcases hr0 with e | ⟨e, e2⟩
      · rw [e]; have := rd_rg h (q := q) n hn; omega
      · have := rd_none (o := ow μ) (q := q) (r0 := r0) n (fun j hj z => by
          have := (hq j (by omega) (by omega)).mpr z
          rw [e2, bt_zero] at this
          exact absurd this (by decide))
        omega
    induction m with
    | zero =>
      intro n hn
      refine bX7_roundOf_23 hΦ hR ⟨so_0, so_W hW, ⟨by omega, by omega⟩, ⟨?_, ?_⟩, fun _ => ?_, fun c => absurd (show nW μ ≤ n by omega) c⟩
      · show _ ≤ nW μ; omega
      · show nW μ ≤ _; omega
      · rw [show n = (nW μ).toNat by omega]; exact K
    | succ m ih =>
      intro n hn
      have r := rr n (by omega)
      have nx := ih (n + 1) (by omega)
      rw [show (((n + 1 : Nat)) : Int) = (n : Int) + 1 by omega] at nx
      have hqn := hq n (by omega) (by omega)
      refine bX7_roundOf_23 hΦ hR ⟨so_0, so_W hW, ⟨by omega, by omega⟩, ⟨?_, ?_⟩, fun c => absurd (show nW μ ≤ n from c) (by omega), fun _ => ⟨⟨by omega, by omega⟩, fun c => ?_, fun c => ⟨tr, by omega, by omega, R32_one (bt_rg t n), fun d => ?_, fun d => ?_⟩⟩⟩
      · show _ ≤ nW μ; omega
      · show nW μ ≤ _; omega
      · have := rd_st c ((nW μ).toNat - n)
        rw [show n + ((nW μ).toNat - n) = (nW μ).toNat by omega] at this
        rw [this] at K; exact K
      · have d : ¬ bt_ t (n : Int) = 1 := d
        rw [rd_no (fun z => d (hqn.mpr z))] at nx; exact nx
      · have d : bt_ t (n : Int) = 1 := d
        have t0 : t ≠ 0 := fun e => by rw [e, bt_zero] at d; exact absurd d (by decide)
        have r1 : 1 ≤ rd (ow μ) q r0 n := by
          rcases hr0 with e | ⟨e, e2⟩
          · rw [e]; exact (rd_rg h (q := q) n (by omega)).1
          · exact absurd e2 t0
        obtain ⟨o1, o2, o3, o4⟩ := ow_rg h (w := (n : Int)) (by omega) (by omega)
        have hT := h.T (w := (n : Int)) (by omega) (by omega)
        obtain ⟨b1, b2⟩ := h.r22 (w := (n : Int)) (by omega) (by omega)
        have ls := lcm_step (r := rd (ow μ) q r0 n) (o := ow μ n) ⟨r1, by omega⟩ o3
        rw [wf_W5 wf hW, wf_0_3 wf, wf_21_0 wf, wf_21_1 wf]
        refine ⟨ai_W1 hW (by omega) (by omega), so_21, ai_23 (by omega) (by omega), ⟨?_, ?_⟩, ai_22 (by omega) (by omega), c_common ⟨by omega, by omega⟩ ⟨?_, ?_⟩ (Or.inr ?_) ⟨⟨?_, ?_⟩, ⟨?_, ?_⟩, ?_, ?_⟩⟩
        · show _ ≤ μ (wW μ + 1) n; omega
        · show μ (wW μ + 1) n ≤ _; omega
        · show _ < μ (wW μ + 1) n; omega
        · show μ (wW μ + 1) n < _; omega
        · show μ (wW μ + 1) n ≠ 0; omega
        · show _ ≤ μ 23 n * μ (wW μ + 1) n; omega
        · show μ 23 n * μ (wW μ + 1) n ≤ _; omega
        · show _ ≤ (Int.gcd (μ 22 n) (μ (wW μ + 1) n) : Int); omega
        · show (Int.gcd (μ 22 n) (μ (wW μ + 1) n) : Int) ≤ _; omega
        · show (Int.gcd (μ 22 n) (μ (wW μ + 1) n) : Int) ≠ 0; omega
        · have e : Int.tdiv (μ 23 n * μ (μ 0 1 + 1) n) (Int.gcd (μ 22 n) (μ (μ 0 1 + 1) n) : Int) = ow μ n := tdiv_dvd o2 (show (Int.gcd (μ 22 n) (μ (wW μ + 1) n) : Int) ≠ 0 by omega)
          rw [e]
          refine c_common ⟨by omega, by omega⟩ ⟨by omega, by omega⟩ (Or.inl (by omega)) ⟨⟨by omega, by omega⟩, by omega, ?_⟩
          rw [rd_yes c (hqn.mp d)] at nx
          rw [tdiv_dvd (Int.gcd_dvd_left ..) (by omega)]
          exact nx
  refine ⟨so_21, tr, fun c => ?_, fun c => ?_⟩
  · rw [if_neg c] at k
    exact loop 1 (Or.inl rfl) k (nW μ).toNat 0 (by omega)
  · rw [if_pos c] at k
    exact loop 0 (Or.inr ⟨rfl, c⟩) k (nW μ).toNat 0 (by omega)
theorem gcd_own {a b t : Int} (h : Int.gcd a b = 1) : Int.gcd (t * b) a = Int.gcd a t := by
  rw [Int.gcd_comm a t]
  show Nat.gcd (t * b).natAbs a.natAbs = Nat.gcd t.natAbs a.natAbs
  rw [Int.natAbs_mul]
  have : Nat.Coprime b.natAbs a.natAbs := by rw [Nat.coprime_comm]; exact h
  exact Nat.Coprime.gcd_mul_right_cancel t.natAbs this
def qa (μ : Mem) : Int → Bool := fun w => decide (μ 22 w ≠ 0)
theorem st_again {G : Gm} {μ : Mem} (h : Inv μ) : Both G mX7_again mX8_again [] μ := by
  have wf := h.1
  have nw := h.nw
  have im := h.2.2.2.2.2.2.2
  have p8 := pw10 (n := (nW μ).toNat) (by omega)
  have tr := im.2.1
  have mm : mand (μ 21 4) (μ 21 4) = μ 21 4 := by
    refine bt_ext (mand_r _ _) ⟨by omega, by omega⟩ (fun k hk => ?_)
    rw [bt_mand ⟨by omega, by omega⟩ ⟨by omega, by omega⟩ hk]
    rcases bt_01 (x := μ 21 4) (k := (k : Int)) with e | e <;> rw [e] <;> decide
  refine eX7_again (fun Φ hΦ hR => bX7_again_0 hΦ hR ⟨so_0, ?_⟩)
  rw [wf_0_3 wf]
  refine ⟨so_21, c7_roundOf h (qa μ) (fun w w0 w1 => by rw [mm, im.2.2 w w0 w1]; simp [qa]) ?_⟩
  rw [mm]
  have t0 : μ 21 4 = 0 ↔ ∀ j : Nat, (j : Int) < nW μ → ¬ qa μ j = true := by
    constructor
    · intro e j hj z
      have := (im.2.2 j (by omega) hj).mpr (by simpa [qa] using z)
      rw [e, bt_zero] at this; exact absurd this (by decide)
    · intro hh
      refine bt_ext ⟨by omega, by omega⟩ R32_0 (fun k hk => ?_)
      rw [bt_zero]
      by_cases c : (k : Int) < nW μ
      · rcases bt_01 (x := μ 21 4) (k := (k : Int)) with e | e
        · exact e
        · exact absurd (by simpa [qa] using (im.2.2 k (by omega) c).mp e) (hh k c)
      · exact bt_lt tr.1 tr.2 (by omega)
  have rg1 := rd_rg h (q := qa μ) (nW μ).toNat (by omega)
  have v0 : μ 21 4 = 0 → rd (ow μ) (qa μ) 0 (nW μ).toNat = 0 := fun e => rd_none _ (fun j hj => t0.mp e j (by omega))
  generalize hV : rd (ow μ) (qa μ) (if μ 21 4 = 0 then 0 else 1) (nW μ).toNat = V
  have Vr : 0 ≤ V ∧ V ≤ 24299999975700000 := by
    rw [← hV]
    by_cases e : μ 21 4 = 0
    · rw [if_pos e, v0 e]; decide
    · rw [if_neg e]; omega
  have ref : ∀ r, r = (if V < 1 ∨ 999999999 < V then -1 else V) → R32 r → Ci G mX8_again [(2, 110)] SHl μ (fun r' μ2 => r = r' ∧ R32 r ∧ Inv μ2) := by
    intro r hr rr
    refine eX8_again (fun Φ hΦ hR => bX8_again_0 hΦ hR ⟨so_110, c8_rates h (fun κ rn => ?_)⟩)
    have hi := RN_inv h rn
    have wk := hi.1
    have e2 : κ 110 2 = nW μ := (rn.1 _ _ (by unfold FR' FR; omega)).trans nw.1.symm
    have loop : ∀ (m n : Nat) (A : Int), (n : Int) + m = nW μ → ((A = 0 ∧ ∀ j : Nat, j < n → ¬ qa μ j = true) ∨ (A = rd (ow μ) (qa μ) 1 n ∧ A ≤ 999999999 ∧ ∃ j : Nat, j < n ∧ qa μ j = true)) → Ex G Φ 8 8 [some (2, 110), some (1, A), none, some (0, (n : Int)), none, none, none, none] [] SHl κ 0 0 := by
      intro m
      induction m with
      | zero =>
        intro n A hn hA
        have A0 : 0 ≤ A ∧ A ≤ 999999999 := by
          rcases hA with ⟨e, -⟩ | ⟨e, e2, -⟩
          · omega
          · have := rd_rg h (q := qa μ) n (by omega); omega
        refine bX8_again_8 hΦ hR ⟨so_110, ⟨by omega, by omega⟩, ?_⟩
        rw [e2]
        refine ⟨⟨by omega, by omega⟩, fun _ => ⟨⟨by omega, by omega⟩, fun c => ⟨?_, rr, hi⟩, fun c => ⟨?_, rr, hi⟩⟩, fun c => absurd (by omega) c⟩
        · rcases hA with ⟨e, -⟩ | ⟨e, e3, j, hj, hq⟩
          · exact absurd e c
          · have tn : μ 21 4 ≠ 0 := fun z => t0.mp z j (by omega) hq
            rw [if_neg tn, show (nW μ).toNat = n by omega, ← e] at hV
            rw [hr, ← hV, if_neg (by omega)]
        · rcases hA with ⟨e, hno⟩ | ⟨e, e3, j, hj, hq⟩
          · have tz : μ 21 4 = 0 := t0.mpr (fun j hj => hno j (by omega))
            rw [if_pos tz, v0 tz] at hV
            rw [hr, ← hV, if_pos (by omega)]
          · have := rd_rg h (q := qa μ) n (by omega); omega
      | succ m ih =>
        intro n A hn hA
        have A0 : 0 ≤ A ∧ A ≤ 999999999 := by
          rcases hA with ⟨e, -⟩ | ⟨e, e2, -⟩
          · omega
          · have := rd_rg h (q := qa μ) n (by omega); omega
        have nx : ∀ A', ((A' = 0 ∧ ∀ j : Nat, j < n + 1 → ¬ qa μ j = true) ∨ (A' = rd (ow μ) (qa μ) 1 (n + 1) ∧ A' ≤ 999999999 ∧ ∃ j : Nat, j < n + 1 ∧ qa μ j = true)) → Ex G Φ 8 8 [some (2, 110), some (1, A'), none, some (0, (n : Int) + 1), none, none, none, none] [] SHl κ 0 0 := fun A' hA' => by
          have := ih (n + 1) A' (by omega) hA'
          rw [show (((n + 1 : Nat)) : Int) = (n : Int) + 1 by omega] at this
          exact this
        have e1 := rn.2.1 n (by omega) (by omega)
        have hT := h.T (w := (n : Int)) (by omega) (by omega)
        have e13 : κ 113 n = μ (wW μ + 1) n := (rn.1 _ _ (by unfold FR' FR; omega)).trans hT.1.symm
        obtain ⟨b1, b2⟩ := h.r22 (w := (n : Int)) (by omega) (by omega)
        obtain ⟨o1, o2, o3, o4⟩ := ow_rg h (w := (n : Int)) (by omega) (by omega)
        have cop : Int.gcd (μ 22 n) (μ 23 n) = 1 := (h.G (w := (n : Int)) (by omega) (by omega)).1.1
        have rn1 := rd_rg h (q := qa μ) n (by omega)
        refine bX8_again_8 hΦ hR ⟨so_110, ⟨by omega, by omega⟩, ?_⟩
        rw [e2, wf_110_27 wk, wf_110_28 wk, wf_110_13 wk, e1.1, e1.2, e13]
        refine ⟨⟨by omega, by omega⟩, fun c => absurd c (by omega), fun _ => ⟨ai_122 (by omega) (by omega), ⟨by omega, by omega⟩, fun c => ?_, fun c => ⟨ai_113 (by omega) (by omega), ⟨by omega, by omega⟩, ai_123 (by omega) (by omega), c_m_common ?_ ⟨by omega, by omega⟩ ?_⟩⟩⟩
        · have nq : ¬ qa μ (n : Int) = true := by simp [qa, c]
          refine nx A ?_
          rcases hA with ⟨e, hno⟩ | ⟨e, e3, j, hj, hq⟩
          · exact Or.inl ⟨e, fun j hj => by by_cases z : j = n; rw [z]; exact nq; exact hno j (by omega)⟩
          · exact Or.inr ⟨by rw [rd_no nq]; exact e, e3, j, by omega, hq⟩
        · rw [Int.mul_comm]; exact ⟨by omega, by omega⟩
        · have yq : qa μ (n : Int) = true := by simp [qa, c]
          rw [gcd_own cop, Int.mul_comm (μ (wW μ + 1) n) (μ 23 n)]
          have eo : Int.tdiv (μ 23 n * μ (wW μ + 1) n) (Int.gcd (μ 22 n) (μ (wW μ + 1) n) : Int) = ow μ n := tdiv_dvd o2 (by omega)
          rw [eo]
          have none_ : rd (ow μ) (qa μ) 1 (n + 1) > 999999999 → -1 = r := fun big => by
            have tn : μ 21 4 ≠ 0 := fun z => t0.mp z n (by omega) yq
            have := rd_st big ((nW μ).toNat - (n + 1))
            rw [show n + 1 + ((nW μ).toNat - (n + 1)) = (nW μ).toNat by omega] at this
            rw [if_neg tn, this] at hV
            rw [hr, ← hV, if_pos (Or.inr big)]
          refine ⟨⟨by omega, by omega⟩, ⟨by omega, by omega⟩, by omega, ⟨by omega, by omega⟩, fun d => ?_, fun d => ?_⟩
          · rcases hA with ⟨e, hno⟩ | ⟨e, e3, hx⟩
            · exact absurd e d
            · have ls := lcm_step (r := A) (o := ow μ n) ⟨by omega, by omega⟩ o3
              have ry := rd_yes (o := ow μ) (q := qa μ) (r0 := 1) (n := n) (by omega) yq
              rw [← e] at ry
              refine c_m_common ⟨by omega, by omega⟩ ⟨by omega, by omega⟩ ⟨⟨by omega, by omega⟩, by omega, ?_⟩
              rw [tdiv_dvd (Int.gcd_dvd_left ..) (by omega)]
              refine ⟨⟨by omega, by omega⟩, fun le => nx _ (Or.inr ⟨ry.symm, le, n, by omega, yq⟩), fun gt => ⟨(none_ (by rw [ry]; omega)).symm, rr, hi⟩⟩
          · rcases hA with ⟨e, hno⟩ | ⟨e, e3, hx⟩
            · have r1 : rd (ow μ) (qa μ) 1 n = 1 := rd_none n hno
              have ry := rd_yes (o := ow μ) (q := qa μ) (r0 := 1) (n := n) (by omega) yq
              rw [r1, Int.one_gcd, show ((1 : Nat) : Int) = 1 from rfl, Int.ediv_one, Int.one_mul] at ry
              refine ⟨⟨by omega, by omega⟩, fun le => nx _ (Or.inr ⟨ry.symm, le, n, by omega, yq⟩), fun gt => ⟨(none_ (by rw [ry]; omega)).symm, rr, hi⟩⟩
            · omega
    exact loop (nW μ).toNat 0 0 (by omega) (Or.inl ⟨rfl, fun j hj => by omega⟩)
  refine ⟨⟨by omega, by omega⟩, fun c => ref _ (by rw [if_pos (Or.inl c)]) (by decide), fun c => ⟨fun d => ref _ (by rw [if_neg (by omega)]) ⟨by omega, by omega⟩, fun d => ref _ (by rw [if_pos (by omega)]) (by decide)⟩⟩
