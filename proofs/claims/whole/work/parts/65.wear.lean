/-! WEAR -/
theorem wear_up {X r : Int} (hX : 1 ≤ X) (hr : 1 ≤ r) : 0 ≤ (X + r - 1) / r ∧ (X + r - 1) / r ≤ X := by
  have h0 : 0 ≤ (X + r - 1) / r := Int.ediv_nonneg (by omega) (by omega)
  have h1 : (X + r - 1) / r * r ≤ X + r - 1 := Int.ediv_mul_le _ (by omega)
  refine ⟨h0, ?_⟩
  generalize (X + r - 1) / r = q at *
  rcases Int.lt_or_le X q with c | c
  · have h2 : (X + 1) * r ≤ q * r := Int.mul_le_mul_of_nonneg_right (by omega) (by omega)
    rw [Int.add_mul, Int.one_mul] at h2
    have h3 : X * 1 ≤ X * r := Int.mul_le_mul_of_nonneg_left hr (by omega)
    omega
  · exact c
/-- teeth of a link's wheels, what divides both -/
def wa (μ : Mem) (l : Int) : Int := μ (wW μ + 1) (μ (wW μ + 5) l)
def wb (μ : Mem) (l : Int) : Int := μ (wW μ + 1) (μ (wW μ + 6) l)
def wg (μ : Mem) (l : Int) : Int := (Int.gcd (wa μ l) (wb μ l) : Int)
theorem wear_rg {μ : Mem} (h : Inv μ) {l : Int} (l0 : 0 ≤ l) (l1 : l < nL μ) : (3 ≤ wa μ l ∧ wa μ l ≤ 30) ∧ (3 ≤ wb μ l ∧ wb μ l ≤ 30) ∧ (1 ≤ wg μ l ∧ wg μ l ≤ 30) ∧ wg μ l ∣ wa μ l ∧ wg μ l ∣ wb μ l ∧ (1 ≤ wb μ l / wg μ l ∧ wb μ l / wg μ l ≤ 30) ∧ (1 ≤ wa μ l / wg μ l ∧ wa μ l / wg μ l ≤ 30) ∧ wa μ l * (wb μ l / wg μ l) = wa μ l / wg μ l * wb μ l := by
  obtain ⟨-, ⟨-, p0, p1⟩, ⟨-, q0, q1⟩, -⟩ := h.L l0 l1
  have ta := h.T p0 p1
  have tb := h.T q0 q1
  have a1 : 3 ≤ wa μ l ∧ wa μ l ≤ 30 := ta.2
  have b1 : 3 ≤ wb μ l ∧ wb μ l ≤ 30 := tb.2
  have d1 : wg μ l ∣ wa μ l := Int.gcd_dvd_left ..
  have d2 : wg μ l ∣ wb μ l := Int.gcd_dvd_right ..
  have g0 : 0 < Int.gcd (wa μ l) (wb μ l) := Int.gcd_pos_of_ne_zero_left _ (by omega)
  have g1 : 1 ≤ wg μ l := by show 1 ≤ (Int.gcd (wa μ l) (wb μ l) : Int); omega
  have g2 : wg μ l ≤ wa μ l := Int.le_of_dvd (by omega) d1
  have g3 : wg μ l ≤ wb μ l := Int.le_of_dvd (by omega) d2
  generalize wa μ l = A at *
  generalize wb μ l = B at *
  generalize wg μ l = g at *
  obtain ⟨a, rfl⟩ := d1
  obtain ⟨b, rfl⟩ := d2
  rw [Int.mul_ediv_cancel_left _ (by omega), Int.mul_ediv_cancel_left _ (by omega)]
  have pa : 1 ≤ a := by
    rcases Int.lt_or_le 0 a with c | c
    · omega
    · have : g * a ≤ 0 := Int.mul_nonpos_of_nonneg_of_nonpos (by omega) c
      omega
  have pb : 1 ≤ b := by
    rcases Int.lt_or_le 0 b with c | c
    · omega
    · have : g * b ≤ 0 := Int.mul_nonpos_of_nonneg_of_nonpos (by omega) c
      omega
  have la : 1 * a ≤ g * a := Int.mul_le_mul_of_nonneg_right (by omega) (by omega)
  have lb : 1 * b ≤ g * b := Int.mul_le_mul_of_nonneg_right (by omega) (by omega)
  refine ⟨a1, b1, ⟨g1, by omega⟩, Int.dvd_mul_right .., Int.dvd_mul_right .., ⟨pb, by omega⟩, ⟨pa, by omega⟩, ?_⟩
  simp only [Int.mul_assoc, Int.mul_left_comm, Int.mul_comm]
theorem c7_teethMet {G : Gm} {Q : Int → Mem → Prop} {μ : Mem} {l : Int} (h : Inv μ) (l0 : 0 ≤ l) (l1 : l < nL μ) (k : Q (wb μ l / wg μ l) μ) : Ci G mX7_teethMet [(2, 0), (0, l)] SHl μ Q := by
  have wf := h.1
  have hW := h.2.1.1
  have hl := h.nl
  have nw := h.nw
  obtain ⟨-, ⟨-, p0, p1⟩, ⟨-, q0, q1⟩, -⟩ := h.L l0 l1
  obtain ⟨a1, b1, g1, d1, d2, -⟩ := wear_rg h l0 l1
  refine eX7_teethMet (fun Φ hΦ hR => bX7_teethMet_0 hΦ hR ⟨so_0, ?_⟩)
  rw [wf_W9 wf hW, wf_W10 wf hW, wf_W5 wf hW]
  have a2 : R32 (μ (wW μ + 1) (μ (wW μ + 5) l)) := by show R32 (wa μ l); exact ⟨by omega, by omega⟩
  have b2 : R32 (μ (wW μ + 1) (μ (wW μ + 6) l)) := by show R32 (wb μ l); exact ⟨by omega, by omega⟩
  refine ⟨so_W hW, ai_W5 hW l0 (by omega), ai_W1 hW p0 (by omega), ai_W6 hW l0 (by omega), ai_W1 hW q0 (by omega), b2, a2, ?_⟩
  show Cj G mX7_common [(1, wa μ l), (1, wb μ l)] SHl μ _
  refine c_common ⟨by omega, by omega⟩ ⟨by omega, by omega⟩ (Or.inl (by omega)) ?_
  show R64 (wb μ l) ∧ (R64 (wg μ l) ∧ (wg μ l ≠ 0 ∧ Q (Int.tdiv (wb μ l) (wg μ l)) μ))
  rw [tdiv_dvd d2 (by omega)]
  exact ⟨⟨by omega, by omega⟩, ⟨by omega, by omega⟩, by omega, k⟩
def wd_ (μ : Mem) (l : Int) : Int := (wa μ l * (wb μ l / wg μ l) * μ 23 (μ (wW μ + 5) l) + ((μ 22 (μ (wW μ + 5) l)).natAbs : Int) - 1) / ((μ 22 (μ (wW μ + 5) l)).natAbs : Int)
theorem wear_m {μ : Mem} (h : Inv μ) {l : Int} (l0 : 0 ≤ l) (l1 : l < nL μ) : 1 ≤ wa μ l * (wb μ l / wg μ l) * μ 23 (μ (wW μ + 5) l) ∧ wa μ l * (wb μ l / wg μ l) * μ 23 (μ (wW μ + 5) l) ≤ 729000000 := by
  obtain ⟨-, ⟨-, p0, p1⟩, ⟨-, q0, q1⟩, -⟩ := h.L l0 l1
  obtain ⟨a1, b1, g1, d1, d2, e1, e2, e3⟩ := wear_rg h l0 l1
  obtain ⟨b2, b3⟩ := h.r22 p0 p1
  have m1 := bd_mul (a := wa μ l) (b := wb μ l / wg μ l) (A := 30) (B := 30) ⟨by omega, by omega⟩ ⟨by omega, by omega⟩ (by decide)
  have m2 : 1 * 1 ≤ wa μ l * (wb μ l / wg μ l) := Int.mul_le_mul (by omega) (by omega) (by omega) (by omega)
  generalize wa μ l * (wb μ l / wg μ l) = X at *
  have m3 := bd_mul (a := X) (b := μ 23 (μ (wW μ + 5) l)) (A := 900) (B := 810000) ⟨by omega, by omega⟩ ⟨by omega, by omega⟩ (by decide)
  have m4 : 1 * 1 ≤ X * μ 23 (μ (wW μ + 5) l) := Int.mul_le_mul (by omega) (by omega) (by omega) (by omega)
  exact ⟨by omega, by omega⟩
theorem st_wear {G : Gm} {μ : Mem} {a0 a1 : Int} (h : Inv μ) (ha0 : R32 a0) (ha1 : R32 a1) : Both G mX7_wear mX8_wear [(0, a0), (0, a1)] μ := by
  have wf := h.1
  have hW := h.2.1.1
  have hl := h.nl
  have nw := h.nw
  have ic := h.2.2.2.1.c
  have icr := ic.r h.2.1
  have cr : R32 (μ 29 2) := ⟨by omega, by omega⟩
  have un : ¬ (0 ≤ a0 ∧ a0 < nL μ) → Ci G mX8_wear [(2, 110), (0, a0), (0, a1)] SHl μ (fun r' μ2 => -1000000001 = r' ∧ R32 (-1000000001) ∧ Inv μ2) := fun c =>
    eX8_wear (fun Φ hΦ hR => bX8_wear_0 hΦ hR ⟨so_110, c8_isLink (x := a0) (by omega) ha0 (fun x0 x1 => absurd ⟨x0, by omega⟩ c) (fun _ => no_ ⟨rfl, by decide, h⟩)⟩)
  have ou : 0 ≤ a0 → a0 < nL μ → ¬ (0 ≤ a1 ∧ a1 ≤ 1) → Ci G mX8_wear [(2, 110), (0, a0), (0, a1)] SHl μ (fun r' μ2 => -1000000002 = r' ∧ R32 (-1000000002) ∧ Inv μ2) := fun x0 x1 c =>
    eX8_wear (fun Φ hΦ hR => bX8_wear_0 hΦ hR ⟨so_110, c8_isLink (x := a0) (by omega) ha0 (fun _ _ => yes_ ⟨ha1, c_m_in (r64 ha1) ⟨by decide, by decide⟩ ⟨by decide, by decide⟩ (fun c1 c2 => absurd ⟨c1, c2⟩ c) (fun _ => no_ ⟨rfl, by decide, h⟩)⟩) (fun d => absurd ⟨x0, by omega⟩ d)⟩)
  refine eX7_wear (fun Φ hΦ hR => bX7_wear_0 hΦ hR ⟨so_0, c7_hasLink wf h.2.1 ha0 (fun x0 x1 => yes_ ⟨ha1, fun c => ou x0 x1 (by omega), fun c1 => ⟨fun c2 => ⟨so_W hW, ?_⟩, fun c => ou x0 x1 (by omega)⟩⟩) (fun c => no_ (un c))⟩)
  obtain ⟨⟨k1, k1', k1''⟩, ⟨k2, p0, p1⟩, ⟨k3, q0, q1⟩, -⟩ := h.L x0 x1
  obtain ⟨a2, b2, g1, d1, d2, e1, e2, e3⟩ := wear_rg h x0 x1
  have ta := h.T p0 p1
  have tb := h.T q0 q1
  have wm := wear_m h x0 x1
  obtain ⟨r1, r2⟩ := h.r22 p0 p1
  have ea : μ 113 (μ (wW μ + 5) a0) = wa μ a0 := ta.1.symm
  have eb : μ 113 (μ (wW μ + 6) a0) = wb μ a0 := tb.1.symm
  have a3 : R32 (wa μ a0) := ⟨by omega, by omega⟩
  have b3 : R32 (wb μ a0) := ⟨by omega, by omega⟩
  have ref : ∀ {K : Int → Mem → Prop}, (μ (wW μ + 4) a0 ≠ 0 → K (-1000000003) μ) → (μ (wW μ + 4) a0 = 0 → a1 = 0 → K (wb μ a0 / wg μ a0) μ) → (μ (wW μ + 4) a0 = 0 → a1 = 1 → ∀ κ, RN μ κ → K (if bt_ (μ 29 2) a0 ≠ 0 then -1 else if μ 22 (μ (wW μ + 5) a0) = 0 then -1 else wd_ μ a0) κ) → Ci G mX8_wear [(2, 110), (0, a0), (0, a1)] SHl μ K := fun {K} k1_ k2_ k3_ => by
    refine eX8_wear (fun Φ hΦ hR => bX8_wear_0 hΦ hR ⟨so_110, c8_isLink (x := a0) (by omega) ha0 (fun _ _ => yes_ ⟨ha1, c_m_in (r64 ha1) ⟨by decide, by decide⟩ ⟨by decide, by decide⟩ (fun _ _ => yes_ ?_) (fun d => absurd ⟨by omega, by omega⟩ d)⟩) (fun d => absurd ⟨x0, by omega⟩ d)⟩)
    rw [wf_110_15 wf, wf_110_16 wf, wf_110_13 wf, wf_110_17 wf, ← k1, ← k2, ← k3, ea, eb]
    refine ⟨ai_115 x0 (by omega), ⟨by omega, by omega⟩, fun z => ⟨ai_116 x0 (by omega), ai_113 p0 (by omega), a3, ai_117 x0 (by omega), ai_113 q0 (by omega), b3, c_m_common ⟨by omega, by omega⟩ ⟨by omega, by omega⟩ ⟨fun c => c8_rates h (fun κ rn => ?_), fun c => ?_⟩⟩, fun z => k1_ z⟩
    · have hi := RN_inv h rn
      have wk := hi.1
      have of := rn.1
      have K := k3_ z (by omega) κ rn
      obtain ⟨t1, t2⟩ := rn.2.1 _ p0 p1
      have o16 : κ 116 a0 = μ (wW μ + 5) a0 := (of _ _ (by unfold FR' FR; omega)).trans k2.symm
      have o17 : κ 117 a0 = μ (wW μ + 6) a0 := (of _ _ (by unfold FR' FR; omega)).trans k3.symm
      have o13a : κ 113 (μ (wW μ + 5) a0) = wa μ a0 := (of _ _ (by unfold FR' FR; omega)).trans ea
      have o13b : κ 113 (μ (wW μ + 6) a0) = wb μ a0 := (of _ _ (by unfold FR' FR; omega)).trans eb
      have o10 : κ 111 10 = μ 29 2 := (of _ _ (by unfold FR' FR; omega)).trans ic.1
      rw [wf_110_16 wk, wf_110_27 wk, o16, t1]
      refine ⟨ai_116 x0 (by omega), ai_122 p0 (by omega), c_m_size ⟨by omega, by omega⟩ ?_⟩
      rw [wf_110_0 wk, o10]
      refine ⟨ai_111 (by decide) (by decide), c_m_has cr x0 (by omega) ?_⟩
      rw [wf_110_16 wk, o16, wf_110_13 wk, o13a, wf_110_17 wk, o17, o13b, wf_110_28 wk, t2]
      refine ⟨R32_one (bt_rg _ _), fun d => ?_, fun d => ⟨⟨by omega, by omega⟩, fun f => ⟨ai_116 x0 (by omega), ai_113 p0 (by omega), a3, ?_⟩, fun f => ?_⟩⟩
      · rw [if_pos d] at K; exact K
      · rw [if_neg (by omega), if_neg (by omega)] at K
        have eg : ((Int.gcd (wa μ a0) (wb μ a0) : Nat) : Int) = wg μ a0 := rfl
        rw [eg, tdiv_dvd d1 (by omega), ← e3]
        have tn : Int.tdiv (wa μ a0 * (wb μ a0 / wg μ a0) * μ 23 (μ (wW μ + 5) a0) + ((μ 22 (μ (wW μ + 5) a0)).natAbs : Int) - 1) ((μ 22 (μ (wW μ + 5) a0)).natAbs : Int) = wd_ μ a0 := by
          rw [tdiv_pos (by omega), if_pos (Or.inl (by omega))]; rfl
        rw [tn]
        exact ⟨⟨by omega, by omega⟩, ⟨by omega, by omega⟩, ⟨by omega, by omega⟩, by omega, ai_117 x0 (by omega), ai_113 q0 (by omega), b3, ai_123 p0 (by omega), ⟨by omega, by omega⟩, by omega, K⟩
      · rw [if_neg (by omega), if_pos (by omega)] at K; exact K
    · have eg : ((Int.gcd (wa μ a0) (wb μ a0) : Nat) : Int) = wg μ a0 := rfl
      rw [wf_110_17 wf, wf_110_13 wf, ← k3, eb, eg, tdiv_dvd d2 (by omega)]
      exact ⟨ai_117 x0 (by omega), ai_113 q0 (by omega), b3, ⟨by omega, by omega⟩, by omega, k2_ z c⟩
  rw [wf_W8 wf hW]
  refine ⟨ai_W4 hW x0 (by omega), ⟨?_, ?_⟩, fun z => ⟨fun d => ?_, fun d => ?_⟩, fun z => ?_⟩
  · show _ ≤ μ (wW μ + 4) a0; omega
  · show μ (wW μ + 4) a0 ≤ _; omega
  · have z : μ (wW μ + 4) a0 = 0 := z
    have d : a1 = 1 := by omega
    have cc1 : ∀ (r : Int), r = (if bt_ (μ 29 2) a0 ≠ 0 then -1 else if μ 22 (μ (wW μ + 5) a0) = 0 then -1 else wd_ μ a0) → R32 r → Ci G mX8_wear [(2, 110), (0, a0), (0, a1)] SHl μ (fun r' μ2 => r = r' ∧ R32 r ∧ Inv μ2) := fun r hr rr =>
      ref (fun q => absurd z q) (fun _ q => by omega) (fun _ _ κ rn => ⟨hr, rr, RN_inv h rn⟩)
    refine eX7_daysToMeet (fun Φ2 hΦ2 hR2 => bX7_daysToMeet_0 hΦ2 hR2 ⟨so_0, ?_⟩)
    rw [wf_W9 wf hW]
    refine ⟨so_W hW, ai_W5 hW x0 (by omega), c7_isOn wf cr x0 (by omega) ?_⟩
    by_cases on : bt_ (μ 29 2) a0 = 0
    · rw [if_pos on, wf_0_3 wf]
      refine ⟨R32_1, fun e => absurd e (by decide), fun _ => ⟨so_21, c3_turns' h p0 p1 ?_⟩⟩
      by_cases tu : μ 22 (μ (wW μ + 5) a0) ≠ 0
      · rw [if_pos tu, wf_W5 wf hW]
        refine ⟨R32_1, fun _ => ⟨so_W hW, ai_W1 hW p0 (by omega), ?_, c7_teethMet h x0 x1 ?_⟩, fun e => absurd e (by decide)⟩
        · show R32 (wa μ a0); exact a3
        · rw [wf_0_3 wf, wf_21_0 wf, wf_21_1 wf]
          have ab : (if 0 < μ 22 (μ (wW μ + 5) a0) then μ 22 (μ (wW μ + 5) a0) else -μ 22 (μ (wW μ + 5) a0)) = ((μ 22 (μ (wW μ + 5) a0)).natAbs : Int) := by split <;> omega
          refine ⟨⟨by omega, by omega⟩, so_21, ai_22 p0 (by omega), ⟨?_, ?_⟩, ai_23 p0 (by omega), ?_⟩
          · show _ ≤ μ 22 (μ (wW μ + 5) a0); omega
          · show μ 22 (μ (wW μ + 5) a0) ≤ _; omega
          · show Cj G mX7_floorPart [(1, wa μ a0 * (wb μ a0 / wg μ a0) * μ 23 (μ (wW μ + 5) a0) + (if 0 < μ 22 (μ (wW μ + 5) a0) then μ 22 (μ (wW μ + 5) a0) else -μ 22 (μ (wW μ + 5) a0)) - 1), (1, (if 0 < μ 22 (μ (wW μ + 5) a0) then μ 22 (μ (wW μ + 5) a0) else -μ 22 (μ (wW μ + 5) a0)))] SHl μ _
            rw [ab]
            have wu := wear_up (r := ((μ 22 (μ (wW μ + 5) a0)).natAbs : Int)) wm.1 (by omega)
            refine c_floorPart ⟨by omega, by omega⟩ (by omega) (by omega) ?_
            exact cc1 (wd_ μ a0) (by rw [if_neg (by omega), if_neg tu]) (by unfold wd_; exact ⟨by omega, by omega⟩)
      · rw [if_neg tu]
        exact ⟨R32_0, fun e => absurd rfl e, fun _ => cc1 (-1) (by rw [if_neg (by omega), if_pos (by omega)]) (by decide)⟩
    · rw [if_neg on]
      exact ⟨R32_0, fun _ => cc1 (-1) (by rw [if_pos on]) (by decide), fun e => absurd rfl e⟩
  · have z : μ (wW μ + 4) a0 = 0 := z
    exact c7_teethMet h x0 x1 (ref (fun q => absurd z q) (fun _ _ => ⟨rfl, ⟨by omega, by omega⟩, h⟩) (fun _ q => by omega))
  · have z : ¬ μ (wW μ + 4) a0 = 0 := z
    exact ref (fun _ => ⟨rfl, by decide, h⟩) (fun q => absurd q z) (fun q => absurd q z)
