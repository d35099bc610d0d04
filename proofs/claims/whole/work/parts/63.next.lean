/-! THE NEXT DAY of feasts -/
theorem Fst_un {p : Int → Prop} {n r r' : Int} (h : Fst p n r) (h' : Fst p n r') : r = r' := by
  rcases h with ⟨a1, a2, a3, a4⟩ | ⟨a1, a2⟩ <;> rcases h' with ⟨b1, b2, b3, b4⟩ | ⟨b1, b2⟩
  · rcases Int.lt_trichotomy r r' with c | c | c
    · exact absurd a3 (b4 r a1 c)
    · exact c
    · exact absurd b3 (a4 r' b1 c)
  · exact absurd a3 (b2 r a1 a2)
  · exact absurd b3 (a2 r' b1 b2)
  · omega
theorem plc_rest {μ : Mem} {w n : Int} (h0 : μ 22 w = 0) : plc μ w n = plc μ w 0 := by
  unfold plc
  rw [h0, Int.zero_mul, Int.zero_mul]
theorem plc_per {μ : Mem} (h : Inv μ) {w n v : Int} (w0 : 0 ≤ w) (w1 : w < nW μ) (hd : ow μ w ∣ v) : plc μ w (n + v) = plc μ w n := by
  obtain ⟨o1, o2, o3, o4⟩ := ow_rg h w0 w1
  obtain ⟨b1, b2⟩ := h.r22 w0 w1
  have hT := h.T w0 w1
  have da : (Int.gcd (μ 22 w) (μ (wW μ + 1) w) : Int) ∣ μ 22 w := Int.gcd_dvd_left ..
  have ho : μ 23 w * μ (wW μ + 1) w = (Int.gcd (μ 22 w) (μ (wW μ + 1) w) : Int) * ow μ w := by unfold ow; exact (Int.mul_ediv_cancel' o2).symm
  obtain ⟨a, ea⟩ := da
  obtain ⟨c, ec⟩ := hd
  generalize (Int.gcd (μ 22 w) (μ (wW μ + 1) w) : Int) = g at *
  generalize ow μ w = o at *
  unfold plc
  have key : μ 22 w * v = μ 23 w * (μ (wW μ + 1) w * (a * c)) := by
    rw [ea, ec, ← Int.mul_assoc (μ 23 w), ho]
    simp only [Int.mul_assoc, Int.mul_left_comm, Int.mul_comm]
  rw [show μ 29 0 - μ 29 1 + (n + v) = (μ 29 0 - μ 29 1 + n) + v by omega, Int.mul_add (μ 22 w) _ v, key, Int.add_mul_ediv_left _ _ (show μ 23 w ≠ 0 by omega), ← Int.add_assoc, Int.add_mul_emod_self_left]
theorem rd_div {μ : Mem} (h : Inv μ) {q : Int → Bool} : ∀ n : Nat, (n : Int) ≤ nW μ → rd (ow μ) q 1 n ≤ 999999999 → ∀ j : Nat, j < n → q j = true → ow μ j ∣ rd (ow μ) q 1 n
  | 0, _, _, j, hj, _ => by omega
  | n + 1, hn, hm, j, hj, hq => by
    have o := (ow_rg h (w := (n : Int)) (by omega) (by omega)).2.2.1
    have rg := rd_rg h (q := q) n (by omega)
    have sm : ¬ 999999999 < rd (ow μ) q 1 n := fun c => by rw [rd_big c] at hm; omega
    have ih := rd_div h n (by omega) (by omega) (q := q)
    by_cases d : q n = true
    · have ls := lcm_step (r := rd (ow μ) q 1 n) (o := ow μ n) ⟨rg.1, by omega⟩ o
      rw [rd_yes sm d]
      by_cases c : j = n
      · rw [c]; exact ls.2.2.2
      · exact Int.dvd_trans (ih j (by omega) hq) ls.2.2.1
    · rw [rd_no d]
      by_cases c : j = n
      · rw [c] at hq; exact absurd hq d
      · exact ih j (by omega) hq
theorem c7_leaderOf {G : Gm} {Q : Int → Mem → Prop} {μ : Mem} {set : Int} (h : Inv μ) (hs : R32 set) (k1 : (∀ f, 0 ≤ f → f < nF μ → bt_ set f = 1 → μ 22 (μ (wW μ + 7) f) = 0) → Q (-1) μ) (k2 : ∀ l, 0 ≤ l → l < nF μ → bt_ set l = 1 → μ 22 (μ (wW μ + 7) l) ≠ 0 → Q l μ) : Ci G mX7_leaderOf [(2, 0), (0, set)] SHl μ Q := by
  have wf := h.1
  have hW := h.2.1.1
  have hf := h.nf
  refine eX7_leaderOf (fun Φ hΦ hR => bX7_leaderOf_0 hΦ hR ?_)
  have loop : ∀ (m : Nat) (f l t : Int), 0 ≤ f → f + m = nF μ → 0 ≤ t → t ≤ 30 → ((l = -1 ∧ t = 0 ∧ ∀ j, 0 ≤ j → j < f → bt_ set j = 1 → μ 22 (μ (wW μ + 7) j) = 0) ∨ (0 ≤ l ∧ l < f ∧ bt_ set l = 1 ∧ μ 22 (μ (wW μ + 7) l) ≠ 0)) → Ex G Φ 6 7 [some (2, 0), some (0, set), some (0, l), some (0, t), some (0, f), none] [] SHl μ 0 0 := by
    intro m
    induction m with
    | zero =>
      intro f l t f0 hm t0 t1 hl
      refine bX7_leaderOf_7 hΦ hR ⟨so_0, so_W hW, ⟨by omega, by omega⟩, ⟨?_, ?_⟩, fun _ => ?_, fun c => absurd (show nF μ ≤ f by omega) c⟩
      · show _ ≤ nF μ; omega
      · show nF μ ≤ _; omega
      · rcases hl with ⟨e, -, no⟩ | ⟨l0, l1, l2, l3⟩
        · rw [e]; exact k1 (fun j j0 j1 => no j j0 (by omega))
        · exact k2 l l0 (by omega) l2 l3
    | succ m ih =>
      intro f l t f0 hm t0 t1 hl
      obtain ⟨⟨a1, a2, a3⟩, c1, c2, c3⟩ := h.F f0 (by omega)
      have hT := h.T a2 a3
      have skip : (bt_ set f = 1 → μ 22 (μ (wW μ + 7) f) = 0 ∨ l ≠ -1) → Ex G Φ 6 7 [some (2, 0), some (0, set), some (0, l), some (0, t), some (0, f + 1), none] [] SHl μ 0 0 := fun q => by
        refine ih (f + 1) l t (by omega) (by omega) t0 t1 ?_
        rcases hl with ⟨e, e2, no⟩ | ⟨l0, l1, l2, l3⟩
        · refine Or.inl ⟨e, e2, fun j j0 j1 b => ?_⟩
          by_cases z : j = f
          · rw [z] at b ⊢
            rcases q b with q | q
            · exact q
            · exact absurd e q
          · exact no j j0 (by omega) b
        · exact Or.inr ⟨l0, by omega, l2, l3⟩
      refine bX7_leaderOf_7 hΦ hR ⟨so_0, so_W hW, ⟨by omega, by omega⟩, ⟨?_, ?_⟩, fun c => absurd (show nF μ ≤ f from c) (by omega), fun _ => ?_⟩
      · show _ ≤ nF μ; omega
      · show nF μ ≤ _; omega
      · rw [wf_W11 wf hW]
        refine ⟨ai_W7 hW f0 (by omega), hs, f0, by omega, R32_one (bt_rg set f), fun c => ?_, fun c => ?_⟩
        · have c : ¬ bt_ set f = 1 := c
          exact skip (fun b => absurd b c)
        · have c : bt_ set f = 1 := c
          rw [wf_0_3 wf]
          refine ⟨so_21, c3_turns' h a2 a3 ?_⟩
          by_cases d : μ 22 (μ (wW μ + 7) f) ≠ 0
          · rw [if_pos d, wf_W5 wf hW]
            refine ⟨R32_1, fun e => absurd e (by decide), fun _ => ⟨so_W hW, ai_W1 hW a2 (by have := h.nw; omega), ⟨?_, ?_⟩, ⟨by omega, by omega⟩, fun e => skip (fun _ => Or.inr (fun z => ?_)), fun e => ?_⟩⟩
            · show _ ≤ μ (wW μ + 1) (μ (wW μ + 7) f); omega
            · show μ (wW μ + 1) (μ (wW μ + 7) f) ≤ _; omega
            · have e : μ (wW μ + 1) (μ (wW μ + 7) f) ≤ t := e
              rcases hl with ⟨-, e2, -⟩ | ⟨l0, -⟩ <;> omega
            · exact ih (f + 1) f (μ (wW μ + 1) (μ (wW μ + 7) f)) (by omega) (by omega) (by omega) (by omega) (Or.inr ⟨f0, by omega, c, d⟩)
          · rw [if_neg d]
            exact ⟨R32_0, fun _ => skip (fun _ => Or.inl (by omega)), fun e => absurd rfl e⟩
  exact loop (nF μ).toNat 0 (-1) 0 (by decide) (by omega) (by decide) (by decide) (Or.inl ⟨rfl, rfl, fun j j0 j1 => by omega⟩)
theorem c7_wheelsOf {G : Gm} {Q : Int → Mem → Prop} {μ : Mem} {set : Int} (h : Inv μ) (hs : R32 set) (k : ∀ t, R32 t → (∀ w, 0 ≤ w → w < nW μ → (bt_ t w = 1 ↔ ∃ f, 0 ≤ f ∧ f < nF μ ∧ bt_ set f = 1 ∧ μ (wW μ + 7) f = w)) → Q t μ) : Ci G mX7_wheelsOf [(2, 0), (0, set)] SHl μ Q := by
  have wf := h.1
  have hW := h.2.1.1
  have hf := h.nf
  have nw := h.nw
  refine eX7_wheelsOf (fun Φ hΦ hR => bX7_wheelsOf_0 hΦ hR ?_)
  have loop : ∀ (m : Nat) (f t : Int), 0 ≤ f → f + m = nF μ → R32 t → (∀ w, 0 ≤ w → w < nW μ → (bt_ t w = 1 ↔ ∃ j, 0 ≤ j ∧ j < f ∧ bt_ set j = 1 ∧ μ (wW μ + 7) j = w)) → Ex G Φ 4 4 [some (2, 0), some (0, set), some (0, t), some (0, f)] [] SHl μ 0 0 := by
    intro m
    induction m with
    | zero =>
      intro f t f0 hm tr tb
      refine bX7_wheelsOf_4 hΦ hR ⟨so_0, so_W hW, ⟨by omega, by omega⟩, ⟨?_, ?_⟩, fun _ => k t tr (by rw [show nF μ = f by omega]; exact tb), fun c => absurd (show nF μ ≤ f by omega) c⟩
      · show _ ≤ nF μ; omega
      · show nF μ ≤ _; omega
    | succ m ih =>
      intro f t f0 hm tr tb
      obtain ⟨⟨a1, a2, a3⟩, c1, c2, c3⟩ := h.F f0 (by omega)
      refine bX7_wheelsOf_4 hΦ hR ⟨so_0, so_W hW, ⟨by omega, by omega⟩, ⟨?_, ?_⟩, fun c => absurd (show nF μ ≤ f from c) (by omega), fun _ => ⟨hs, f0, by omega, R32_one (bt_rg set f), fun c => ?_, fun c => ?_⟩⟩
      · show _ ≤ nF μ; omega
      · show nF μ ≤ _; omega
      · have c : ¬ bt_ set f = 1 := c
        refine ih (f + 1) t (by omega) (by omega) tr (fun w w0 w1 => (tb w w0 w1).trans ⟨fun ⟨j, j0, j1, j2, j3⟩ => ⟨j, j0, by omega, j2, j3⟩, fun ⟨j, j0, j1, j2, j3⟩ => ⟨j, j0, ?_, j2, j3⟩⟩)
        by_cases z : j = f
        · rw [z] at j2; exact absurd j2 c
        · omega
      · have c : bt_ set f = 1 := c
        rw [wf_W11 wf hW]
        refine ⟨ai_W7 hW f0 (by omega), a2, ?_, ?_⟩
        · show μ (wW μ + 7) f ≤ 31; omega
        · refine ih (f + 1) _ (by omega) (by omega) (mor_r _ _) (fun w w0 w1 => ?_)
          have hm2 := bt_mor (x := t) (y := 1 * 2 ^ (μ (wW μ + 7) f).toNat) tr (by rw [Int.one_mul]; exact r32_2 (by omega)) (k := w.toNat) (by omega)
          rw [Int.one_mul, bt_2, show ((w.toNat : Nat) : Int) = w by omega] at hm2
          rw [Int.one_mul]
          show bt_ (mor t (2 ^ (μ (wW μ + 7) f).toNat)) w = 1 ↔ _
          rw [hm2]
          have tw := tb w w0 w1
          by_cases z : μ (wW μ + 7) f = w
          · rw [if_pos (Or.inr (if_pos (by omega)))]
            exact ⟨fun _ => ⟨f, f0, by omega, c, z⟩, fun _ => rfl⟩
          · rw [if_neg (show ¬ w.toNat = (μ (wW μ + 7) f).toNat by omega)]
            by_cases y : bt_ t w = 1
            · rw [if_pos (Or.inl y)]
              obtain ⟨j, j0, j1, j2, j3⟩ := tw.mp y
              exact ⟨fun _ => ⟨j, j0, by omega, j2, j3⟩, fun _ => rfl⟩
            · rw [if_neg (by omega)]
              refine ⟨fun e => absurd e (by decide), fun ⟨j, j0, j1, j2, j3⟩ => absurd (tw.mpr ⟨j, j0, ?_, j2, j3⟩) y⟩
              by_cases x : j = f
              · rw [x] at j3; exact absurd j3 z
              · omega
  exact loop (nF μ).toNat 0 0 (by decide) (by omega) R32_0 (fun w w0 w1 => ⟨fun e => by rw [bt_zero] at e; exact absurd e (by decide), fun ⟨j, j0, j1, _⟩ => by omega⟩)
theorem emod_win {y b T p : Int} (hb : 0 < b) (hT : 0 < T) : (p * b ≤ y % (b * T) ∧ y % (b * T) < p * b + b) ↔ (y / b) % T = p := by
  have hbT : 0 < b * T := Int.mul_pos hb hT
  have r := emod_rg (x := y) hbT
  have e := Int.mul_ediv_add_emod y (b * T)
  generalize hr : y % (b * T) = z at *
  generalize y / (b * T) = k at *
  have q : y / b = z / b + T * k := by
    rw [← e, Int.mul_assoc, Int.add_comm, Int.add_mul_ediv_left _ _ (by omega)]
  have zl : 0 ≤ z / b := Int.ediv_nonneg r.1 (by omega)
  have zu : z / b < T := Int.ediv_lt_of_lt_mul hb (by rw [Int.mul_comm]; exact r.2)
  rw [q, Int.add_mul_emod_self_left, Int.emod_eq_of_lt zl zu]
  have h1 : z / b * b ≤ z := Int.ediv_mul_le z (by omega)
  have h2 : z < (z / b + 1) * b := Int.lt_ediv_add_one_mul_self z hb
  generalize z / b = d at *
  constructor
  · rintro ⟨c1, c2⟩
    rcases Int.lt_trichotomy d p with c | c | c
    · have : (d + 1) * b ≤ p * b := Int.mul_le_mul_of_nonneg_right (by omega) (by omega)
      omega
    · exact c
    · have : (p + 1) * b ≤ d * b := Int.mul_le_mul_of_nonneg_right (by omega) (by omega)
      rw [Int.add_mul] at this
      omega
  · rintro rfl
    rw [Int.add_mul] at h2
    exact ⟨h1, by omega⟩
theorem emod_add1 {x a c : Int} (hc : 0 < c) : (x + a) % c = if x % c + a % c < c then x % c + a % c else x % c + a % c - c := by
  have r1 := emod_rg (x := x) hc
  have r2 := emod_rg (x := a) hc
  rw [Int.add_emod]
  split
  · exact Int.emod_eq_of_lt (by omega) (by omega)
  · rw [← Int.sub_emod_right, Int.emod_eq_of_lt (by omega) (by omega)]
