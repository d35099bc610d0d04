/-! RATES as the class finds them: outwards from the driven one -/
def Off (F : Int → Int → Prop) (μ μ' : Mem) : Prop := ∀ k i, ¬ F k i → μ' k i = μ k i
theorem Off.rf {F : Int → Int → Prop} {μ : Mem} : Off F μ μ := fun _ _ _ => rfl
theorem Off.tr {F : Int → Int → Prop} {μ μ1 μ2 : Mem} (h : Off F μ μ1) (h2 : Off F μ1 μ2) : Off F μ μ2 := fun k i q => (h2 k i q).trans (h k i q)
theorem Off.mu {F : Int → Int → Prop} {μ μ1 : Mem} {k i x : Int} (h : Off F μ μ1) (hF : F k i) : Off F μ (mu μ1 k i x) := fun k' i' q => by
  rw [mu_off2 (fun c => q (by rw [c.1, c.2]; exact hF))]
  exact h k' i' q
def FM (o k i : Int) : Prop := (k = o ∧ 3 ≤ i ∧ i ≤ 5) ∨ k = o + 1 ∨ k = o + 2 ∨ k = o + 3
def rr (μ : Mem) (o : Int) : Int → Int × Int := fun w => (μ (o + 1) w, μ (o + 2) w)
def kdE (μ : Mem) (W idl l : Int) : Int := if bt_ idl l = 1 then 1 else μ (W + 4) l
def EE (μ : Mem) (W on idl : Int) : Int → Int → Int → Prop := Edg 11 (fun l => bt_ on l = 1) (kdE μ W idl) (μ (W + 5)) (μ (W + 6))
/-- what reckoning stands on -/
def RP (μ : Mem) (W o on idl nw drv R : Int) : Prop := WF μ ∧ isW W ∧ isM o ∧ (0 < nw ∧ nw ≤ 8) ∧ (∀ w, 0 ≤ w → w < nw → 3 ≤ μ (W + 1) w ∧ μ (W + 1) w ≤ 30)
  ∧ (∀ l, 0 ≤ l → l < 11 → bt_ on l = 1 → (kdE μ W idl l = 0 ∨ kdE μ W idl l = 1 ∨ kdE μ W idl l = 2) ∧ (0 ≤ μ (W + 5) l ∧ μ (W + 5) l < nw) ∧ (0 ≤ μ (W + 6) l ∧ μ (W + 6) l < nw) ∧ μ (W + 5) l ≠ μ (W + 6) l)
  ∧ (1 ≤ R ∧ R ≤ 30) ∧ (0 ≤ drv ∧ drv < nw) ∧ R32 on ∧ R32 idl
/-- the class's rates are a tree over a list -/
def MO (T : Int → Int) (E : Int → Int → Int → Prop) (drv R nw o : Int) (L : List Int) (μ : Mem) : Prop := Tree T E drv R nw (rr μ o) L ∧ μ o 3 = L.length ∧ (∀ j : Nat, j < L.length → L[j]? = some (μ (o + 3) j)) ∧ R32 (μ o 4) ∧ ∀ w : Nat, w < 32 → (bt_ (μ o 4) (w : Int) = 1 ↔ (w : Int) ∈ L)
theorem c3_turns {G : Gm} {μ : Mem} {Q : Int → Mem → Prop} {o w : Int} (ho : isM o) (ht : R32 (μ o 4)) (h0 : 0 ≤ w) (h1 : w ≤ 31) (h : Q (if bt_ (μ o 4) w = 1 then 1 else 0) μ) : Ci G mX3_turns [(2, o), (0, w)] SHl μ Q := by
  refine eX3_turns (fun Φ hΦ hR => bX3_turns_0 hΦ hR ⟨so_M ho, ht, h0, h1, R32_one (bt_rg _ _), fun c => ?_, fun c => ?_⟩)
  · rw [if_neg (show ¬ bt_ (μ o 4) w = 1 from c)] at h; exact h
  · rw [if_pos (show bt_ (μ o 4) w = 1 from c)] at h; exact h
def mrea (μ : Mem) (o w u d : Int) : Mem := mu (mu (mu (mu (mu μ (o + 1) w u) (o + 2) w d) o 4 (mor (μ o 4) (2 ^ w.toNat))) (o + 3) (μ o 3) w) o 3 (μ o 3 + 1)
theorem c3_reach {G : Gm} {μ : Mem} {Q : Mem → Prop} {o w u d : Int} (wf : WF μ) (ho : isM o) (h0 : 0 ≤ w) (h1 : w < 8) (h2 : 0 ≤ μ o 3) (h3 : μ o 3 < 8) (h : Q (mrea μ o w u d)) : Cv G mX3_reach [(2, o), (0, w), (1, u), (1, d)] SHl μ Q := by
  have e0 := wf_M0 wf ho
  have e1 := wf_M1 wf ho
  have e2 := wf_M2 wf ho
  refine eX3_reach (fun Φ hΦ hR => bX3_reach_0 hΦ hR ⟨so_M ho, ?_⟩)
  rw [e0]
  refine ⟨ai_M1 ho h0 h1, ?_⟩
  rintro m3 e3
  rw [show m3 o 1 = o + 2 by rw [e3, mu_off2 (by omega)]; exact e1]
  refine ⟨ai_M2 ho h0 h1, ?_⟩
  rintro m5 e5
  refine ⟨h0, by omega, ?_⟩
  rintro m8 e8
  have g1 : m5 o 4 = μ o 4 := by rw [e5, e3, mu_off2 (by omega), mu_off2 (by omega)]
  have g2 : m8 o 2 = o + 3 := by rw [e8, e5, e3, mu_off2 (by omega), mu_off2 (by omega), mu_off2 (by omega)]; exact e2
  have g3 : m8 o 3 = μ o 3 := by rw [e8, e5, e3, mu_off2 (by omega), mu_off2 (by omega), mu_off2 (by omega)]
  rw [g2, g3]
  refine ⟨ai_M3 ho h2 h3, ?_⟩
  rintro m10 e10 m11 e11
  have g4 : m10 o 3 = μ o 3 := by rw [e10, mu_off2 (by omega)]; exact g3
  have : m11 = mrea μ o w u d := by rw [e11, g4, e10, e8, g1, e5, e3, Int.one_mul]; rfl
  rw [this]; exact h
theorem mrea_off {μ : Mem} {o w u d : Int} : Off (FM o) μ (mrea μ o w u d) := by
  unfold mrea
  refine Off.mu (Off.mu (Off.mu (Off.mu (Off.mu Off.rf ?_) ?_) ?_) ?_) ?_ <;> unfold FM <;> omega
theorem mrea_rr {μ : Mem} {o w u d : Int} : rr (mrea μ o w u d) o = ru (rr μ o) w (u, d) := by
  funext z
  have e1 : mrea μ o w u d (o + 1) z = if z = w then u else μ (o + 1) z := by
    unfold mrea
    rw [mu_off2 (by omega), mu_off2 (by omega), mu_off2 (by omega), mu_off2 (by omega)]
    by_cases c : z = w
    · subst c; rw [if_pos rfl, mu_same]
    · rw [if_neg c, mu_off2 (by omega)]
  have e2 : mrea μ o w u d (o + 2) z = if z = w then d else μ (o + 2) z := by
    unfold mrea
    rw [mu_off2 (by omega), mu_off2 (by omega), mu_off2 (by omega)]
    by_cases c : z = w
    · subst c; rw [if_pos rfl, mu_same]
    · rw [if_neg c, mu_off2 (by omega), mu_off2 (by omega)]
  unfold rr ru
  rw [e1, e2]
  split <;> rfl
theorem mrea_5 {μ : Mem} {o w u d : Int} : mrea μ o w u d o 5 = μ o 5 := by
  unfold mrea
  rw [mu_off2 (by omega), mu_off2 (by omega), mu_off2 (by omega), mu_off2 (by omega), mu_off2 (by omega)]
theorem mrea_mo {T : Int → Int} {E : Int → Int → Int → Prop} {drv R nw o y u d : Int} {L : List Int} {μ : Mem} (h : μ o 3 = L.length ∧ (∀ j : Nat, j < L.length → L[j]? = some (μ (o + 3) j)) ∧ R32 (μ o 4) ∧ ∀ w : Nat, w < 32 → (bt_ (μ o 4) (w : Int) = 1 ↔ (w : Int) ∈ L)) (h0 : 0 ≤ y) (h1 : y < 8) (ht : Tree T E drv R nw (ru (rr μ o) y (u, d)) (L ++ [y])) : MO T E drv R nw o (L ++ [y]) (mrea μ o y u d) := by
  obtain ⟨a1, a2, a3, a4⟩ := h
  have e3 : mrea μ o y u d o 3 = μ o 3 + 1 := by unfold mrea; rw [mu_same]
  have e4 : mrea μ o y u d o 4 = mor (μ o 4) (2 ^ y.toNat) := by unfold mrea; rw [mu_off2 (by omega), mu_off2 (by omega), mu_same]
  refine ⟨by rw [mrea_rr]; exact ht, by rw [e3, a1]; simp, ?_, by rw [e4]; exact mor_r _ _, ?_⟩
  · intro j hj
    have e : mrea μ o y u d (o + 3) j = if (j : Int) = L.length then y else μ (o + 3) j := by
      unfold mrea
      rw [mu_off2 (by omega)]
      by_cases c : (j : Int) = L.length
      · rw [if_pos c, mu_on2 rfl (by omega)]
      · rw [if_neg c, mu_off2 (by omega), mu_off2 (by omega), mu_off2 (by omega), mu_off2 (by omega)]
    rw [e]
    by_cases c : j < L.length
    · rw [if_neg (by omega), List.getElem?_append_left c]; exact a2 j c
    · have : j = L.length := by simp at hj; omega
      subst this
      rw [if_pos rfl]; simp
  · intro w hw
    have hy : (2 : Int) ^ y.toNat = 2 ^ y.toNat := rfl
    rw [e4, bt_mor a3 (r32_2 (by omega)) hw, bt_2]
    have hh := a4 w hw
    by_cases c : w = y.toNat
    · have : (w : Int) = y := by omega
      simp [c]; omega
    · have : ¬ (w : Int) = y := by omega
      simp only [c, if_false, List.mem_append, List.mem_singleton, this, or_false]
      rw [← hh]
      simp
theorem bd_mul {a b A B : Int} (ha : -A ≤ a ∧ a ≤ A) (hb : 0 ≤ b ∧ b ≤ B) (hA : 0 ≤ A) : -(A * B) ≤ a * b ∧ a * b ≤ A * B := by
  have h1 : a * b ≤ A * b := Int.mul_le_mul_of_nonneg_right ha.2 hb.1
  have h2 : A * b ≤ A * B := Int.mul_le_mul_of_nonneg_left hb.2 hA
  have h3 : -A * b ≤ a * b := Int.mul_le_mul_of_nonneg_right ha.1 hb.1
  rw [Int.neg_mul] at h3
  omega
theorem Tree.st {T : Int → Int} {E : Int → Int → Int → Prop} {drv R nw k x y : Int} {ρ : Int → Int × Int} {L : List Int} (h : Tree T E drv R nw ρ L) (hn : nw ≤ 8) (hT : ∀ w, 0 ≤ w → w < nw → 3 ≤ T w ∧ T w ≤ 30) (hx : x ∈ L) (h0 : 0 ≤ y) (h1 : y < nw) (hk : k = 0 ∨ k = 1 ∨ k = 2) (he : E k x y ∨ E k y x) : Gd (stp T k x y (ρ x)) := by
  obtain ⟨x0, x1, ⟨d, hd, hdep⟩, _⟩ := h.2.2.2.1 x hx
  have := h.len hn
  exact dep_gd (dep_stp hdep hk (hT x x0 x1) (hT y h0 h1) he) (by omega)
/-- the class's answer for one link -/
def CR (T : Int → Int) (E : Int → Int → Int → Prop) (drv R nw o k x y : Int) (L : List Int) (μ μ' : Mem) : Prop :=
  Off (FM o) μ μ' ∧ ∃ t, MO T E drv R nw o (L ++ t) μ' ∧ (∀ z ∈ L, rr μ' o z = rr μ o z) ∧ ((y ∈ L ++ t ∧ μ' o 5 = μ o 5 ∧ rr μ' o y = stp T k x y (rr μ o x)) ∨ (μ' o 5 = 1 ∧ ¬ ∃ ρ', Fit T drv R E ρ'))
theorem c3_carry74 {G : Gm} {Φ : Fr} {Q : Mem → Prop} (hΦ : St G Φ cX3_carry RX3 12 2 53 0 0) (hR : Rt G Φ (Pv SHl Q) 0 0 none) {T : Int → Int} {E : Int → Int → Int → Prop} {drv R nw o k x y x1 x4 x5 : Int} {L : List Int} {μ : Mem} (wf : WF μ) (ho : isM o) (hm : MO T E drv R nw o L μ) (hn : nw ≤ 8) (hT : ∀ w, 0 ≤ w → w < nw → 3 ≤ T w ∧ T w ≤ 30) (hx : x ∈ L) (h0 : 0 ≤ y) (h1 : y < nw) (hk : k = 0 ∨ k = 1 ∨ k = 2) (he : E k x y ∨ E k y x) (h : ∀ μ', CR T E drv R nw o k x y L μ μ' → Q μ') :
    Ex G Φ 12 74 [some (2, o), some (0, x1), some (0, x), some (0, y), some (0, x4), some (0, x5), some (1, (stp T k x y (rr μ o x)).1), none, some (1, (stp T k x y (rr μ o x)).2), none, none, none] [] SHl μ 0 0 := by
  obtain ⟨g1, g2, g3, g4, g5⟩ := hm.1.st hn hT hx h0 h1 hk he
  have gy := hm.1.gd' hn h0 h1
  obtain ⟨y1, y2, y3, y4, y5⟩ := gy
  have y2 : 1 ≤ μ (o + 2) y := y2
  have y3 : μ (o + 2) y ≤ 810000 := y3
  have y4 : -24300000 ≤ μ (o + 1) y := y4
  have y5 : μ (o + 1) y ≤ 24300000 := y5
  have len := hm.1.len hn
  obtain ⟨m1, m2, m3, m4, m5⟩ := hm
  have hb := m5 y.toNat (by omega)
  rw [show ((y.toNat : Nat) : Int) = y by omega] at hb
  have bad : rr μ o y ≠ stp T k x y (rr μ o x) → y ∈ L → Q (mu μ o 5 1) := fun hne hy => h _ ⟨Off.mu Off.rf (by unfold FM; omega), [], by
      rw [List.append_nil]
      have e : rr (mu μ o 5 1) o = rr μ o := by funext z; unfold rr; rw [mu_off2 (by omega), mu_off2 (by omega)]
      refine ⟨by rw [e]; exact m1, by rw [mu_off2 (by omega)]; exact m2, fun j hj => by rw [mu_off2 (by omega)]; exact m3 j hj, by rw [mu_off2 (by omega)]; exact m4, by rw [mu_off2 (by omega)]; exact m5⟩, fun z _ => by unfold rr; rw [mu_off2 (by omega), mu_off2 (by omega)], Or.inr ⟨mu_same, m1.bad hx hy he hne⟩⟩
  refine bX3_carry_74 hΦ hR ⟨so_M ho, c3_turns ho m4 h0 (by omega) ?_⟩
  by_cases c : bt_ (μ o 4) y = 1
  · rw [if_pos c]
    have hy := hb.mp c
    refine ⟨R32_1, fun _ => ?_, fun c => absurd c (by decide)⟩
    rw [wf_M0 wf ho, wf_M1 wf ho]
    refine ⟨ai_M1 ho h0 (by omega), ⟨by omega, by omega⟩, ⟨by omega, by omega⟩, fun c1 => ?_, fun c1 => ⟨ai_M2 ho h0 (by omega), ⟨by omega, by omega⟩, ⟨by omega, by omega⟩, fun c2 => ?_, fun c2 => ?_⟩⟩
    · rintro _ rfl
      exact bad (fun e => c1 (congrArg Prod.fst e)) hy
    · refine h _ ⟨Off.rf, [], ?_, fun _ _ => rfl, Or.inl ⟨List.mem_append_left _ hy, rfl, Prod.ext c1 c2⟩⟩
      rw [List.append_nil]; exact ⟨m1, m2, m3, m4, m5⟩
    · rintro _ rfl
      exact bad (fun e => c2 (congrArg Prod.snd e)) hy
  · rw [if_neg c]
    have hy : y ∉ L := fun q => c (hb.mpr q)
    have ht := m1.add hT hx hy h0 h1 hk he
    have := ht.len hn
    rw [List.length_append, List.length_singleton] at this
    refine ⟨R32_0, fun c => absurd rfl c, fun _ => c3_reach wf ho h0 (by omega) (by omega) (by omega) (h _ ⟨mrea_off, [y], mrea_mo ⟨m2, m3, m4, m5⟩ h0 (by omega) ht, fun z hz => ?_, Or.inl ⟨by simp, mrea_5, ?_⟩⟩)⟩
    · rw [mrea_rr]; unfold ru; rw [if_neg (fun e : z = y => hy (e ▸ hz))]
    · rw [mrea_rr]; unfold ru; rw [if_pos rfl]
theorem gcd_r {a b : Int} (ha : a ≠ 0) {B : Int} (hb : -B ≤ a ∧ a ≤ B) : 1 ≤ (Int.gcd a b : Int) ∧ (Int.gcd a b : Int) ≤ B := by
  have h1 : 0 < Int.gcd a b := Int.gcd_pos_of_ne_zero_left _ ha
  have h2 : Int.gcd a b ≤ a.natAbs := Nat.le_of_dvd (Int.natAbs_pos.mpr ha) (Nat.gcd_dvd_left _ _)
  omega
theorem tdiv_dvd {a g : Int} (h : g ∣ a) (hg : g ≠ 0) : Int.tdiv a g = a / g := by
  obtain ⟨c, rfl⟩ := h
  rw [Int.mul_tdiv_cancel_left _ hg, Int.mul_ediv_cancel_left _ hg]
theorem c3_carry {G : Gm} {Q : Mem → Prop} {T : Int → Int} {E : Int → Int → Int → Prop} {drv R nw o k x y : Int} {L : List Int} {μ : Mem} (wf : WF μ) (ho : isM o) (hm : MO T E drv R nw o L μ) (hn : nw ≤ 8) (hT : ∀ w, 0 ≤ w → w < nw → 3 ≤ T w ∧ T w ≤ 30) (hx : x ∈ L) (h0 : 0 ≤ y) (h1 : y < nw) (hk : k = 0 ∨ k = 1 ∨ k = 2) (he : E k x y ∨ E k y x) (h : ∀ μ', CR T E drv R nw o k x y L μ μ' → Q μ') : Cv G mX3_carry [(2, o), (0, k), (0, x), (0, y), (0, T x), (0, T y)] SHl μ Q := by
  obtain ⟨x0, x1, ⟨d, _, hdep⟩, _⟩ := hm.1.2.2.2.1 x hx
  have nz : μ (o + 1) x ≠ 0 := hdep.2.1
  obtain ⟨-, g2, g3, g4, g5⟩ := hm.1.gd hn hx
  have g2 : 1 ≤ μ (o + 2) x := g2
  have g3 : μ (o + 2) x ≤ 810000 := g3
  have g4 : -24300000 ≤ μ (o + 1) x := g4
  have g5 : μ (o + 1) x ≤ 24300000 := g5
  have tx := hT x x0 x1
  have ty := hT y h0 h1
  refine eX3_carry (fun Φ hΦ hR => bX3_carry_0 hΦ hR ⟨⟨by omega, by omega⟩, fun c => ⟨so_M ho, ?_⟩, fun c => ⟨so_M ho, ?_⟩⟩)
  · rw [wf_M0 wf ho]
    refine ⟨ai_M1 ho x0 (by omega), bX3_carry_20 hΦ hR ⟨so_M ho, ?_⟩⟩
    rw [wf_M1 wf ho]
    refine ⟨ai_M2 ho x0 (by omega), ⟨by omega, by omega⟩, fun c2 => ?_, fun c2 => ?_⟩
    · obtain rfl : k = 1 := by omega
      exact c3_carry74 hΦ hR wf ho hm hn hT hx h0 h1 hk he h
    · subst c2
      have b1 := bd_mul (a := μ (o + 1) x) (b := T y) (A := 24300000) (B := 30) ⟨g4, g5⟩ ⟨by omega, by omega⟩ (by decide)
      have b2 := bd_mul (a := μ (o + 2) x) (b := T x) (A := 810000) (B := 30) ⟨by omega, by omega⟩ ⟨by omega, by omega⟩ (by decide)
      have nz2 : μ (o + 1) x * T y ≠ 0 := Int.mul_ne_zero nz (by omega)
      have gr := gcd_r (b := μ (o + 2) x * T x) nz2 (B := 24300000 * 30) ⟨by omega, by omega⟩
      refine ⟨⟨by omega, by omega⟩, ⟨by omega, by omega⟩, c_common ⟨by omega, by omega⟩ ⟨by omega, by omega⟩ (Or.inl nz2) ⟨⟨by omega, by omega⟩, ⟨by omega, by omega⟩, by omega, ⟨by omega, by omega⟩, ?_⟩⟩
      rw [tdiv_dvd (Int.gcd_dvd_left ..) (by omega), tdiv_dvd (Int.gcd_dvd_right ..) (by omega)]
      exact c3_carry74 (k := 2) hΦ hR wf ho hm hn hT hx h0 h1 hk he h
  · subst c
    rw [wf_M0 wf ho]
    refine ⟨ai_M1 ho x0 (by omega), bX3_carry_20 hΦ hR ⟨so_M ho, ?_⟩⟩
    rw [wf_M1 wf ho]
    exact ⟨ai_M2 ho x0 (by omega), ⟨by omega, by omega⟩, fun _ => c3_carry74 (k := 0) hΦ hR wf ho hm hn hT hx h0 h1 hk he h, fun c => absurd c (by decide)⟩
theorem c6_across {G : Gm} {μ : Mem} {Q : Int → Mem → Prop} {W l w nw : Int} (wf : WF μ) (hW : isW W) (h0 : 0 ≤ l) (h1 : l < 11) (hw : 0 ≤ w ∧ w < 8) (ha : 0 ≤ μ (W + 5) l ∧ μ (W + 5) l < nw) (hb : 0 ≤ μ (W + 6) l ∧ μ (W + 6) l < nw) (hn : nw ≤ 8)
    (h : Q (if μ (W + 5) l = w then μ (W + 6) l else if μ (W + 6) l = w then μ (W + 5) l else -1) μ) : Ci G mX6_across [(2, W), (0, l), (0, w)] SHl μ Q := by
  refine eX6_across (fun Φ hΦ hR => bX6_across_0 hΦ hR ⟨so_W hW, ?_⟩)
  rw [wf_W9 wf hW, wf_W10 wf hW]
  refine ⟨ai_W5 hW h0 h1, ⟨by omega, by omega⟩, ⟨by omega, by omega⟩, fun c => ⟨ai_W6 hW h0 h1, ⟨by omega, by omega⟩, fun d => ?_, fun d => ?_⟩, fun c => ⟨ai_W6 hW h0 h1, ?_⟩⟩
  · rw [if_neg c, if_neg d] at h; exact h
  · rw [if_neg c, if_pos d] at h; exact h
  · rw [if_pos c] at h; exact h
