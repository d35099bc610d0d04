/-! FEWEST IDLERS -/
def al (μ : Mem) (l : Int) : Prop := l < nL μ ∧ bt_ (μ 29 2) l = 0 ∧ μ (wW μ + 4) l = 0
def gi (μ : Mem) (a b s : Int) : Prop := (∀ k : Nat, k < 32 → bt_ s (k : Int) = 1 → al μ k) ∧ ∃ ρ, RSx μ (lon μ) s ρ 0 ∧ (ρ a).1 ≠ 0 ∧ (ρ b).1 ≠ 0 ∧ (0 < (ρ a).1 ↔ 0 < (ρ b).1)
theorem onL_lon {μ : Mem} (h : Inv μ) : OnL μ (lon μ) := ⟨mand_r _ _, fun l l0 l1 e => ((lon_b h l0 (by omega)).mp e).1⟩
theorem FT_r0 {μ κ : Mem} (h : Inv μ) (of : Off (FT μ) μ κ) : ∀ k i, (k = 0 ∧ i = 1) ∨ (k = wW μ) ∨ k = wW μ + 1 ∨ k = wW μ + 3 ∨ ((k = wW μ + 4 ∨ k = wW μ + 5 ∨ k = wW μ + 6) ∧ i < nL μ) ∨ k = 29 → κ k i = μ k i := fun k i c => by
  have hW := h.W
  have hl := h.nl
  exact of k i (by unfold FT FM FR' FR; omega)
theorem gi_eq {μ κ : Mem} (h : Inv μ) (of : Off (FT μ) μ κ) {a b s : Int} : gi κ a b s ↔ gi μ a b s := by
  have hW := h.W
  have hl := h.nl
  have r0 := FT_r0 h of
  have ew : wW κ = wW μ := r0 0 1 (by omega)
  have en : nW κ = nW μ := by show κ (wW κ) 0 = _; rw [ew]; exact r0 _ _ (by omega)
  have el : nL κ = nL μ := by show κ (wW κ) 1 = _; rw [ew]; exact r0 _ _ (by omega)
  have lo : lon κ = lon μ := by unfold lon; rw [el, r0 29 2 (by omega)]
  have ee : EE κ (wW κ) (lon κ) s = EE μ (wW μ) (lon μ) s := by
    unfold EE
    rw [lo, ew]
    refine Edg_eq (fun l l0 l1 on' => ?_) (fun l l0 l1 on' => ?_)
    · have := (onL_lon h).2 l l0 l1 on'
      exact ⟨l, l0, l1, on', by unfold kdE; rw [r0 (wW μ + 4) l (by omega)], (r0 (wW μ + 5) l (by omega)).symm, (r0 (wW μ + 6) l (by omega)).symm⟩
    · have := (onL_lon h).2 l l0 l1 on'
      exact ⟨l, l0, l1, on', by unfold kdE; rw [r0 (wW μ + 4) l (by omega)], r0 (wW μ + 5) l (by omega), r0 (wW μ + 6) l (by omega)⟩
  have ea : ∀ l, al κ l ↔ al μ l := fun l => by
    unfold al
    rw [el, ew, r0 29 2 (by omega)]
    by_cases c : l < nL μ
    · rw [r0 (wW μ + 4) l (by omega)]
    · exact ⟨fun q => absurd q.1 c, fun q => absurd q.1 c⟩
  unfold gi RSx
  rw [ee, en, ew, r0 (wW μ) 3 (by omega), r0 (wW μ) 4 (by omega), show κ (wW μ + 1) = μ (wW μ + 1) from funext fun i => r0 _ i (by omega)]
  simp only [ea]
theorem c6_mesh {G : Gm} {Q : Int → Mem → Prop} {μ : Mem} (h : Inv μ) (k : ∀ t, R32 t → (∀ l, 0 ≤ l → l < 32 → (bt_ t l = 1 ↔ l < nL μ ∧ μ (wW μ + 4) l = 0)) → Q t μ) : Ci G mX6_linksThatMesh [(2, wW μ)] SHl μ Q := by
  have hl := h.nl
  have hW := h.2.1.1
  let p : Int → Bool := fun l => decide (μ (wW μ + 4) l = 0)
  have fin : Q (fs p (nL μ).toNat) μ := by
    refine k _ (fs_r _) (fun l l0 l1 => ?_)
    have := fs_bt (p := p) (nL μ).toNat (by omega) l.toNat (by omega)
    rw [show ((l.toNat : Nat) : Int) = l by omega] at this
    rw [this]
    by_cases c : l < nL μ ∧ μ (wW μ + 4) l = 0
    · rw [if_pos ⟨by omega, by simp [p, c.2]⟩]; simp [c]
    · rw [if_neg (fun q => c ⟨by omega, by simpa [p] using q.2⟩)]; simp [c]
  refine eX6_linksThatMesh (fun Φ hΦ hR => bX6_linksThatMesh_0 hΦ hR ?_)
  have loop : ∀ (m i : Nat), (i : Int) + m = nL μ → Ex G Φ 3 4 [some (2, wW μ), some (0, fs p i), some (0, (i : Int))] [] SHl μ 0 0 := by
    intro m
    induction m with
    | zero =>
      intro i hi
      refine bX6_linksThatMesh_4 hΦ hR ⟨so_W hW, ⟨by omega, by omega⟩, ⟨?_, ?_⟩, fun _ => ?_, fun c => absurd (show nL μ ≤ i by omega) c⟩
      · show _ ≤ nL μ; omega
      · show nL μ ≤ _; omega
      · rw [show i = (nL μ).toNat by omega]; exact fin
    | succ m ih =>
      intro i hi
      have nx := ih (i + 1) (by omega)
      rw [show (((i + 1 : Nat)) : Int) = (i : Int) + 1 by omega] at nx
      have hk := (h.L (l := (i : Int)) (by omega) (by omega)).1
      refine bX6_linksThatMesh_4 hΦ hR ⟨so_W hW, ⟨by omega, by omega⟩, ⟨?_, ?_⟩, fun c => absurd (show nL μ ≤ i from c) (by omega), fun _ => ?_⟩
      · show _ ≤ nL μ; omega
      · show nL μ ≤ _; omega
      · rw [wf_W8 h.1 hW]
        refine ⟨ai_W4 hW (by omega) (by omega), ⟨?_, ?_⟩, fun c => ?_, fun c => ⟨by omega, by omega, ?_⟩⟩
        · show _ ≤ μ (wW μ + 4) i; omega
        · show μ (wW μ + 4) i ≤ _; omega
        · have : fs p (i + 1) = fs p i := by show (if p i then _ else _) = _; rw [if_neg (by simp only [p, decide_eq_true_eq]; exact c)]
          rw [← this]; exact nx
        · have : fs p (i + 1) = mor (fs p i) (1 * 2 ^ i) := by show (if p i then _ else _) = _; rw [if_pos (by simp only [p, decide_eq_true_eq]; exact c)]
          rw [nat_pw, ← this]; exact nx
  exact loop (nL μ).toNat 0 (by omega)
theorem c8_meshing {G : Gm} {Q : Int → Mem → Prop} {μ κ : Mem} (h : Inv μ) (of : Off FR' μ κ) (k : ∀ t, R32 t → (∀ l, 0 ≤ l → l < 32 → (bt_ t l = 1 ↔ al μ l)) → Q t κ) : Ci G mX8_meshing [(2, 110)] SHl κ Q := by
  have hl := h.nl
  have hW := h.2.1.1
  have wk := (FT_inv h of.tR).1
  have ic := h.2.2.2.1.c
  have icr := ic.r h.2.1
  have cr : R32 (μ 29 2) := ⟨by omega, by omega⟩
  have e3 : κ 110 3 = nL μ := (of _ _ (by unfold FR' FR; omega)).trans hl.1.symm
  have e10 : κ 111 10 = μ 29 2 := (of _ _ (by unfold FR' FR; omega)).trans ic.1
  let p : Int → Bool := fun l => decide (μ (wW μ + 4) l = 0 ∧ bt_ (μ 29 2) l = 0)
  have fin : Q (fs p (nL μ).toNat) κ := by
    refine k _ (fs_r _) (fun l l0 l1 => ?_)
    have := fs_bt (p := p) (nL μ).toNat (by omega) l.toNat (by omega)
    rw [show ((l.toNat : Nat) : Int) = l by omega] at this
    rw [this]
    unfold al
    by_cases c : l < nL μ ∧ μ (wW μ + 4) l = 0 ∧ bt_ (μ 29 2) l = 0
    · rw [if_pos ⟨by omega, by simp [p, c.2.1, c.2.2]⟩]; simp [c]
    · rw [if_neg (fun q => c ⟨by omega, by simpa [p] using q.2⟩)]
      exact ⟨fun q => absurd q (by decide), fun q => absurd ⟨q.1, q.2.2, q.2.1⟩ c⟩
  refine eX8_meshing (fun Φ hΦ hR => bX8_meshing_0 hΦ hR ?_)
  have loop : ∀ (m i : Nat), (i : Int) + m = nL μ → Ex G Φ 3 4 [some (2, 110), some (0, fs p i), some (0, (i : Int))] [] SHl κ 0 0 := by
    intro m
    induction m with
    | zero =>
      intro i hi
      refine bX8_meshing_4 hΦ hR ⟨so_110, ⟨by omega, by omega⟩, ?_⟩
      rw [e3]
      refine ⟨⟨by omega, by omega⟩, fun _ => ?_, fun c => absurd (by omega) c⟩
      rw [show i = (nL μ).toNat by omega]; exact fin
    | succ m ih =>
      intro i hi
      have nx := ih (i + 1) (by omega)
      rw [show (((i + 1 : Nat)) : Int) = (i : Int) + 1 by omega] at nx
      have hk := (h.L (l := (i : Int)) (by omega) (by omega)).1
      have k15 : κ 115 i = μ (wW μ + 4) i := (of _ _ (by unfold FR' FR; omega)).trans hk.1.symm
      have n0 : ¬ (p i = true) → mor (fs p i) (0 * 2 ^ i) = fs p (i + 1) := fun c => by
        show _ = (if p i then _ else _)
        rw [if_neg c, Int.zero_mul, mor_0 (fs_r i)]
      refine bX8_meshing_4 hΦ hR ⟨so_110, ⟨by omega, by omega⟩, ?_⟩
      rw [e3, wf_110_15 wk, wf_110_0 wk, e10, k15]
      refine ⟨⟨by omega, by omega⟩, fun c => absurd c (by omega), fun _ => ⟨ai_115 (by omega) (by omega), ⟨by omega, by omega⟩, fun c => c_m_one R32_0 ⟨by omega, by omega, ?_⟩, fun c => ⟨ai_111 (by decide) (by decide), c_m_has cr (by omega) (by omega) ⟨R32_one (bt_rg _ _), fun d => c_m_one R32_0 ⟨by omega, by omega, ?_⟩, fun d => c_m_one R32_1 ⟨by omega, by omega, ?_⟩⟩⟩⟩⟩
      · rw [if_pos rfl, nat_pw, n0 (by simp [p]; intro q; exact absurd q c)]; exact nx
      · rw [if_pos rfl, nat_pw, n0 (by simp [p]; intro _ q; exact absurd q d)]; exact nx
      · have : fs p (i + 1) = mor (fs p i) (1 * 2 ^ i) := by show (if p i then _ else _) = _; rw [if_pos (by simp [p, c, d])]
        rw [if_neg (by decide), nat_pw, ← this]; exact nx
  exact loop (nL μ).toNat 0 (by omega)
theorem RSx_r {μ : Mem} {on idl : Int} {ρ : Int → Int × Int} {b : Int} (rs : RSx μ on idl ρ b) {w : Int} (w0 : 0 ≤ w) (w1 : w < nW μ) : -24300000 ≤ (ρ w).1 ∧ (ρ w).1 ≤ 24300000 := by
  obtain ⟨-, -, -, g4, g5⟩ := (RS_gd rs w w0 w1).1
  exact ⟨g4, g5⟩
theorem RSx_1 {μ : Mem} {on idl : Int} {ρ : Int → Int × Int} {b : Int} (rs : RSx μ on idl ρ b) {w : Int} (w0 : 0 ≤ w) (w1 : w < nW μ) (hz : (ρ w).1 ≠ 0) : b = 0 := by
  rcases rs with ⟨e, -⟩ | ⟨-, -, -, z⟩
  · exact e
  · rw [z w w0 w1] at hz; exact absurd rfl hz
/-! with an idler at each link that meshes all turn the same way, if they turn at all without -/
def ab (r : Int × Int) : Int × Int := ((r.1.natAbs : Int), r.2)
theorem ab_stp {T : Int → Int} {k k' x y : Int} {r : Int × Int} (hy : 0 < T y) (hr : r.1 ≠ 0) (k1 : k' ≠ 0) (k2 : k' = 2 ↔ k = 2) : stp T k' x y (ab r) = ab (stp T k x y r) := by
  by_cases c : k = 2
  · have c' := k2.mpr c
    subst c
    subst c'
    rw [stp_a, stp_a]
    show ((r.1.natAbs : Int) * T y / (Int.gcd ((r.1.natAbs : Int) * T y) (r.2 * T x) : Int), r.2 * T x / (Int.gcd ((r.1.natAbs : Int) * T y) (r.2 * T x) : Int)) = (((r.1 * T y / (Int.gcd (r.1 * T y) (r.2 * T x) : Int)).natAbs : Int), r.2 * T x / (Int.gcd (r.1 * T y) (r.2 * T x) : Int))
    have e : (r.1.natAbs : Int) * T y = ((r.1 * T y).natAbs : Int) := by rw [Int.natAbs_mul, Int.natCast_mul, Int.natAbs_of_nonneg (show 0 ≤ T y by omega)]
    have eg : Int.gcd ((r.1 * T y).natAbs : Int) (r.2 * T x) = Int.gcd (r.1 * T y) (r.2 * T x) := by unfold Int.gcd; rw [Int.natAbs_natCast]
    rw [e, eg]
    have ha : r.1 * T y ≠ 0 := Int.mul_ne_zero hr (by omega)
    have hg : 0 < Int.gcd (r.1 * T y) (r.2 * T x) := Int.gcd_pos_of_ne_zero_left _ ha
    have d1 : (Int.gcd (r.1 * T y) (r.2 * T x) : Int) ∣ r.1 * T y := Int.gcd_dvd_left ..
    generalize Int.gcd (r.1 * T y) (r.2 * T x) = g at *
    obtain ⟨q, eq⟩ := d1
    have h1 : ((r.1 * T y).natAbs : Int) / (g : Int) = ((r.1 * T y / (g : Int)).natAbs : Int) := by
      rw [eq, Int.natAbs_mul, Int.natAbs_natCast, Int.natCast_mul, Int.mul_ediv_cancel_left _ (show (g : Int) ≠ 0 by omega), Int.mul_ediv_cancel_left _ (show (g : Int) ≠ 0 by omega)]
    rw [h1]
  · have c' : ¬ k' = 2 := fun q => c (k2.mp q)
    unfold stp
    rw [if_neg c, if_neg c', if_neg k1]
    by_cases d : k = 0
    · rw [if_pos d]
      show ab r = (((-r.1).natAbs : Int), r.2)
      rw [Int.natAbs_neg]; rfl
    · rw [if_neg d]
theorem ab_nz {r : Int × Int} : (ab r).1 ≠ 0 ↔ r.1 ≠ 0 := by
  show ((r.1.natAbs : Int) ≠ 0) ↔ _
  omega
theorem rch_mono {E E' : Int → Int → Int → Prop} {drv : Int} (h : ∀ k x y, E k x y → ∃ k', E' k' x y) : ∀ (n : Nat) (w : Int), Rch E drv n w → Rch E' drv n w
  | 0, w, r => r
  | n + 1, w, r => by
    rcases r with r | ⟨k, x, he, r⟩
    · exact Or.inl (rch_mono h n w r)
    · rcases he with he | he
      · obtain ⟨k', he'⟩ := h k x w he
        exact Or.inr ⟨k', x, Or.inl he', rch_mono h n x r⟩
      · obtain ⟨k', he'⟩ := h k w x he
        exact Or.inr ⟨k', x, Or.inr he', rch_mono h n x r⟩
theorem RS_ab {T : Int → Int} {E E' : Int → Int → Int → Prop} {drv R nw : Int} {ρ : Int → Int × Int} (hR : 0 ≤ R) (hE : ∀ k x y, E k x y → 0 < T x ∧ 0 < T y) (e1 : ∀ k x y, E k x y → ∃ k', E' k' x y) (e2 : ∀ k' x y, E' k' x y → k' ≠ 0 ∧ ∃ k, E k x y ∧ (k' = 2 ↔ k = 2)) (h : RS T drv R nw E ρ 0) : RS T drv R nw E' (fun w => ab (ρ w)) 0 := by
  rcases h with ⟨-, f, rc, z⟩ | ⟨e, -⟩
  · refine Or.inl ⟨rfl, fun n0 => ⟨?_, fun k' x y he hx => ?_, fun k' x y he hy => ?_⟩, fun w w0 w1 hw => ?_, fun w w0 w1 => ⟨fun hw => ?_, ?_⟩⟩
    · show ab (ρ drv) = (R, 1)
      rw [(f n0).1]
      show ((R.natAbs : Int), (1 : Int)) = (R, 1)
      rw [Int.natAbs_of_nonneg hR]
    · obtain ⟨q1, k, q2, q3⟩ := e2 k' x y he
      have hx := ab_nz.mp hx
      show ab (ρ y) = stp T k' x y (ab (ρ x))
      rw [ab_stp (hE k x y q2).2 hx q1 q3, (f n0).2.1 k x y q2 hx]
    · obtain ⟨q1, k, q2, q3⟩ := e2 k' x y he
      have hy := ab_nz.mp hy
      show ab (ρ x) = stp T k' y x (ab (ρ y))
      rw [ab_stp (hE k x y q2).1 hy q1 q3, (f n0).2.2 k x y q2 hy]
    · obtain ⟨n, hn⟩ := rc w w0 w1 (ab_nz.mp hw)
      exact ⟨n, rch_mono e1 n w hn⟩
    · have hw : (ab (ρ w)).1 = 0 := hw
      have : (ρ w).1 = 0 := Classical.byContradiction fun c => absurd hw (ab_nz.mpr c)
      show ab (ρ w) = (0, 1)
      rw [(z w w0 w1).1 this]; rfl
    · obtain ⟨g1, g2, g3, g4, g5⟩ := (z w w0 w1).2
      show Gd (((ρ w).1.natAbs : Int), (ρ w).2)
      refine ⟨?_, g2, g3, ?_, ?_⟩
      · show Int.gcd ((ρ w).1.natAbs : Int) (ρ w).2 = 1
        rw [← g1]; unfold Int.gcd; rw [Int.natAbs_natCast]
      · show -24300000 ≤ ((ρ w).1.natAbs : Int); omega
      · show ((ρ w).1.natAbs : Int) ≤ 24300000; omega
  · exact absurd e (by decide)
theorem gi_all {μ : Mem} {a b s A : Int} (h : Inv μ) (hA : ∀ l, 0 ≤ l → l < 32 → (bt_ A l = 1 ↔ al μ l)) (g : gi μ a b s) : gi μ a b A := by
  obtain ⟨sb, ρ, g1, g2, g3, -⟩ := g
  have hR := h.R
  have hl := h.nl
  have on : ∀ l, 0 ≤ l → l < 11 → bt_ (lon μ) l = 1 → (kdE μ (wW μ) A l ≠ 0) ∧ (kdE μ (wW μ) A l = 2 ↔ kdE μ (wW μ) s l = 2) := fun l l0 l1 e => by
    have ln := (lon_b h l0 (by omega)).mp e
    obtain ⟨⟨-, k0, k1⟩, -⟩ := h.L l0 ln.1
    have ha := hA l l0 (by omega)
    have hs : bt_ s l = 1 → al μ l := fun q => by
      have := sb l.toNat (by omega)
      rw [show ((l.toNat : Nat) : Int) = l by omega] at this
      exact this q
    unfold kdE
    by_cases c : μ (wW μ + 4) l = 0
    · rw [if_pos (ha.mpr ⟨ln.1, ln.2, c⟩), c]
      refine ⟨by decide, fun q => absurd q (by decide), fun q => ?_⟩
      split at q
      · omega
      · omega
    · rw [if_neg (fun q => c (ha.mp q).2.2), if_neg (fun q => c (hs q).2.2)]
      exact ⟨c, Iff.rfl⟩
  refine ⟨fun k hk e => (hA k (by omega) (by omega)).mp e, (fun w => ab (ρ w)), RS_ab (E := EE μ (wW μ) (lon μ) s) (by omega) (EE_T h (onL_lon h)) ?_ ?_ g1, ab_nz.mpr g2, ab_nz.mpr g3, ?_⟩
  · rintro k x y ⟨l, l0, l1, l2, -, l4, l5⟩
    exact ⟨_, l, l0, l1, l2, rfl, l4, l5⟩
  · rintro k x y ⟨l, l0, l1, l2, l3, l4, l5⟩
    rw [l3]
    exact ⟨(on l l0 l1 l2).1, _, ⟨l, l0, l1, l2, rfl, l4, l5⟩, (on l l0 l1 l2).2⟩
  · show (0 < ((ρ a).1.natAbs : Int)) ↔ (0 < ((ρ b).1.natAbs : Int))
    omega
theorem c7_wouldTurnAlike {G : Gm} {Q : Int → Mem → Prop} {μ κ : Mem} {a b s : Int} (h : Inv μ) (of : Off (FM 25) μ κ) (a0 : 0 ≤ a) (a1 : a < nW μ) (b0 : 0 ≤ b) (b1 : b < nW μ) (sr : R32 s) (sb : ∀ j : Nat, j < 32 → bt_ s (j : Int) = 1 → al μ j) (k1 : ∀ κ', Off (FM 25) μ κ' → gi μ a b s → Q 1 κ') (k0 : ∀ κ', Off (FM 25) μ κ' → ¬ gi μ a b s → Q 0 κ') : Ci G mX7_wouldTurnAlike [(2, 0), (0, a), (0, b), (0, s)] SHl κ Q := by
  have hn := h.nw
  have hk := FT_inv h of.t25
  obtain ⟨el, ew⟩ := lon_off h of
  refine eX7_wouldTurnAlike (fun Φ hΦ hR => bX7_wouldTurnAlike_0 hΦ hR ⟨so_0, c7_linksOn hk.1 hk.2.1 ?_⟩)
  rw [el, wf_0_4 hk.1, ew]
  refine ⟨so_25, c3_try h of (onL_lon h) sr (fun κ' o' rs tr tb => ?_)⟩
  have wk' := (FT_inv h o'.t25).1
  have tr' : R32 (κ' 25 4) := by have := (pw10 (n := (nW μ).toNat) (by omega)).1; exact ⟨by omega, by omega⟩
  have ra := RSx_r rs a0 a1
  have rb := RSx_r rs b0 b1
  have ta := tb a a0 a1
  have tb' := tb b b0 b1
  have un : gi μ a b s → κ' 26 a ≠ 0 ∧ κ' 26 b ≠ 0 ∧ (0 < κ' 26 a ↔ 0 < κ' 26 b) := fun g => by
    obtain ⟨-, ρ, g1, g2⟩ := g
    have u := (RSx_un h (onL_lon h) rs g1).2
    have ua : κ' 26 a = (ρ a).1 := congrArg Prod.fst (u a a0 a1)
    have ub : κ' 26 b = (ρ b).1 := congrArg Prod.fst (u b b0 b1)
    rw [ua, ub]; exact g2
  have ra : -24300000 ≤ κ' (25 + 1) a ∧ κ' (25 + 1) a ≤ 24300000 := ra
  have rb : -24300000 ≤ κ' (25 + 1) b ∧ κ' (25 + 1) b ≤ 24300000 := rb
  rw [wf_0_4 wk']
  refine ⟨so_25, c3_turns (Or.inr rfl) tr' a0 (by omega) ?_⟩
  by_cases ca : bt_ (κ' 25 4) a = 1
  · rw [if_pos ca, wf_0_4 wk']
    refine ⟨R32_1, fun e => absurd e (by decide), fun _ => ⟨so_25, c3_turns (Or.inr rfl) tr' b0 (by omega) ?_⟩⟩
    by_cases cb : bt_ (κ' 25 4) b = 1
    · rw [if_pos cb, wf_0_4 wk']
      refine ⟨R32_1, fun e => absurd e (by decide), fun _ => ⟨so_25, c3_turnAlike wk' (Or.inr rfl) ⟨a0, by omega⟩ ⟨b0, by omega⟩ ⟨by omega, by omega⟩ ⟨by omega, by omega⟩ ?_⟩⟩
      by_cases cc : (0 < κ' (25 + 1) a ↔ 0 < κ' (25 + 1) b)
      · rw [if_pos cc]
        have z := RSx_1 rs a0 a1 (ta.mp ca)
        exact ⟨R32_1, fun e => absurd e (by decide), fun _ => k1 κ' o' ⟨sb, _, by rw [z] at rs; exact rs, ta.mp ca, tb'.mp cb, cc⟩⟩
      · rw [if_neg cc]
        exact ⟨R32_0, fun _ => k0 κ' o' (fun g => cc (un g).2.2), fun e => absurd rfl e⟩
    · rw [if_neg cb]
      exact ⟨R32_0, fun _ => k0 κ' o' (fun g => cb (tb'.mpr (un g).2.1)), fun e => absurd rfl e⟩
  · rw [if_neg ca]
    exact ⟨R32_0, fun _ => k0 κ' o' (fun g => ca (ta.mpr (un g).1)), fun e => absurd rfl e⟩
theorem c7_fewestIdlers {G : Gm} {Q : Int → Mem → Prop} {μ : Mem} {a b : Int} (h : Inv μ) (a0 : 0 ≤ a) (a1 : a < nW μ) (b0 : 0 ≤ b) (b1 : b < nW μ) (k : ∀ κ v, Off (FM 25) μ κ → IsB (gi μ a b) (2 ^ (nL μ).toNat) v → Q v κ) : Ci G mX7_fewestIdlers [(2, 0), (0, a), (0, b)] SHl μ Q := by
  have lr := lon_rg h
  have hl := h.nl
  have hn := h.nw
  have p10 := pw10 (n := (nL μ).toNat) (by omega)
  refine eX7_fewestIdlers (fun Φ hΦ hR => bX7_fewestIdlers_0 hΦ hR ⟨so_0, c7_linksOn h.1 h.2.1 ⟨so_W h.2.1.1, c6_mesh h (fun t tr tb => ?_)⟩⟩)
  have ab : ∀ l, 0 ≤ l → l < 32 → (bt_ (mand (lon μ) t) l = 1 ↔ al μ l) := fun l l0 l1 => by
    have hm := bt_mand (x := lon μ) (y := t) (mand_r _ _) tr (k := l.toNat) (by omega)
    rw [show ((l.toNat : Nat) : Int) = l by omega] at hm
    rw [hm]
    have p := lon_b h l0 l1
    have q := tb l l0 l1
    unfold al
    by_cases c : bt_ (lon μ) l = 1 ∧ bt_ t l = 1
    · rw [if_pos c]
      exact ⟨fun _ => ⟨(p.mp c.1).1, (p.mp c.1).2, (q.mp c.2).2⟩, fun _ => rfl⟩
    · rw [if_neg c]
      exact ⟨fun e => absurd e (by decide), fun e => absurd ⟨p.mpr ⟨e.1, e.2.1⟩, q.mpr ⟨e.1, e.2.2⟩⟩ c⟩
  have ar := rg_bt (x := mand (lon μ) t) (mand_r _ _) (n := (nL μ).toNat) (by omega) (fun j h0 h1 => by
    have := ab j (by omega) (by omega)
    rcases bt_01 (x := mand (lon μ) t) (k := (j : Int)) with e | e
    · exact e
    · have := (this.mp e).1; omega)
  generalize hA : mand (lon μ) t = A at *
  have Ar : R32 A := ⟨by omega, by omega⟩
  have sub : ∀ s, gi μ a b s → ∀ j : Nat, j < 32 → bt_ s (j : Int) = 1 → bt_ A (j : Int) = 1 := fun s g j hj e => (ab j (by omega) (by omega)).mpr (g.1 j hj e)
  refine c7_wouldTurnAlike h Off.rf a0 a1 b0 b1 Ar (fun j hj e => (ab j (by omega) (by omega)).mp e) (fun κ0 o0 gA => ⟨R32_1, fun _ => ?_, fun e => absurd e (by decide)⟩) (fun κ0 o0 gA => ⟨R32_0, fun e => absurd rfl e, fun _ => k κ0 (-1) o0 (Or.inl ⟨rfl, fun s s0 s1 g => gA (gi_all h ab g)⟩)⟩)
  have loop : ∀ (m : Nat) (s v : Int) (κ : Mem), 0 ≤ s → s + m = A → Off (FM 25) μ κ → (0 ≤ v ∧ v < 1024) → IsA (gi μ a b) A s v → Ex G Φ 6 31 [some (2, 0), some (0, a), some (0, b), some (0, A), some (0, v), some (0, s)] [] SHl κ 0 0 := by
    intro m
    induction m with
    | zero =>
      intro s v κ s0 hs of vr hb
      have e : s = A := by omega
      rw [e] at hb
      refine bX7_fewestIdlers_31 hΦ hR ⟨⟨by omega, by omega⟩, Ar, fun _ => k κ v of (IsB_up (IsA_fin hb ar.1 (by omega) gA sub) (by omega) (fun x x0 x1 gx => ?_)), fun c => absurd (by omega) c⟩
      have := sub_le (x := x) (y := A) (by omega) (by omega) ar.1 (sub x gx)
      omega
    | succ m ih =>
      intro s v κ s0 hs of vr hb
      have sr : R32 s := ⟨by omega, by omega⟩
      refine bX7_fewestIdlers_31 hΦ hR ⟨sr, Ar, fun c => absurd c (by omega), fun _ => c7_isFewer ⟨s0, by omega⟩ vr Ar (fun sb fw => ⟨R32_1, fun e => absurd e (by decide), fun _ => ⟨so_0, c7_wouldTurnAlike h of a0 a1 b0 b1 sr (fun j hj e => (ab j (by omega) (by omega)).mp (sb j hj e)) (fun κ' o' g => ⟨R32_1, fun e => absurd e (by decide), fun _ => ih (s + 1) s κ' (by omega) (by omega) o' ⟨s0, by omega⟩ (IsA_new hb s0 g fw)⟩) (fun κ' o' g => ⟨R32_0, fun _ => ih (s + 1) v κ' (by omega) (by omega) o' vr (IsA_no hb g), fun e => absurd rfl e⟩)⟩⟩) (fun w => ⟨R32_0, fun _ => ih (s + 1) v κ (by omega) (by omega) of vr ?_, fun e => absurd rfl e⟩)⟩
      by_cases sb : ∀ k : Nat, k < 32 → bt_ s (k : Int) = 1 → bt_ A (k : Int) = 1
      · exact IsA_worse hb s0 (by omega) (by omega) sb (w sb)
      · exact IsA_no hb (fun g => sb (sub s g))
  exact loop A.toNat 0 A κ0 (by decide) (by omega) o0 ⟨ar.1, by omega⟩ IsA_0
theorem c8_idlers {G : Gm} {Q : Int → Mem → Prop} {μ : Mem} {a b w : Int} (h : Inv μ) (ha : R32 a) (hb : R32 b) (hw : 0 ≤ w ∧ w ≤ 1) (a0 : 0 ≤ a) (a1 : a < nW μ) (b0 : 0 ≤ b) (b1 : b < nW μ) (ne : a ≠ b) (k : ∀ κ v, Off FR' μ κ → IsB (gi μ a b) (2 ^ (nL μ).toNat) v → Q (if v = -1 then -1 else if w = 0 then pc v 10 else v) κ) : Ci G mX8_idlers [(2, 110), (0, a), (0, b), (0, w)] SHl μ Q := by
  have hl := h.nl
  have hn := h.nw
  have p10 := pw10 (n := (nL μ).toNat) (by omega)
  have ic := h.2.2.2.1.c
  have icr := ic.r h.2.1
  have cr : R32 (μ 29 2) := ⟨by omega, by omega⟩
  have wr : R32 w := ⟨by omega, by omega⟩
  refine eX8_idlers (fun Φ hΦ hR => bX8_idlers_0 hΦ hR ⟨so_110, c8_isW h ha (fun _ _ => yes'_ (c8_isW h hb (fun _ _ => yes'_ ⟨ha, hb, fun _ => ⟨wr, c_m_in (r64 wr) ⟨by decide, by decide⟩ ⟨by decide, by decide⟩ (fun _ _ => yes_ ?_) (fun c => absurd hw c)⟩, fun e => absurd e ne⟩) (fun c => absurd ⟨b0, b1⟩ c))) (fun c => absurd ⟨a0, a1⟩ c)⟩)
  rintro m2 e2
  have of2 : Off FR' μ m2 := by rw [e2]; exact Off.mu Off.rf (Or.inr ⟨rfl, rfl⟩)
  have loop : ∀ (m : Nat) (s v : Int) (κ : Mem), 0 ≤ s → s + m = 2 ^ (nL μ).toNat → Off FR' μ κ → κ 110 30 = 0 → IsB (gi μ a b) s v → Ex G Φ 7 48 [some (2, 110), some (0, a), some (0, b), some (0, w), some (0, v), some (0, s), none] [] SHl κ 0 0 := by
    intro m
    induction m with
    | zero =>
      intro s v κ s0 hs of h30 hb
      have br := IsB_rg hb
      have e3 : κ 110 3 = nL μ := (of _ _ (by unfold FR' FR; omega)).trans hl.1.symm
      have fin := k κ v of (by rw [show (2 : Int) ^ (nL μ).toNat = s by omega]; exact hb)
      refine bX8_idlers_48 hΦ hR ⟨so_110, ?_⟩
      rw [e3]
      refine ⟨by omega, by omega, ⟨by omega, by omega⟩, ⟨by omega, by omega⟩, fun _ => ⟨⟨by omega, by omega⟩, fun c => ?_, fun c => ⟨wr, fun d => c8_ones ⟨by omega, by omega⟩ ?_, fun d => ?_⟩⟩, fun c => absurd (by omega) c⟩
      · rw [if_pos (by omega)] at fin; rw [show v = -1 by omega]; exact fin
      · rw [if_neg (by omega), if_pos (by omega)] at fin; exact fin
      · rw [if_neg (by omega), if_neg (by omega)] at fin; exact fin
    | succ m ih =>
      intro s v κ s0 hs of h30 hb
      have br := IsB_rg hb
      have sr : R32 s := ⟨by omega, by omega⟩
      have vr : R32 v := ⟨by omega, by omega⟩
      have e3 : κ 110 3 = nL μ := (of _ _ (by unfold FR' FR; omega)).trans hl.1.symm
      have wk := (FT_inv h of.tR).1
      have e10 : κ 111 10 = μ 29 2 := (of _ _ (by unfold FR' FR; omega)).trans ic.1
      have no : ∀ κ', Off FR' μ κ' → κ' 110 30 = 0 → ¬ gi μ a b s → Ex G Φ 7 48 [some (2, 110), some (0, a), some (0, b), some (0, w), some (0, v), some (0, s + 1), none] [] SHl κ' 0 0 := fun κ' o z n => ih (s + 1) v κ' (by omega) (by omega) o z (IsB_no hb n)
      have yes : (∀ j : Nat, j < 32 → bt_ s (j : Int) = 1 → al μ j) → (0 ≤ v → pc s 10 < pc v 10) → Ex G Φ 7 89 [some (2, 110), some (0, a), some (0, b), some (0, w), some (0, v), some (0, s), none] [] SHl κ 0 0 := fun sb fw => by
        refine bX8_idlers_89 hΦ hR ⟨so_110, ?_⟩
        rw [wf_110_0 wk, e10]
        refine ⟨ai_111 (by decide) (by decide), c8_try (on := lon μ) h of h30 (onL_lon h) sr ⟨cr, fun l l0 l1 => ⟨?_, fun _ e => ?_⟩⟩ (fun κ' o' z' rs => ?_)⟩
        · rw [lon_b h l0 (by omega)]
          exact ⟨fun e => ⟨l1, e⟩, fun e => e.2⟩
        · have := sb l.toNat (by omega)
          rw [show ((l.toNat : Nat) : Int) = l by omega] at this
          exact (this e).2.2
        have wk' := (FT_inv h o'.tR).1
        have un : gi μ a b s → κ' 110 29 = 0 ∧ κ' 122 a ≠ 0 ∧ κ' 122 b ≠ 0 ∧ (0 < κ' 122 a ↔ 0 < κ' 122 b) := fun g => by
          obtain ⟨-, ρ, g1, g2⟩ := g
          have u0 := RSx_un h (onL_lon h) rs g1
          have u := u0.2
          have ua : κ' 122 a = (ρ a).1 := congrArg Prod.fst (u a a0 a1)
          have ub : κ' 122 b = (ρ b).1 := congrArg Prod.fst (u b b0 b1)
          rw [ua, ub]; exact ⟨u0.1, g2⟩
        have ra : -24300000 ≤ κ' 122 a ∧ κ' 122 a ≤ 24300000 := RSx_r rs a0 a1
        have rb : -24300000 ≤ κ' 122 b ∧ κ' 122 b ≤ 24300000 := RSx_r rs b0 b1
        have good : κ' 110 29 = 0 → κ' 122 a ≠ 0 → κ' 122 b ≠ 0 → (0 < κ' 122 a ↔ 0 < κ' 122 b) → Ex G Φ 7 48 [some (2, 110), some (0, a), some (0, b), some (0, w), some (0, s), some (0, s + 1), none] [] SHl κ' 0 0 := fun c1 c2 c3 c4 => ih (s + 1) s κ' (by omega) (by omega) o' z' (IsB_new hb s0 ⟨sb, _, by rw [c1] at rs; exact rs, c2, c3, c4⟩ fw)
        rw [wf_110_27 wk']
        refine ⟨r5_25 rs, fun c1 => no κ' o' z' (fun g => c1 (un g).1), fun c1 => ⟨ai_122 a0 (by omega), ⟨by omega, by omega⟩, fun c2 => no κ' o' z' (fun g => (un g).2.1 c2), fun c2 => ⟨ai_122 b0 (by omega), ⟨by omega, by omega⟩, fun c3 => no κ' o' z' (fun g => (un g).2.2.1 c3), fun c3 => ⟨fun c4 => ⟨fun c5 => ?_, fun c5 => ?_⟩, fun c4 => ⟨fun c5 => ?_, fun c5 => ?_⟩⟩⟩⟩⟩
        · exact bX8_idlers_163 hΦ hR ⟨R32_0, R32_0, fun e => absurd rfl e, fun _ => good c1 c2 c3 (by omega)⟩
        · exact bX8_idlers_163 hΦ hR ⟨R32_0, R32_1, fun _ => no κ' o' z' (fun g => by have := (un g).2.2.2; omega), fun e => absurd e (by decide)⟩
        · exact bX8_idlers_163 hΦ hR ⟨R32_1, R32_0, fun _ => no κ' o' z' (fun g => by have := (un g).2.2.2; omega), fun e => absurd e (by decide)⟩
        · exact bX8_idlers_163 hΦ hR ⟨R32_1, R32_1, fun e => absurd rfl e, fun _ => good c1 c2 c3 (by omega)⟩
      refine bX8_idlers_48 hΦ hR ⟨so_110, ?_⟩
      rw [e3]
      refine ⟨by omega, by omega, sr, ⟨by omega, by omega⟩, fun c => absurd c (by omega), fun _ => c8_meshing h of (fun t tr tb => ?_)⟩
      have sm : mand s (mxor t (-1)) = 0 ↔ ∀ j : Nat, j < 32 → bt_ s (j : Int) = 1 → al μ j := by
        rw [mand_sub sr tr]
        exact ⟨fun q j hj e => (tb j (by omega) (by omega)).mp (q j hj e), fun q j hj e => (tb j (by omega) (by omega)).mpr (q j hj e)⟩
      have r1 := pc_rg s 10
      have r2 := pc_rg v 10
      exact ⟨mand_r _ _, fun c => no κ of h30 (fun g => c (sm.mpr g.1)), fun c => ⟨vr, fun b0 => yes (sm.mp c) (fun q => by omega), fun b0 => c8_ones sr (c8_ones vr ⟨⟨by omega, by omega⟩, ⟨by omega, by omega⟩, fun d => ih (s + 1) v κ (by omega) (by omega) of h30 (IsB_worse hb (by omega) d), fun d => yes (sm.mp c) (fun _ => by omega)⟩)⟩⟩
  exact loop (2 ^ (nL μ).toNat : Int).toNat 0 (-1) m2 (by decide) (by omega) of2 (by rw [e2, mu_same]) IsB_0
theorem st_idlers {G : Gm} {μ : Mem} {a0 a1 a2 : Int} (h : Inv μ) (ha0 : R32 a0) (ha1 : R32 a1) (ha2 : R32 a2) : Both G mX7_idlers mX8_idlers [(0, a0), (0, a1), (0, a2)] μ := by
  have un : ¬ ((0 ≤ a0 ∧ a0 < nW μ) ∧ (0 ≤ a1 ∧ a1 < nW μ) ∧ a0 ≠ a1) → Ci G mX8_idlers [(2, 110), (0, a0), (0, a1), (0, a2)] SHl μ (fun r' μ2 => -1000000001 = r' ∧ R32 (-1000000001) ∧ Inv μ2) := fun c =>
    eX8_idlers (fun Φ hΦ hR => bX8_idlers_0 hΦ hR ⟨so_110, c8_isW h ha0 (fun x0 x1 => yes'_ (c8_isW h ha1 (fun y0 y1 => yes'_ ⟨ha0, ha1, fun e => absurd ⟨⟨x0, x1⟩, ⟨y0, y1⟩, e⟩ c, fun _ => ⟨rfl, by decide, h⟩⟩) (fun _ => no'_ ⟨rfl, by decide, h⟩))) (fun _ => no'_ ⟨rfl, by decide, h⟩)⟩)
  refine eX7_idlers (fun Φ hΦ hR => bX7_idlers_0 hΦ hR ⟨so_0, c7_areTwo h ha0 ha1 (fun x0 x1 y0 y1 ne => yes_ ?_) (fun c => no_ (un c))⟩)
  have out : ¬ (0 ≤ a2 ∧ a2 ≤ 1) → Ci G mX8_idlers [(2, 110), (0, a0), (0, a1), (0, a2)] SHl μ (fun r' μ2 => -1000000002 = r' ∧ R32 (-1000000002) ∧ Inv μ2) := fun c =>
    eX8_idlers (fun Φ hΦ hR => bX8_idlers_0 hΦ hR ⟨so_110, c8_isW h ha0 (fun _ _ => yes'_ (c8_isW h ha1 (fun _ _ => yes'_ ⟨ha0, ha1, fun _ => ⟨ha2, c_m_in (r64 ha2) ⟨by decide, by decide⟩ ⟨by decide, by decide⟩ (fun c1 c2 => absurd ⟨c1, c2⟩ c) (fun _ => no_ ⟨rfl, by decide, h⟩)⟩, fun e => absurd e ne⟩) (fun d => absurd ⟨y0, y1⟩ d))) (fun d => absurd ⟨x0, x1⟩ d)⟩)
  refine ⟨ha2, fun c => out (by omega), fun c => ⟨fun c1 => c7_fewestIdlers h x0 x1 y0 y1 (fun κ v of hb => ?_), fun c1 => out (by omega)⟩⟩
  have hl := h.nl
  have p10 := pw10 (n := (nL μ).toNat) (by omega)
  have br := IsB_rg hb
  obtain ⟨hk, en, el⟩ := off8 h of.t25
  have pr := pc_rg v 10
  refine c7_howManyOrWhich (by omega) ha2 (c8_idlers hk ha0 ha1 ⟨by omega, c1⟩ x0 (by rw [en]; exact x1) y0 (by rw [en]; exact y1) ne (fun κ2 v2 of2 hb2 => ?_))
  rw [el] at hb2
  have e := IsB_un hb (IsB_iff (fun s => gi_eq h of.t25) hb2)
  subst e
  refine ⟨rfl, ?_, FT_inv hk of2.tR⟩
  split
  · decide
  · split
    · exact ⟨by omega, by omega⟩
    · exact ⟨by omega, by omega⟩
