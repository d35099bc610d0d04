/-! RATES along a tree of links -/
theorem gcd_q {a b : Int} (h : 0 < Int.gcd a b) : Int.gcd (a / (Int.gcd a b : Int)) (b / (Int.gcd a b : Int)) = 1 := by
  have h1 : (Int.gcd a b : Int) ∣ a := Int.gcd_dvd_left ..
  have h2 : (Int.gcd a b : Int) ∣ b := Int.gcd_dvd_right ..
  rw [Int.gcd_ediv h1 h2, Int.natAbs_natCast, Nat.div_self h]
def Dep (T : Int → Int) (E : Int → Int → Int → Prop) (drv : Int) (d : Nat) (w : Int) (r : Int × Int) : Prop :=
  Rch E drv d w ∧ r.1 ≠ 0 ∧ Int.gcd r.1 r.2 = 1 ∧ 1 ≤ r.2 ∧ ∃ (j : Nat) (N D : Int), r.1 * D = N * r.2 ∧ D ≠ 0 ∧ D.natAbs ≤ 30 ^ j ∧ N.natAbs ≤ 30 ^ (j + 1) ∧ (2 * j ≤ d ∨ (2 * j ≤ d + 1 ∧ ∃ M : Int, N = M * T w ∧ M.natAbs ≤ 30 ^ j))
theorem stp_m {T : Int → Int} {x y : Int} {r : Int × Int} : stp T 0 x y r = (-r.1, r.2) := rfl
theorem stp_b {T : Int → Int} {x y : Int} {r : Int × Int} : stp T 1 x y r = r := rfl
theorem stp_a {T : Int → Int} {x y : Int} {r : Int × Int} : stp T 2 x y r = ((r.1 * T y) / (Int.gcd (r.1 * T y) (r.2 * T x) : Int), (r.2 * T x) / (Int.gcd (r.1 * T y) (r.2 * T x) : Int)) := rfl
theorem dep_stp {T : Int → Int} {E : Int → Int → Int → Prop} {drv k x y : Int} {d : Nat} {r : Int × Int} (h : Dep T E drv d x r) (hk : k = 0 ∨ k = 1 ∨ k = 2) (hx : 3 ≤ T x ∧ T x ≤ 30) (hy : 3 ≤ T y ∧ T y ≤ 30) (he : E k x y ∨ E k y x) : Dep T E drv (d + 1) y (stp T k x y r) := by
  obtain ⟨h1, h2, h3, h4, j, N, D, h5, h6, h7, h8, h9⟩ := h
  have R : Rch E drv (d + 1) y := Or.inr ⟨k, x, he, h1⟩
  have st : 2 * j ≤ d + 1 := by rcases h9 with h9 | h9 <;> omega
  rcases hk with rfl | rfl | rfl
  · rw [stp_m]
    exact ⟨R, by show -r.1 ≠ 0; omega, by rw [Int.neg_gcd]; exact h3, h4, j, -N, D, by rw [Int.neg_mul, Int.neg_mul, h5], h6, h7, by rw [Int.natAbs_neg]; exact h8, Or.inl st⟩
  · rw [stp_b]
    exact ⟨R, h2, h3, h4, j, N, D, h5, h6, h7, h8, Or.inl st⟩
  · rw [stp_a]
    have ha : r.1 * T y ≠ 0 := Int.mul_ne_zero h2 (by omega)
    have hb : 0 < r.2 * T x := Int.mul_pos (by omega) (by omega)
    have hg : 0 < Int.gcd (r.1 * T y) (r.2 * T x) := Int.gcd_pos_of_ne_zero_left _ ha
    have d1 : (Int.gcd (r.1 * T y) (r.2 * T x) : Int) ∣ r.1 * T y := Int.gcd_dvd_left ..
    have d2 : (Int.gcd (r.1 * T y) (r.2 * T x) : Int) ∣ r.2 * T x := Int.gcd_dvd_right ..
    have hq := gcd_q hg
    obtain ⟨a', ea⟩ := d1
    obtain ⟨b', eb⟩ := d2
    generalize eg : (Int.gcd (r.1 * T y) (r.2 * T x) : Int) = g at *
    have hg0 : 0 < g := by omega
    have qa : r.1 * T y / g = a' := by rw [ea]; exact Int.mul_ediv_cancel_left _ (by omega)
    have qb : r.2 * T x / g = b' := by rw [eb]; exact Int.mul_ediv_cancel_left _ (by omega)
    rw [qa, qb] at hq ⊢
    have ha0 : a' ≠ 0 := fun c => ha (by rw [ea, c, Int.mul_zero])
    have hb0 : 1 ≤ b' := by
      rcases Int.lt_or_le 0 b' with c | c
      · omega
      · have : g * b' ≤ 0 := Int.mul_nonpos_of_nonneg_of_nonpos (by omega) c
        omega
    refine ⟨R, ha0, hq, hb0, ?_⟩
    rcases h9 with h9 | ⟨h9, M, hM, hM2⟩
    · refine ⟨j + 1, N * T y, D * T x, ?_, Int.mul_ne_zero h6 (by omega), ?_, ?_, Or.inr ⟨by omega, N, rfl, h8⟩⟩
      · apply Int.eq_of_mul_eq_mul_left (show g ≠ 0 by omega)
        show g * (a' * (D * T x)) = g * (N * T y * b')
        calc g * (a' * (D * T x)) = (g * a') * (D * T x) := by rw [Int.mul_assoc]
          _ = r.1 * T y * (D * T x) := by rw [ea]
          _ = (r.1 * D) * (T y * T x) := by simp only [Int.mul_comm, Int.mul_left_comm]
          _ = (N * r.2) * (T y * T x) := by rw [h5]
          _ = N * T y * (r.2 * T x) := by simp only [Int.mul_comm, Int.mul_left_comm]
          _ = N * T y * (g * b') := by rw [eb]
          _ = g * (N * T y * b') := by simp only [Int.mul_left_comm]
      · rw [Int.natAbs_mul, Nat.pow_succ]; exact Nat.mul_le_mul h7 (by omega)
      · rw [Int.natAbs_mul, Nat.pow_succ]; exact Nat.mul_le_mul h8 (by omega)
    · refine ⟨j, M * T y, D, ?_, h6, h7, ?_, Or.inr ⟨by omega, M, rfl, hM2⟩⟩
      · apply Int.eq_of_mul_eq_mul_left (show g ≠ 0 by omega)
        show g * (a' * D) = g * (M * T y * b')
        calc g * (a' * D) = (g * a') * D := by rw [Int.mul_assoc]
          _ = r.1 * T y * D := by rw [ea]
          _ = (r.1 * D) * T y := by simp only [Int.mul_comm, Int.mul_left_comm]
          _ = (M * T x * r.2) * T y := by rw [h5, hM]
          _ = M * T y * (r.2 * T x) := by simp only [Int.mul_comm, Int.mul_left_comm]
          _ = M * T y * (g * b') := by rw [eb]
          _ = g * (M * T y * b') := by simp only [Int.mul_left_comm]
      · rw [Int.natAbs_mul, Nat.pow_succ]; exact Nat.mul_le_mul hM2 (by omega)
theorem pow30 : ∀ j : Nat, j < 5 → 30 ^ j ≤ 810000 ∧ 30 ^ (j + 1) ≤ 24300000 := by decide
theorem dep_gd {T : Int → Int} {E : Int → Int → Int → Prop} {drv x : Int} {d : Nat} {r : Int × Int} (h : Dep T E drv d x r) (hd : d ≤ 8) : Gd r := by
  obtain ⟨h1, h2, h3, h4, j, N, D, h5, h6, h7, h8, h9⟩ := h
  have hj : j < 5 := by rcases h9 with h9 | h9 <;> omega
  obtain ⟨p1, p2⟩ := pow30 j hj
  have hN : N ≠ 0 := by
    intro c
    rw [c, Int.zero_mul] at h5
    rcases Int.mul_eq_zero.mp h5 with c | c
    · exact h2 c
    · exact h6 c
  have hc : Nat.Coprime r.1.natAbs r.2.natAbs := h3
  have hm : r.1.natAbs * D.natAbs = N.natAbs * r.2.natAbs := by rw [← Int.natAbs_mul, ← Int.natAbs_mul, h5]
  have e1 : r.2.natAbs ∣ D.natAbs := hc.symm.dvd_of_dvd_mul_left ⟨N.natAbs, by rw [hm, Nat.mul_comm]⟩
  have e2 : r.1.natAbs ∣ N.natAbs := hc.dvd_of_dvd_mul_right ⟨D.natAbs, hm.symm⟩
  have hD' : 0 < D.natAbs := Int.natAbs_pos.mpr h6
  have hN' : 0 < N.natAbs := Int.natAbs_pos.mpr hN
  have b1 : r.2.natAbs ≤ D.natAbs := Nat.le_of_dvd hD' e1
  have b2 : r.1.natAbs ≤ N.natAbs := Nat.le_of_dvd hN' e2
  clear h9 h5 hm
  exact ⟨h3, h4, by omega, by omega, by omega⟩
theorem dep_0 {T : Int → Int} {E : Int → Int → Int → Prop} {drv R : Int} (hR : 1 ≤ R ∧ R ≤ 30) : Dep T E drv 0 drv (R, 1) :=
  ⟨rfl, by show R ≠ 0; omega, by simp, by show (1 : Int) ≤ 1; decide, 0, R, 1, rfl, by decide, by decide, by show R.natAbs ≤ 30; omega, Or.inl (Nat.le_refl _)⟩
theorem nodup_len : ∀ (n : Nat) (L : List Int), L.Nodup → (∀ x ∈ L, 0 ≤ x ∧ x < n) → L.length ≤ n
  | 0, L, _, h => by
    cases L with
    | nil => exact Nat.le_refl _
    | cons a t => have := h a List.mem_cons_self; omega
  | n + 1, L, hd, h => by
    by_cases c : (n : Int) ∈ L
    · have h2 := nodup_len n (L.erase n) (hd.erase _) (fun x hx => by
        have hx2 := (hd.mem_erase_iff).mp hx
        have := h x hx2.2
        have := hx2.1
        omega)
      rw [List.length_erase_of_mem c] at h2
      omega
    · have h2 := nodup_len n L hd (fun x hx => by
        have := h x hx
        have : x ≠ n := fun e => c (e ▸ hx)
        omega)
      omega
/-- rates that were found so far: of the wheels of a list, each by links from one that is ahead of it -/
def Tree (T : Int → Int) (E : Int → Int → Int → Prop) (drv R nw : Int) (ρ : Int → Int × Int) (L : List Int) : Prop :=
  L.Nodup ∧ drv ∈ L ∧ ρ drv = (R, 1) ∧ (∀ x ∈ L, 0 ≤ x ∧ x < nw ∧ (∃ d : Nat, d < L.length ∧ Dep T E drv d x (ρ x)) ∧ ∀ ρ', Fit T drv R E ρ' → ρ' x = ρ x) ∧ ∀ x, 0 ≤ x → x < nw → x ∉ L → ρ x = (0, 1)
theorem Tree.len {T : Int → Int} {E : Int → Int → Int → Prop} {drv R nw : Int} {ρ : Int → Int × Int} {L : List Int} (h : Tree T E drv R nw ρ L) (hn : nw ≤ 8) : L.length ≤ 8 :=
  nodup_len 8 L h.1 (fun x hx => by have := h.2.2.2.1 x hx; omega)
theorem Tree.gd {T : Int → Int} {E : Int → Int → Int → Prop} {drv R nw : Int} {ρ : Int → Int × Int} {L : List Int} (h : Tree T E drv R nw ρ L) (hn : nw ≤ 8) {x : Int} (hx : x ∈ L) : Gd (ρ x) := by
  obtain ⟨_, _, ⟨d, hd, hdep⟩, _⟩ := h.2.2.2.1 x hx
  have := h.len hn
  exact dep_gd hdep (by omega)
theorem Tree.nz {T : Int → Int} {E : Int → Int → Int → Prop} {drv R nw : Int} {ρ : Int → Int × Int} {L : List Int} (h : Tree T E drv R nw ρ L) {x : Int} (h0 : 0 ≤ x) (h1 : x < nw) : x ∈ L ↔ (ρ x).1 ≠ 0 := by
  constructor
  · intro hx
    obtain ⟨_, _, ⟨d, _, hdep⟩, _⟩ := h.2.2.2.1 x hx
    exact hdep.2.1
  · intro hx
    exact Classical.byContradiction fun c => hx (by rw [h.2.2.2.2 x h0 h1 c])
theorem Tree.gd' {T : Int → Int} {E : Int → Int → Int → Prop} {drv R nw : Int} {ρ : Int → Int × Int} {L : List Int} (h : Tree T E drv R nw ρ L) (hn : nw ≤ 8) {x : Int} (h0 : 0 ≤ x) (h1 : x < nw) : Gd (ρ x) := by
  by_cases hx : x ∈ L
  · exact h.gd hn hx
  · rw [h.2.2.2.2 x h0 h1 hx]; exact ⟨by decide, by decide, by decide, by decide, by decide⟩
theorem fit_step {T : Int → Int} {E : Int → Int → Int → Prop} {drv R k x y : Int} {ρ' : Int → Int × Int} (hf : Fit T drv R E ρ') (hx : (ρ' x).1 ≠ 0) (he : E k x y ∨ E k y x) : ρ' y = stp T k x y (ρ' x) := by
  rcases he with he | he
  · exact hf.2.1 k x y he hx
  · exact hf.2.2 k y x he hx
def ru (ρ : Int → Int × Int) (y : Int) (r : Int × Int) : Int → Int × Int := fun w => if w = y then r else ρ w
theorem Tree.add {T : Int → Int} {E : Int → Int → Int → Prop} {drv R nw k x y : Int} {ρ : Int → Int × Int} {L : List Int} (h : Tree T E drv R nw ρ L) (hT : ∀ w, 0 ≤ w → w < nw → 3 ≤ T w ∧ T w ≤ 30) (hx : x ∈ L) (hy : y ∉ L) (h0 : 0 ≤ y) (h1 : y < nw) (hk : k = 0 ∨ k = 1 ∨ k = 2) (he : E k x y ∨ E k y x) : Tree T E drv R nw (ru ρ y (stp T k x y (ρ x))) (L ++ [y]) := by
  obtain ⟨a1, a2, a3, a4, a5⟩ := h
  have ne : ∀ z ∈ L, z ≠ y := fun z hz c => hy (c ▸ hz)
  have keep : ∀ z ∈ L, ru ρ y (stp T k x y (ρ x)) z = ρ z := fun z hz => by unfold ru; rw [if_neg (ne z hz)]
  have at_y : ru ρ y (stp T k x y (ρ x)) y = stp T k x y (ρ x) := by unfold ru; rw [if_pos rfl]
  obtain ⟨x0, x1, ⟨d, hd, hdep⟩, hfo⟩ := a4 x hx
  refine ⟨?_, List.mem_append_left _ a2, by rw [keep _ a2]; exact a3, ?_, ?_⟩
  · rw [List.nodup_append]
    exact ⟨a1, by simp, fun a ha b hb => by rw [List.mem_singleton.mp hb]; exact ne a ha⟩
  · intro z hz
    rcases List.mem_append.mp hz with hz | hz
    · obtain ⟨z0, z1, ⟨d', hd', hdep'⟩, hfo'⟩ := a4 z hz
      rw [keep z hz]
      exact ⟨z0, z1, ⟨d', by simp; omega, hdep'⟩, hfo'⟩
    · rw [List.mem_singleton.mp hz, at_y]
      refine ⟨h0, h1, ⟨d + 1, by simp; omega, dep_stp hdep hk (hT x x0 x1) (hT y h0 h1) he⟩, fun ρ' hf => ?_⟩
      have e := hfo ρ' hf
      rw [← e]
      exact fit_step hf (by rw [e]; exact hdep.2.1) he
  · intro z z0 z1 hz
    have : z ≠ y := fun c => hz (by rw [c]; simp)
    unfold ru
    rw [if_neg this]
    exact a5 z z0 z1 (fun c => hz (List.mem_append_left _ c))
theorem Tree.bad {T : Int → Int} {E : Int → Int → Int → Prop} {drv R nw k x y : Int} {ρ : Int → Int × Int} {L : List Int} (h : Tree T E drv R nw ρ L) (hx : x ∈ L) (hy : y ∈ L) (he : E k x y ∨ E k y x) (hne : ρ y ≠ stp T k x y (ρ x)) : ¬ ∃ ρ', Fit T drv R E ρ' := by
  rintro ⟨ρ', hf⟩
  obtain ⟨_, _, ⟨d, _, hdep⟩, fx⟩ := h.2.2.2.1 x hx
  obtain ⟨_, _, _, fy⟩ := h.2.2.2.1 y hy
  have e := fx ρ' hf
  have := fit_step hf (by rw [e]; exact hdep.2.1) he
  rw [fy ρ' hf, e] at this
  exact hne this
theorem Tree.rs {T : Int → Int} {E : Int → Int → Int → Prop} {drv R nw : Int} {ρ : Int → Int × Int} {L : List Int} (h : Tree T E drv R nw ρ L) (hn : nw ≤ 8) (hE : ∀ k x y, E k x y → (0 ≤ x ∧ x < nw) ∧ 0 ≤ y ∧ y < nw) (h1 : ∀ k x y, E k x y → x ∈ L → ρ y = stp T k x y (ρ x)) (h2 : ∀ k x y, E k x y → y ∈ L → ρ x = stp T k y x (ρ y)) : RS T drv R nw E ρ 0 := by
  refine Or.inl ⟨rfl, fun _ => ⟨h.2.2.1, fun k x y he hx => ?_, fun k x y he hy => ?_⟩, fun w w0 w1 hw => ?_, fun w w0 w1 => ⟨fun hw => ?_, h.gd' hn w0 w1⟩⟩
  · have := hE k x y he
    exact h1 k x y he ((h.nz this.1.1 this.1.2).mpr hx)
  · have := hE k x y he
    exact h2 k x y he ((h.nz this.2.1 this.2.2).mpr hy)
  · have := (h.nz w0 w1).mpr hw
    obtain ⟨_, _, ⟨d, _, hdep⟩, _⟩ := h.2.2.2.1 w this
    exact ⟨d, hdep.1⟩
  · exact h.2.2.2.2 w w0 w1 (fun c => (h.nz w0 w1).mp c hw)
theorem stp_nz {T : Int → Int} {k x y : Int} {r : Int × Int} (hx : 0 < T x) (hy : 0 < T y) (h : r.1 ≠ 0) : (stp T k x y r).1 ≠ 0 := by
  unfold stp
  split
  · have ha : r.1 * T y ≠ 0 := Int.mul_ne_zero h (by omega)
    have d1 : (Int.gcd (r.1 * T y) (r.2 * T x) : Int) ∣ r.1 * T y := Int.gcd_dvd_left ..
    obtain ⟨a', ea⟩ := d1
    have hg : 0 < Int.gcd (r.1 * T y) (r.2 * T x) := Int.gcd_pos_of_ne_zero_left _ ha
    show (r.1 * T y) / (Int.gcd (r.1 * T y) (r.2 * T x) : Int) ≠ 0
    generalize (Int.gcd (r.1 * T y) (r.2 * T x)) = g at *
    rw [ea, Int.mul_ediv_cancel_left _ (by omega)]
    intro c
    exact ha (by rw [ea, c, Int.mul_zero])
  · split
    · show -r.1 ≠ 0; omega
    · exact h
theorem rch_eq {T : Int → Int} {E : Int → Int → Int → Prop} {drv R : Int} {ρ1 ρ2 : Int → Int × Int} (hR : R ≠ 0) (hE : ∀ k x y, E k x y → 0 < T x ∧ 0 < T y) (h1 : Fit T drv R E ρ1) (h2 : Fit T drv R E ρ2) : ∀ (n : Nat) (w : Int), Rch E drv n w → ρ1 w = ρ2 w ∧ (ρ1 w).1 ≠ 0
  | 0, w, h => by rw [show w = drv from h, h1.1, h2.1]; exact ⟨rfl, hR⟩
  | n + 1, w, h => by
    rcases h with h | ⟨k, x, he, h⟩
    · exact rch_eq hR hE h1 h2 n w h
    · obtain ⟨e, z⟩ := rch_eq hR hE h1 h2 n x h
      have b : 0 < T x ∧ 0 < T w := by rcases he with he | he; exact hE _ _ _ he; exact ⟨(hE _ _ _ he).2, (hE _ _ _ he).1⟩
      have s1 := fit_step h1 z he
      have s2 := fit_step h2 (by rw [← e]; exact z) he
      rw [s1, s2, e]
      exact ⟨rfl, stp_nz b.1 b.2 (by rw [← e]; exact z)⟩
/-- there is but one answer -/
theorem RS_un {T : Int → Int} {E : Int → Int → Int → Prop} {drv R nw b1 b2 : Int} {ρ1 ρ2 : Int → Int × Int} (hR : R ≠ 0) (hE : ∀ k x y, E k x y → 0 < T x ∧ 0 < T y) (h1 : RS T drv R nw E ρ1 b1) (h2 : RS T drv R nw E ρ2 b2) : b1 = b2 ∧ ∀ w, 0 ≤ w → w < nw → ρ1 w = ρ2 w := by
  rcases h1 with ⟨rfl, f1, r1, z1⟩ | ⟨rfl, n1, f1, z1⟩ <;> rcases h2 with ⟨rfl, f2, r2, z2⟩ | ⟨rfl, n2, f2, z2⟩
  · refine ⟨rfl, fun w w0 w1 => ?_⟩
    have q := rch_eq hR hE (f1 (by omega)) (f2 (by omega))
    by_cases c : (ρ1 w).1 = 0
    · by_cases c2 : (ρ2 w).1 = 0
      · rw [(z1 w w0 w1).1 c, (z2 w w0 w1).1 c2]
      · obtain ⟨n, hn⟩ := r2 w w0 w1 c2
        exact absurd c (q n w hn).2
    · obtain ⟨n, hn⟩ := r1 w w0 w1 c
      exact (q n w hn).1
  · exact absurd ⟨ρ1, f1 n2⟩ f2
  · exact absurd ⟨ρ2, f2 n1⟩ f1
  · exact ⟨rfl, fun w w0 w1 => by rw [z1 w w0 w1, z2 w w0 w1]⟩
theorem RS_gd {T : Int → Int} {E : Int → Int → Int → Prop} {drv R nw b : Int} {ρ : Int → Int × Int} (h : RS T drv R nw E ρ b) : ∀ w, 0 ≤ w → w < nw → Gd (ρ w) ∧ ((ρ w).1 = 0 → ρ w = (0, 1)) := by
  rcases h with ⟨rfl, f1, r1, z1⟩ | ⟨rfl, n1, f1, z1⟩
  · exact fun w w0 w1 => ⟨(z1 w w0 w1).2, (z1 w w0 w1).1⟩
  · exact fun w w0 w1 => by rw [z1 w w0 w1]; exact ⟨⟨by decide, by decide, by decide, by decide, by decide⟩, fun _ => rfl⟩
theorem RS_b {T : Int → Int} {E : Int → Int → Int → Prop} {drv R nw b : Int} {ρ : Int → Int × Int} (h : RS T drv R nw E ρ b) : b = 0 ∨ b = 1 := by
  rcases h with ⟨rfl, _⟩ | ⟨rfl, _⟩
  · exact Or.inl rfl
  · exact Or.inr rfl
