/-! THE RATES OF NOW, of both -/
theorem Edg_eq {n n' : Int} {on on' : Int → Prop} {kd kd' a a' b b' : Int → Int} (h1 : ∀ l, 0 ≤ l → l < n → on l → ∃ l', 0 ≤ l' ∧ l' < n' ∧ on' l' ∧ kd' l' = kd l ∧ a' l' = a l ∧ b' l' = b l) (h2 : ∀ l, 0 ≤ l → l < n' → on' l → ∃ l', 0 ≤ l' ∧ l' < n ∧ on l' ∧ kd l' = kd' l ∧ a l' = a' l ∧ b l' = b' l) : Edg n on kd a b = Edg n' on' kd' a' b' := by
  funext k x y
  apply propext
  constructor
  · rintro ⟨l, q0, q1, q2, rfl, rfl, rfl⟩
    obtain ⟨l', p0, p1, p2, p3, p4, p5⟩ := h1 l q0 q1 q2
    exact ⟨l', p0, p1, p2, p3.symm, p4.symm, p5.symm⟩
  · rintro ⟨l, q0, q1, q2, rfl, rfl, rfl⟩
    obtain ⟨l', p0, p1, p2, p3, p4, p5⟩ := h2 l q0 q1 q2
    exact ⟨l', p0, p1, p2, p3.symm, p4.symm, p5.symm⟩
theorem stp_T {T T' : Int → Int} {k x y : Int} {r : Int × Int} (hx : T' x = T x) (hy : T' y = T y) : stp T' k x y r = stp T k x y r := by unfold stp; rw [hx, hy]
theorem fit_T {T T' : Int → Int} {drv R : Int} {E : Int → Int → Int → Prop} {ρ : Int → Int × Int} (h : ∀ k x y, E k x y → T' x = T x ∧ T' y = T y) (f : Fit T drv R E ρ) : Fit T' drv R E ρ := by
  refine ⟨f.1, fun k x y he hx => ?_, fun k x y he hy => ?_⟩
  · obtain ⟨a, b⟩ := h k x y he
    rw [stp_T a b]; exact f.2.1 k x y he hx
  · obtain ⟨a, b⟩ := h k x y he
    rw [stp_T b a]; exact f.2.2 k x y he hy
theorem RS_T {T T' : Int → Int} {drv R nw b : Int} {E : Int → Int → Int → Prop} {ρ : Int → Int × Int} (h : ∀ k x y, E k x y → T' x = T x ∧ T' y = T y) (f : RS T drv R nw E ρ b) : RS T' drv R nw E ρ b := by
  rcases f with ⟨rfl, f1, r1, z1⟩ | ⟨rfl, n1, f1, z1⟩
  · exact Or.inl ⟨rfl, fun c => fit_T h (f1 c), r1, z1⟩
  · exact Or.inr ⟨rfl, n1, fun ⟨ρ', q⟩ => f1 ⟨ρ', fit_T (fun k x y he => ⟨(h k x y he).1.symm, (h k x y he).2.symm⟩) q⟩, z1⟩
def Enow (μ : Mem) : Int → Int → Int → Prop := Edg (nL μ) (fun l => bt_ (μ 29 2) l = 0) (μ (wW μ + 4)) (μ (wW μ + 5)) (μ (wW μ + 6))
theorem Enow_rg {μ : Mem} (iw : IW μ) : ∀ k x y, Enow μ k x y → (0 ≤ x ∧ x < nW μ) ∧ 0 ≤ y ∧ y < nW μ := by
  rintro k x y ⟨l, l0, l1, l2, rfl, rfl, rfl⟩
  obtain ⟨-, ⟨-, p⟩, ⟨-, q⟩, -⟩ := iw.2.2.2.2.2.2.2.2.1 l l0 l1
  exact ⟨p, q⟩
theorem Enow_T {μ : Mem} (iw : IW μ) : ∀ k x y, Enow μ k x y → 0 < μ (wW μ + 1) x ∧ 0 < μ (wW μ + 1) y := by
  intro k x y he
  obtain ⟨p, q⟩ := Enow_rg iw k x y he
  have := iw.2.2.2.2.2.2.2.1 x p.1 p.2
  have := iw.2.2.2.2.2.2.2.1 y q.1 q.2
  omega
/-- the cut links, of both -/
def IC (μ : Mem) : Prop := μ 111 10 = μ 29 2 ∧ 0 ≤ μ 29 2 ∧ μ 29 2 < 2 ^ (nL μ).toNat
theorem IC.r {μ : Mem} (c : IC μ) (iw : IW μ) : 0 ≤ μ 29 2 ∧ μ 29 2 ≤ 1024 := by
  have b := iw.2.2.2.1
  have := (pw10 (n := (nL μ).toNat) (by omega)).1
  obtain ⟨_, h1, h2⟩ := c
  omega
/-- the class's cut links alone -/
def IK (μ : Mem) : Prop := 0 ≤ μ 29 2 ∧ μ 29 2 < 2 ^ (nL μ).toNat
theorem IC.k {μ : Mem} (c : IC μ) : IK μ := c.2
theorem IK.r {μ : Mem} (c : IK μ) (iw : IW μ) : 0 ≤ μ 29 2 ∧ μ 29 2 ≤ 1024 := by
  have b := iw.2.2.2.1
  have := (pw10 (n := (nL μ).toNat) (by omega)).1
  obtain ⟨h1, h2⟩ := c
  omega
theorem IN.c {μ : Mem} (h : IN μ) : IC μ := ⟨h.1.1.2.2.symm, h.1.2.2.1⟩
def FR' (k i : Int) : Prop := FR k i ∨ (k = 110 ∧ i = 30)
/-- what the reference's rates are behind ratesNow -/
def RN (μ μ' : Mem) : Prop := Off FR' μ μ' ∧ (∀ w, 0 ≤ w → w < nW μ → μ' 122 w = μ 22 w ∧ μ' 123 w = μ 23 w) ∧ μ' 110 29 = μ 21 5
theorem c8_ratesNow {G : Gm} {Q : Mem → Prop} {μ : Mem} (wf : WF μ) (iw : IW μ) (ic : IC μ) (im : IM μ) (h : ∀ μ', RN μ μ' → Q μ') : Cv G mX8_ratesNow [(2, 110)] SHl μ Q := by
  have icr := ic.r iw
  have hW : wW μ = 3 ∨ wW μ = 12 := iw.1
  obtain ⟨w1, w2, ⟨w3, w3'⟩, ⟨w4, w4'⟩, w5, ⟨w6, w6'⟩, ⟨w7, w7'⟩, w8, w9, w10⟩ := id iw
  refine eX8_ratesNow (fun Φ hΦ hR => bX8_ratesNow_0 hΦ hR ⟨so_110, ?_⟩)
  rintro m2 e2
  have of2 : ∀ k i, ¬ (k = 110 ∧ i = 30) → m2 k i = μ k i := fun k i c => by rw [e2, mu_off2 c]
  have wf2 : WF m2 := wf_sm wf (fun k i d => of2 k i (by unfold dF at d; omega))
  have m30 : m2 110 30 = 0 := by rw [e2, mu_same]
  rw [wf_110_0 wf2, of2 111 10 (by omega), ic.1]
  refine ⟨ai_111 (by decide) (by decide), ?_⟩
  by_cases hn : nW μ = 0
  · have hl : nL μ = 0 := by
      by_cases c : nL μ = 0
      · exact c
      · have := w9 0 (by omega) (by omega)
        omega
    refine c8_find0 (drv := 0) (R := 0) wf2 (by rw [of2 110 2 (by omega), ← w3]; exact hn) (by rw [of2 110 3 (by omega), ← w4]; exact hl) m30 ⟨by omega, by omega⟩ (fun μ' q => h μ' ⟨fun k i c => ?_, fun w h0 h1 => by omega, ?_⟩)
    · have c' : ¬ FR k i ∧ ¬ (k = 110 ∧ i = 30) := ⟨fun q => c (Or.inl q), fun q => c (Or.inr q)⟩
      rw [q.1 k i c'.1, of2 k i c'.2]
    · have a1 : μ' 110 29 = 0 := by rcases q.2 with ⟨e, _⟩ | ⟨_, e, _⟩; exact e; omega
      have a2 : μ 21 5 = 0 := by rcases im.1 with ⟨e, _⟩ | ⟨_, e, _⟩; exact e; omega
      rw [a1, a2]
  · have ee : E8 m2 (μ 29 2) 0 = Enow μ := by
      unfold E8 Enow
      refine Edg_eq (fun l l0 l1 on => ?_) (fun l l0 l1 on => ?_)
      · have on : (l ≠ 20 ∧ l < nL μ ∧ bt_ (μ 29 2) l = 0) := by
          unfold on8 at on
          rw [m30, of2 110 3 (by omega), ← w4] at on
          omega
        obtain ⟨⟨k1, _⟩, ⟨k2, _⟩, ⟨k3, _⟩, _⟩ := w9 l l0 on.2.1
        refine ⟨l, l0, on.2.1, on.2.2, ?_, ?_, ?_⟩
        · unfold kd8; rw [bt_zero, if_neg (by omega), of2 115 l (by omega)]; exact k1
        · rw [of2 116 l (by omega)]; exact k2
        · rw [of2 117 l (by omega)]; exact k3
      · obtain ⟨⟨k1, _⟩, ⟨k2, _⟩, ⟨k3, _⟩, _⟩ := w9 l l0 l1
        refine ⟨l, l0, by omega, ?_, ?_, ?_, ?_⟩
        · unfold on8; rw [m30, of2 110 3 (by omega), ← w4]; exact Or.inr ⟨by omega, l1, on⟩
        · unfold kd8; rw [bt_zero, if_neg (by omega), of2 115 l (by omega)]; exact k1.symm
        · rw [of2 116 l (by omega)]; exact k2.symm
        · rw [of2 117 l (by omega)]; exact k3.symm
    have tt : ∀ w, 0 ≤ w → w < nW μ → m2 113 w = μ (wW μ + 1) w := fun w h0 h1 => by rw [of2 113 w (by omega)]; exact (w8 w h0 h1).1.symm
    have rp : RP8 m2 (μ 29 2) 0 (nW μ) (μ (wW μ) 3) (μ (wW μ) 4) := by
      refine ⟨wf2, ⟨by rw [of2 110 2 (by omega)]; exact w3.symm, by rw [of2 110 5 (by omega)]; exact w6.symm, by rw [of2 110 6 (by omega)]; exact w7.symm⟩, ⟨by omega, w3'.2⟩, fun w h0 h1 => by rw [tt w h0 h1]; exact (w8 w h0 h1).2, fun l l0 l1 on => ?_, w7', ⟨w6'.1, w6'.2.1 (by omega)⟩, ⟨by omega, by omega⟩, R32_0, ?_, Or.inl m30⟩
      · have on : (l ≠ 20 ∧ l < nL μ ∧ bt_ (μ 29 2) l = 0) := by
          unfold on8 at on
          rw [m30, of2 110 3 (by omega), ← w4] at on
          omega
        obtain ⟨⟨k1, k1', k1''⟩, ⟨k2, k2'⟩, ⟨k3, k3'⟩, k4, _⟩ := w9 l l0 on.2.1
        rw [of2 115 l (by omega), of2 116 l (by omega), of2 117 l (by omega), ← k1, ← k2, ← k3]
        exact ⟨by omega, k2', k3', k4⟩
      · rw [of2 110 3 (by omega), ← w4]; omega
    refine c8_find1 rp (fun μ' q => h μ' ?_)
    obtain ⟨of, rs⟩ := q
    rw [ee] at rs
    have rs' : RS (μ (wW μ + 1)) (μ (wW μ) 3) (μ (wW μ) 4) (nW μ) (Enow μ) (rr μ' 121) (μ' 110 29) := RS_T (fun k x y he => by
      obtain ⟨p, q⟩ := Enow_rg iw k x y he
      exact ⟨(tt x p.1 p.2).symm, (tt y q.1 q.2).symm⟩) rs
    have un := RS_un (by omega) (Enow_T iw) rs' im.1
    refine ⟨fun k i c => ?_, fun w h0 h1 => ?_, un.1⟩
    · have c' : ¬ FR k i ∧ ¬ (k = 110 ∧ i = 30) := ⟨fun q => c (Or.inl q), fun q => c (Or.inr q)⟩
      rw [of k i c'.1, of2 k i c'.2]
    · have := un.2 w h0 h1
      exact ⟨congrArg Prod.fst this, congrArg Prod.snd this⟩
theorem RN_inv {μ μ' : Mem} (h : Inv μ) (r : RN μ μ') : Inv μ' := by
  obtain ⟨wf, iw, ir, inn, idd, ii, il, im⟩ := h; have hW : wW μ = 3 ∨ wW μ = 12 := iw.1; have hnW := iw.2.2.1; have hnL := iw.2.2.2.1; have hnF := iw.2.2.2.2.1
  have of := r.1
  have sw : Sm (dW (wW μ) (nL μ)) μ μ' := fun k i d => of k i (by unfold dW at d; unfold FR' FR; omega)
  have e := SW_of sw
  exact ⟨wf_sm wf (fun k i d => of k i (by unfold dF at d; unfold FR' FR; omega)), IW_sm iw sw, IR_sm ir (fun k i d => of k i (by unfold dR at d; unfold FR' FR; omega)), IN_sm inn hnW.2.2 e (fun k i d => of k i (by unfold dN at d; unfold FR' FR; omega)), ID_sm idd hnW.2.2 e (fun k i d => of k i (by unfold dD at d; unfold FR' FR; omega)), II_sm ii hnW.2.2 e (fun k i d => of k i (by unfold dI at d; unfold FR' FR; omega)), IL_sm il e (fun k i d => of k i (by unfold dL at d; unfold FR' FR; omega)), IM_sm im e (fun k i d => of k i (by unfold dM at d; unfold FR' FR; omega))⟩
/-- links that are on, as the class has them -/
def lon (μ : Mem) : Int := mand (1 * 2 ^ (nL μ).toNat - 1) (mxor (μ 29 2) (-1))
theorem bt_p1 {n k : Nat} : bt_ (2 ^ n - 1) (k : Int) = if k < n then 1 else 0 := by
  have : (2 : Int) ^ n - 1 = ((2 ^ n - 1 : Nat) : Int) := by
    have := Nat.two_pow_pos n
    have e : ((2 ^ n : Nat) : Int) = 2 ^ n := by simp
    omega
  rw [this, bt_nat, Nat.testBit_two_pow_sub_one]
  by_cases c : k < n <;> simp [c]
theorem lon_bt {μ : Mem} (iw : IW μ) (ic : IK μ) {k : Nat} (hk : k < 32) : bt_ (lon μ) (k : Int) = if (k : Int) < nL μ ∧ bt_ (μ 29 2) (k : Int) = 0 then 1 else 0 := by
  have icr := ic.r iw
  have hL := iw.2.2.2.1
  have p := pw10 (n := (nL μ).toNat) (by omega)
  unfold lon
  rw [Int.one_mul, bt_mand ⟨by omega, by omega⟩ (mxor_r _ _) hk, bt_mxor ⟨by omega, by omega⟩ ⟨by decide, by decide⟩ hk, bt_m1 hk, bt_p1]
  rcases bt_01 (x := μ 29 2) (k := (k : Int)) with e | e
  · rw [e]
    by_cases c : (k : Int) < nL μ
    · rw [if_pos (show k < (nL μ).toNat by omega)]; simp [c]
    · rw [if_neg (show ¬ k < (nL μ).toNat by omega)]; simp [c]
  · rw [e]; simp
theorem c7_linksOn {G : Gm} {Q : Int → Mem → Prop} {μ : Mem} (wf : WF μ) (iw : IW μ) (h : Q (lon μ) μ) : Ci G mX7_linksOn [(2, 0)] SHl μ Q := by
  have hL := iw.2.2.2.1
  refine eX7_linksOn (fun Φ hΦ hR => bX7_linksOn_0 hΦ hR ⟨so_0, so_W iw.1, ?_⟩)
  rw [wf_0_5 wf]
  refine ⟨?_, ?_, so_29, h⟩
  · show 0 ≤ nL μ; omega
  · show nL μ ≤ 31; omega
theorem c7_reckonNow {G : Gm} {Q : Mem → Prop} {μ : Mem} (wf : WF μ) (iw : IW μ) (ic : IK μ) (h : ∀ μ', Off (FM 21) μ μ' → IM μ' → Q μ') : Cv G mX7_reckonNow [(2, 0)] SHl μ Q := by
  have icr := ic.r iw
  have hW : wW μ = 3 ∨ wW μ = 12 := iw.1
  obtain ⟨w1, w2, ⟨w3, w3'⟩, ⟨w4, w4'⟩, w5, ⟨w6, w6'⟩, ⟨w7, w7'⟩, w8, w9, w10⟩ := id iw
  refine eX7_reckonNow (fun Φ hΦ hR => bX7_reckonNow_0 hΦ hR ⟨so_0, c7_linksOn wf iw ?_⟩)
  rw [wf_0_3 wf]
  refine ⟨so_21, ?_⟩
  have lr : R32 (lon μ) := mand_r _ _
  have onb : ∀ l, 0 ≤ l → l < 11 → (bt_ (lon μ) l = 1 ↔ l < nL μ ∧ bt_ (μ 29 2) l = 0) := fun l l0 l1 => by
    have := lon_bt iw ic (k := l.toNat) (by omega)
    rw [show ((l.toNat : Nat) : Int) = l by omega] at this
    rw [this]
    by_cases c : l < nL μ ∧ bt_ (μ 29 2) l = 0
    · rw [if_pos c]; simp [c]
    · rw [if_neg c]; simp [c]
  have ee : EE μ (wW μ) (lon μ) 0 = Enow μ := by
    unfold EE Enow
    refine Edg_eq (fun l l0 l1 on => ?_) (fun l l0 l1 on => ?_)
    · obtain ⟨p, q⟩ := (onb l l0 l1).mp on
      exact ⟨l, l0, p, q, by unfold kdE; rw [bt_zero, if_neg (by decide)], rfl, rfl⟩
    · exact ⟨l, l0, by omega, (onb l l0 (by omega)).mpr ⟨l1, on⟩, by unfold kdE; rw [bt_zero, if_neg (by decide)], rfl, rfl⟩
  have fin : ∀ μ', RKQ μ (wW μ) 21 (lon μ) 0 (nW μ) (μ (wW μ) 3) (μ (wW μ) 4) μ' → Q μ' := fun μ' q => by
    obtain ⟨of, rs, tr, tb⟩ := q
    refine h μ' of ?_
    have sw : Sm (dW (wW μ) (nL μ)) μ μ' := fun k i d => of k i (by unfold dW at d; unfold FM; omega)
    have e := SW_of sw
    have c2 : μ' 29 2 = μ 29 2 := of 29 2 (by unfold FM; omega)
    have en : Enow μ' = Enow μ := by
      unfold Enow
      rw [e.w, e.nl, c2]
      exact Edg_sm (fun l _ h1 => ⟨Iff.rfl, e.k l h1, e.a l h1, e.b l h1⟩)
    refine ⟨?_, by rw [e.nw]; exact tr, by rw [e.nw]; exact tb⟩
    show RS _ _ _ _ (Enow μ') _ _
    rw [en, e.w, e.nw, e.f3, e.f4, show μ' (wW μ + 1) = μ (wW μ + 1) from funext e.t, ← ee]
    exact rs
  by_cases hn : nW μ = 0
  · refine c3_reckon0 (drv := μ (wW μ) 3) (R := μ (wW μ) 4) wf iw.1 (Or.inl rfl) hn (fun μ' q => fin μ' ?_)
    rw [hn]; exact q
  · refine c3_reckon1 (nw := nW μ) (drv := μ (wW μ) 3) (R := μ (wW μ) 4) ⟨wf, iw.1, Or.inl rfl, ⟨by omega, w3'.2⟩, fun w h0 h1 => (w8 w h0 h1).2, fun l l0 l1 on => ?_, w7', ⟨w6'.1, w6'.2.1 (by omega)⟩, lr, R32_0⟩ rfl rfl rfl fin
    obtain ⟨p, q⟩ := (onb l l0 l1).mp on
    obtain ⟨⟨k1, k1', k1''⟩, ⟨k2, k2'⟩, ⟨k3, k3'⟩, k4, _⟩ := w9 l l0 p
    unfold kdE
    rw [bt_zero, if_neg (by decide)]
    refine ⟨?_, k2', k3', k4⟩
    show μ (wW μ + 4) l = 0 ∨ μ (wW μ + 4) l = 1 ∨ μ (wW μ + 4) l = 2
    omega
