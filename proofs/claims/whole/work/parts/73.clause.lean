/-! A CLAUSE, told without a machine: g keeps what has been told: counts, driven, teeth a day, whether driven was told (row 0); teeth, starts, odds, kinds, ones, others, feasts' wheels and places (rows 1 to 8) -/
theorem bnd_z {r : Int × Int} {f : Int → Int × Int} (h : (bnd r f).1 = 0) : r.1 = 0 ∧ (f r.2).1 = 0 := by
  by_cases z : r.1 = 0
  · rw [bnd_0 z] at h; exact ⟨z, h⟩
  · rw [bnd_1 z] at h; exact absurd h z
def wrd (c : Prop) [Decidable c] (p : Int) : Int × Int := if c then (3, p) else (0, p + 1)
def wheelA (T : Int → Int) (n p : Int) : Int := (pnum T n 3 30 (p + 1)).2
def wheelP (T : Int → Int) (n : Int) (g : Mem) (p : Int) : Int × Int := bnd (bnd (wrd (8 ≤ g 0 0) p) (pnum T n 3 30)) (pnum T n 0 29)
def wheelG (T : Int → Int) (n : Int) (g : Mem) (p : Int) : Mem := mu (mu (mu g 1 (g 0 0) (numV T n (p + 1))) 2 (g 0 0) (numV T n (wheelA T n p) % numV T n (p + 1))) 0 0 (g 0 0 + 1)
def linkA (T : Int → Int) (n p : Int) : Int := (pkind T n (p + 1)).2
def linkB (T : Int → Int) (n : Int) (g : Mem) (p : Int) : Int := (pnum T n 0 (g 0 0 - 1) (linkA T n p)).2
def linkC (T : Int → Int) (n : Int) (g : Mem) (p : Int) : Int := (pnum T n 0 (g 0 0 - 1) (linkB T n g p)).2
def linkE (T : Int → Int) (n : Int) (g : Mem) (p c : Int) : Int × Int := if numV T n (linkA T n p) = numV T n (linkB T n g p) then (4, skp T n (linkB T n g p)) else (0, c)
def linkP (T : Int → Int) (n : Int) (g : Mem) (p : Int) : Int × Int := bnd (bnd (bnd (bnd (bnd (wrd (10 ≤ g 0 1) p) (pkind T n)) (pnum T n 0 (g 0 0 - 1))) (pnum T n 0 (g 0 0 - 1))) (linkE T n g p)) (pnum T n 0 999)
def linkG (T : Int → Int) (n : Int) (g : Mem) (p : Int) : Mem := mu (mu (mu (mu (mu g 4 (g 0 1) (kd (T (skp T n (p + 1))))) 5 (g 0 1) (numV T n (linkA T n p))) 6 (g 0 1) (numV T n (linkB T n g p))) 3 (g 0 1) (numV T n (linkC T n g p))) 0 1 (g 0 1 + 1)
def drvA (T : Int → Int) (n : Int) (g : Mem) (p : Int) : Int := (pnum T n 0 (g 0 0 - 1) (p + 1)).2
def drvP (T : Int → Int) (n : Int) (g : Mem) (p : Int) : Int × Int := bnd (bnd (wrd (g 0 5 ≠ 0) p) (pnum T n 0 (g 0 0 - 1))) (pnum T n 1 30)
def drvG (T : Int → Int) (n : Int) (g : Mem) (p : Int) : Mem := mu (mu (mu g 0 3 (numV T n (p + 1))) 0 4 (numV T n (drvA T n g p))) 0 5 1
def feaE (T : Int → Int) (n : Int) (g : Mem) (p b : Int) : Int × Int := if g 1 (numV T n (p + 1)) ≤ numV T n (drvA T n g p) then (4, skp T n (drvA T n g p)) else (0, b)
def feaP (T : Int → Int) (n : Int) (g : Mem) (p : Int) : Int × Int := bnd (bnd (bnd (wrd (6 ≤ g 0 2) p) (pnum T n 0 (g 0 0 - 1))) (pnum T n 0 29)) (feaE T n g p)
def feaG (T : Int → Int) (n : Int) (g : Mem) (p : Int) : Mem := mu (mu (mu g 7 (g 0 2) (numV T n (p + 1))) 8 (g 0 2) (numV T n (drvA T n g p))) 0 2 (g 0 2 + 1)
def clP (T : Int → Int) (n : Int) (g : Mem) (p : Int) : Int × Int := if T p = 119 then wheelP T n g p else if T p = 108 then linkP T n g p else if T p = 100 then drvP T n g p else if T p = 102 then feaP T n g p else (1, p)
def clG (T : Int → Int) (n : Int) (g : Mem) (p : Int) : Mem := if T p = 119 then wheelG T n g p else if T p = 108 then linkG T n g p else if T p = 100 then drvG T n g p else if T p = 102 then feaG T n g p else g
/-- what has been told is within bounds -/
def GR (g : Mem) : Prop := (0 ≤ g 0 0 ∧ g 0 0 ≤ 8) ∧ (0 ≤ g 0 1 ∧ g 0 1 ≤ 10) ∧ (0 ≤ g 0 2 ∧ g 0 2 ≤ 6) ∧ (0 ≤ g 0 3 ∧ (0 < g 0 0 → g 0 3 < g 0 0) ∧ (g 0 0 = 0 → g 0 3 = 0)) ∧ (1 ≤ g 0 4 ∧ g 0 4 ≤ 30) ∧ (0 ≤ g 0 5 ∧ g 0 5 ≤ 1)
  ∧ (∀ i, 0 ≤ i → i < g 0 0 → (3 ≤ g 1 i ∧ g 1 i ≤ 30) ∧ 0 ≤ g 2 i ∧ g 2 i < g 1 i)
  ∧ (∀ l, 0 ≤ l → l < g 0 1 → (0 ≤ g 3 l ∧ g 3 l ≤ 999) ∧ (0 ≤ g 4 l ∧ g 4 l ≤ 2) ∧ (0 ≤ g 5 l ∧ g 5 l < g 0 0) ∧ (0 ≤ g 6 l ∧ g 6 l < g 0 0) ∧ g 5 l ≠ g 6 l)
  ∧ ∀ f, 0 ≤ f → f < g 0 2 → (0 ≤ g 7 f ∧ g 7 f < g 0 0) ∧ 0 ≤ g 8 f ∧ g 8 f ≤ 29
theorem pnum_0 {T : Int → Int} {n lo hi p : Int} (h : (pnum T n lo hi p).1 = 0) : lo ≤ numV T n p ∧ numV T n p ≤ hi ∧ skp T n p < dge T n (skp T n p) ∧ dge T n (skp T n p) - skp T n p ≤ 3 ∧ (pnum T n lo hi p).2 = dge T n (skp T n p) := by
  have d := dge_p (T := T) (n := n) (p := skp T n p)
  unfold pnum at h ⊢
  by_cases c : dge T n (skp T n p) = skp T n p
  · rw [if_pos c] at h; exact absurd h (show ¬ (1 : Int) = 0 by decide)
  · rw [if_neg c] at h ⊢
    by_cases e : 3 < dge T n (skp T n p) - skp T n p ∨ numV T n p < lo ∨ hi < numV T n p
    · rw [if_pos e] at h; exact absurd h (show ¬ (2 : Int) = 0 by decide)
    · rw [if_neg e]
      exact ⟨by omega, by omega, by omega, by omega, rfl⟩
theorem pkind_0 {T : Int → Int} {n p : Int} (h : (pkind T n p).1 = 0) : (0 ≤ kd (T (skp T n p)) ∧ kd (T (skp T n p)) ≤ 2) ∧ skp T n p < n ∧ (pkind T n p).2 = skp T n p + 1 := by
  have k := kd_r (T (skp T n p))
  unfold pkind at h ⊢
  by_cases c : skp T n p < n ∧ kd (T (skp T n p)) ≠ -1
  · rw [if_pos c]; exact ⟨by omega, c.1, rfl⟩
  · rw [if_neg c] at h; exact absurd h (show ¬ (1 : Int) = 0 by decide)
theorem wrd_0 {c : Prop} [Decidable c] {p : Int} (h : (wrd c p).1 = 0) : ¬ c ∧ wrd c p = (0, p + 1) := by
  unfold wrd at h ⊢
  by_cases q : c
  · rw [if_pos q] at h; exact absurd h (show ¬ (3 : Int) = 0 by decide)
  · rw [if_neg q]; exact ⟨q, rfl⟩
/-- what a wheel's clause tells, if it is without a fault -/
theorem wheel_0 {T : Int → Int} {n : Int} {g : Mem} {p : Int} (h : (wheelP T n g p).1 = 0) : g 0 0 < 8 ∧ (3 ≤ numV T n (p + 1) ∧ numV T n (p + 1) ≤ 30) ∧ (0 ≤ numV T n (wheelA T n p) ∧ numV T n (wheelA T n p) ≤ 29) ∧ bnd (wrd (8 ≤ g 0 0) p) (pnum T n 3 30) = (0, wheelA T n p) := by
  unfold wheelP at h
  obtain ⟨h1, h2⟩ := bnd_z h
  obtain ⟨h3, h4⟩ := bnd_z h1
  obtain ⟨c, e⟩ := wrd_0 h3
  rw [e] at h2 h4 ⊢
  rw [bnd_0 rfl] at h2 ⊢
  have a := pnum_0 h4
  have b := pnum_0 h2
  exact ⟨by omega, ⟨a.1, a.2.1⟩, ⟨b.1, b.2.1⟩, Prod.ext h4 rfl⟩
theorem drv_0 {T : Int → Int} {n : Int} {g : Mem} {p : Int} (h : (drvP T n g p).1 = 0) : g 0 5 = 0 ∧ (0 ≤ numV T n (p + 1) ∧ numV T n (p + 1) ≤ g 0 0 - 1) ∧ (1 ≤ numV T n (drvA T n g p) ∧ numV T n (drvA T n g p) ≤ 30) ∧ bnd (wrd (g 0 5 ≠ 0) p) (pnum T n 0 (g 0 0 - 1)) = (0, drvA T n g p) := by
  unfold drvP at h
  obtain ⟨h1, h2⟩ := bnd_z h
  obtain ⟨h3, h4⟩ := bnd_z h1
  obtain ⟨c, e⟩ := wrd_0 h3
  rw [e] at h2 h4 ⊢
  rw [bnd_0 rfl] at h2 ⊢
  have a := pnum_0 h4
  have b := pnum_0 h2
  exact ⟨by omega, ⟨a.1, a.2.1⟩, ⟨b.1, b.2.1⟩, Prod.ext h4 rfl⟩
theorem fea_1 {T : Int → Int} {n : Int} {g : Mem} {p : Int} (h : (bnd (bnd (wrd (6 ≤ g 0 2) p) (pnum T n 0 (g 0 0 - 1))) (pnum T n 0 29)).1 = 0) : g 0 2 < 6 ∧ (0 ≤ numV T n (p + 1) ∧ numV T n (p + 1) ≤ g 0 0 - 1) ∧ (0 ≤ numV T n (drvA T n g p) ∧ numV T n (drvA T n g p) ≤ 29) ∧ bnd (wrd (6 ≤ g 0 2) p) (pnum T n 0 (g 0 0 - 1)) = (0, drvA T n g p) := by
  obtain ⟨h1, h2⟩ := bnd_z h
  obtain ⟨h3, h4⟩ := bnd_z h1
  obtain ⟨c, e⟩ := wrd_0 h3
  rw [e] at h2 h4 ⊢
  rw [bnd_0 rfl] at h2 ⊢
  have a := pnum_0 h4
  have b := pnum_0 h2
  exact ⟨by omega, ⟨a.1, a.2.1⟩, ⟨b.1, b.2.1⟩, Prod.ext h4 rfl⟩
theorem fea_0 {T : Int → Int} {n : Int} {g : Mem} {p : Int} (h : (feaP T n g p).1 = 0) : (bnd (bnd (wrd (6 ≤ g 0 2) p) (pnum T n 0 (g 0 0 - 1))) (pnum T n 0 29)).1 = 0 ∧ numV T n (drvA T n g p) < g 1 (numV T n (p + 1)) := by
  unfold feaP at h
  obtain ⟨h1, h2⟩ := bnd_z h
  refine ⟨h1, ?_⟩
  unfold feaE at h2
  by_cases c : g 1 (numV T n (p + 1)) ≤ numV T n (drvA T n g p)
  · rw [if_pos c] at h2; exact absurd h2 (show ¬ (4 : Int) = 0 by decide)
  · omega
/-- the numbers of a link's clause, up to the second wheel -/
theorem link_1 {T : Int → Int} {n : Int} {g : Mem} {p : Int} (h : (bnd (bnd (bnd (wrd (10 ≤ g 0 1) p) (pkind T n)) (pnum T n 0 (g 0 0 - 1))) (pnum T n 0 (g 0 0 - 1))).1 = 0) : g 0 1 < 10 ∧ (0 ≤ kd (T (skp T n (p + 1))) ∧ kd (T (skp T n (p + 1))) ≤ 2) ∧ (0 ≤ numV T n (linkA T n p) ∧ numV T n (linkA T n p) ≤ g 0 0 - 1) ∧ (0 ≤ numV T n (linkB T n g p) ∧ numV T n (linkB T n g p) ≤ g 0 0 - 1) ∧ bnd (wrd (10 ≤ g 0 1) p) (pkind T n) = (0, linkA T n p) ∧ bnd (bnd (wrd (10 ≤ g 0 1) p) (pkind T n)) (pnum T n 0 (g 0 0 - 1)) = (0, linkB T n g p) ∧ bnd (bnd (bnd (wrd (10 ≤ g 0 1) p) (pkind T n)) (pnum T n 0 (g 0 0 - 1))) (pnum T n 0 (g 0 0 - 1)) = (0, linkC T n g p) := by
  obtain ⟨h1, h2⟩ := bnd_z h
  obtain ⟨h3, h4⟩ := bnd_z h1
  obtain ⟨h5, h6⟩ := bnd_z h3
  obtain ⟨c, e⟩ := wrd_0 h5
  rw [e] at h2 h4 h6 ⊢
  rw [bnd_0 (r := (0, p + 1)) rfl] at h2 h4 ⊢
  have k := pkind_0 h6
  have ea : pkind T n (p + 1) = (0, linkA T n p) := Prod.ext h6 rfl
  rw [ea] at h2 h4 ⊢
  rw [bnd_0 (r := (0, linkA T n p)) rfl] at h2 ⊢
  have a := pnum_0 h4
  have eb : pnum T n 0 (g 0 0 - 1) (linkA T n p) = (0, linkB T n g p) := Prod.ext h4 rfl
  rw [show ((0 : Int), linkA T n p).2 = linkA T n p from rfl] at h2 ⊢
  rw [eb] at h2 ⊢
  have b := pnum_0 h2
  rw [bnd_0 (r := (0, linkB T n g p)) rfl]
  exact ⟨by omega, k.1, ⟨a.1, a.2.1⟩, ⟨b.1, b.2.1⟩, rfl, rfl, Prod.ext h2 rfl⟩
theorem link_0 {T : Int → Int} {n : Int} {g : Mem} {p : Int} (h : (linkP T n g p).1 = 0) : (bnd (bnd (bnd (wrd (10 ≤ g 0 1) p) (pkind T n)) (pnum T n 0 (g 0 0 - 1))) (pnum T n 0 (g 0 0 - 1))).1 = 0 ∧ numV T n (linkA T n p) ≠ numV T n (linkB T n g p) ∧ (0 ≤ numV T n (linkC T n g p) ∧ numV T n (linkC T n g p) ≤ 999) ∧ bnd (bnd (bnd (bnd (wrd (10 ≤ g 0 1) p) (pkind T n)) (pnum T n 0 (g 0 0 - 1))) (pnum T n 0 (g 0 0 - 1))) (linkE T n g p) = (0, linkC T n g p) := by
  unfold linkP at h
  obtain ⟨h1, h2⟩ := bnd_z h
  obtain ⟨h3, h4⟩ := bnd_z h1
  have e := (link_1 h3).2.2.2.2.2.2
  rw [e] at h2 h4 ⊢
  rw [bnd_0 rfl] at h2 ⊢
  unfold linkE at h2 h4 ⊢
  by_cases c : numV T n (linkA T n p) = numV T n (linkB T n g p)
  · rw [if_pos c] at h4; exact absurd h4 (show ¬ (4 : Int) = 0 by decide)
  · rw [if_neg c] at h2 ⊢
    have d := pnum_0 h2
    exact ⟨rfl, c, ⟨d.1, d.2.1⟩, rfl⟩
theorem gr_wheel {T : Int → Int} {n : Int} {g : Mem} {p : Int} (gr : GR g) (h : (wheelP T n g p).1 = 0) : GR (wheelG T n g p) := by
  obtain ⟨c1, ⟨c2, c3⟩, ⟨c4, c5⟩, -⟩ := wheel_0 h
  obtain ⟨g1, g2, g3, g4, g5, g6, g7, g8, g9⟩ := gr
  have em := emod_rg (x := numV T n (wheelA T n p)) (y := numV T n (p + 1)) (by omega)
  have e0 : wheelG T n g p 0 0 = g 0 0 + 1 := by unfold wheelG; rw [mu_same]
  have ek : ∀ k i, ¬ (k = 0 ∧ i = 0) → ¬ (k = 1 ∧ i = g 0 0) → ¬ (k = 2 ∧ i = g 0 0) → wheelG T n g p k i = g k i := fun k i d1 d2 d3 => by unfold wheelG; rw [mu_off2 d1, mu_off2 d3, mu_off2 d2]
  refine ⟨by omega, by rw [ek 0 1 (by omega) (by omega) (by omega)]; exact g2, by rw [ek 0 2 (by omega) (by omega) (by omega)]; exact g3, by rw [ek 0 3 (by omega) (by omega) (by omega)]; omega, by rw [ek 0 4 (by omega) (by omega) (by omega)]; exact g5, by rw [ek 0 5 (by omega) (by omega) (by omega)]; exact g6, fun i i0 i1 => ?_, fun l l0 l1 => ?_, fun f f0 f1 => ?_⟩
  · by_cases z : i = g 0 0
    · have e1 : wheelG T n g p 1 i = numV T n (p + 1) := by unfold wheelG; rw [mu_off2 (by omega), mu_off2 (by omega), mu_on2 rfl z]
      have e2 : wheelG T n g p 2 i = numV T n (wheelA T n p) % numV T n (p + 1) := by unfold wheelG; rw [mu_off2 (by omega), mu_on2 rfl z]
      rw [e1, e2]; omega
    · rw [ek 1 i (by omega) (by omega) (by omega), ek 2 i (by omega) (by omega) (by omega)]
      exact g7 i i0 (by omega)
  · rw [ek 0 1 (by omega) (by omega) (by omega)] at l1
    rw [ek 3 l (by omega) (by omega) (by omega), ek 4 l (by omega) (by omega) (by omega), ek 5 l (by omega) (by omega) (by omega), ek 6 l (by omega) (by omega) (by omega), e0]
    have := g8 l l0 l1
    omega
  · rw [ek 0 2 (by omega) (by omega) (by omega)] at f1
    rw [ek 7 f (by omega) (by omega) (by omega), ek 8 f (by omega) (by omega) (by omega), e0]
    have := g9 f f0 f1
    omega
theorem gr_link {T : Int → Int} {n : Int} {g : Mem} {p : Int} (gr : GR g) (h : (linkP T n g p).1 = 0) : GR (linkG T n g p) := by
  obtain ⟨h1, ne, ⟨v1, v2⟩, -⟩ := link_0 h
  obtain ⟨c1, ⟨k1, k2⟩, ⟨a1, a2⟩, ⟨b1, b2⟩, -⟩ := link_1 h1
  obtain ⟨g1, g2, g3, g4, g5, g6, g7, g8, g9⟩ := gr
  have ek : ∀ k i, ¬ (k = 0 ∧ i = 1) → ¬ (3 ≤ k ∧ k ≤ 6 ∧ i = g 0 1) → linkG T n g p k i = g k i := fun k i d1 d2 => by unfold linkG; rw [mu_off2 d1, mu_off2 (by omega), mu_off2 (by omega), mu_off2 (by omega), mu_off2 (by omega)]
  have e1 : linkG T n g p 0 1 = g 0 1 + 1 := by unfold linkG; rw [mu_same]
  refine ⟨by rw [ek 0 0 (by omega) (by omega)]; exact g1, by omega, by rw [ek 0 2 (by omega) (by omega)]; exact g3, by rw [ek 0 3 (by omega) (by omega), ek 0 0 (by omega) (by omega)]; exact g4, by rw [ek 0 4 (by omega) (by omega)]; exact g5, by rw [ek 0 5 (by omega) (by omega)]; exact g6, fun i i0 i1 => ?_, fun l l0 l1 => ?_, fun f f0 f1 => ?_⟩
  · rw [ek 0 0 (by omega) (by omega)] at i1
    rw [ek 1 i (by omega) (by omega), ek 2 i (by omega) (by omega)]
    exact g7 i i0 i1
  · rw [ek 0 0 (by omega) (by omega)]
    by_cases z : l = g 0 1
    · have e3 : linkG T n g p 3 l = numV T n (linkC T n g p) := by unfold linkG; rw [mu_off2 (by omega), mu_on2 rfl z]
      have e4 : linkG T n g p 4 l = kd (T (skp T n (p + 1))) := by unfold linkG; rw [mu_off2 (by omega), mu_off2 (by omega), mu_off2 (by omega), mu_off2 (by omega), mu_on2 rfl z]
      have e5 : linkG T n g p 5 l = numV T n (linkA T n p) := by unfold linkG; rw [mu_off2 (by omega), mu_off2 (by omega), mu_off2 (by omega), mu_on2 rfl z]
      have e6 : linkG T n g p 6 l = numV T n (linkB T n g p) := by unfold linkG; rw [mu_off2 (by omega), mu_off2 (by omega), mu_on2 rfl z]
      rw [e3, e4, e5, e6]; omega
    · rw [ek 3 l (by omega) (by omega), ek 4 l (by omega) (by omega), ek 5 l (by omega) (by omega), ek 6 l (by omega) (by omega)]
      exact g8 l l0 (by omega)
  · rw [ek 0 2 (by omega) (by omega)] at f1
    rw [ek 7 f (by omega) (by omega), ek 8 f (by omega) (by omega), ek 0 0 (by omega) (by omega)]
    exact g9 f f0 f1
theorem gr_drv {T : Int → Int} {n : Int} {g : Mem} {p : Int} (gr : GR g) (h : (drvP T n g p).1 = 0) : GR (drvG T n g p) := by
  obtain ⟨c1, ⟨a1, a2⟩, ⟨b1, b2⟩, -⟩ := drv_0 h
  obtain ⟨g1, g2, g3, g4, g5, g6, g7, g8, g9⟩ := gr
  have ek : ∀ k i, ¬ (k = 0 ∧ 3 ≤ i ∧ i ≤ 5) → drvG T n g p k i = g k i := fun k i d1 => by unfold drvG; rw [mu_off2 (by omega), mu_off2 (by omega), mu_off2 (by omega)]
  have e3 : drvG T n g p 0 3 = numV T n (p + 1) := by unfold drvG; rw [mu_off2 (by omega), mu_off2 (by omega), mu_same]
  have e4 : drvG T n g p 0 4 = numV T n (drvA T n g p) := by unfold drvG; rw [mu_off2 (by omega), mu_same]
  have e5 : drvG T n g p 0 5 = 1 := by unfold drvG; rw [mu_same]
  refine ⟨by rw [ek 0 0 (by omega)]; exact g1, by rw [ek 0 1 (by omega)]; exact g2, by rw [ek 0 2 (by omega)]; exact g3, by rw [e3, ek 0 0 (by omega)]; omega, by rw [e4]; exact ⟨b1, b2⟩, by rw [e5]; decide, fun i i0 i1 => ?_, fun l l0 l1 => ?_, fun f f0 f1 => ?_⟩
  · rw [ek 0 0 (by omega)] at i1
    rw [ek 1 i (by omega), ek 2 i (by omega)]; exact g7 i i0 i1
  · rw [ek 0 1 (by omega)] at l1
    rw [ek 3 l (by omega), ek 4 l (by omega), ek 5 l (by omega), ek 6 l (by omega), ek 0 0 (by omega)]; exact g8 l l0 l1
  · rw [ek 0 2 (by omega)] at f1
    rw [ek 7 f (by omega), ek 8 f (by omega), ek 0 0 (by omega)]; exact g9 f f0 f1
theorem gr_fea {T : Int → Int} {n : Int} {g : Mem} {p : Int} (gr : GR g) (h : (feaP T n g p).1 = 0) : GR (feaG T n g p) := by
  obtain ⟨h1, lt⟩ := fea_0 h
  obtain ⟨c1, ⟨a1, a2⟩, ⟨b1, b2⟩, -⟩ := fea_1 h1
  obtain ⟨g1, g2, g3, g4, g5, g6, g7, g8, g9⟩ := gr
  have ek : ∀ k i, ¬ (k = 0 ∧ i = 2) → ¬ (7 ≤ k ∧ k ≤ 8 ∧ i = g 0 2) → feaG T n g p k i = g k i := fun k i d1 d2 => by unfold feaG; rw [mu_off2 d1, mu_off2 (by omega), mu_off2 (by omega)]
  have e2 : feaG T n g p 0 2 = g 0 2 + 1 := by unfold feaG; rw [mu_same]
  refine ⟨by rw [ek 0 0 (by omega) (by omega)]; exact g1, by rw [ek 0 1 (by omega) (by omega)]; exact g2, by omega, by rw [ek 0 3 (by omega) (by omega), ek 0 0 (by omega) (by omega)]; exact g4, by rw [ek 0 4 (by omega) (by omega)]; exact g5, by rw [ek 0 5 (by omega) (by omega)]; exact g6, fun i i0 i1 => ?_, fun l l0 l1 => ?_, fun f f0 f1 => ?_⟩
  · rw [ek 0 0 (by omega) (by omega)] at i1
    rw [ek 1 i (by omega) (by omega), ek 2 i (by omega) (by omega)]; exact g7 i i0 i1
  · rw [ek 0 1 (by omega) (by omega)] at l1
    rw [ek 3 l (by omega) (by omega), ek 4 l (by omega) (by omega), ek 5 l (by omega) (by omega), ek 6 l (by omega) (by omega), ek 0 0 (by omega) (by omega)]; exact g8 l l0 l1
  · rw [ek 0 0 (by omega) (by omega)]
    by_cases z : f = g 0 2
    · have e7 : feaG T n g p 7 f = numV T n (p + 1) := by unfold feaG; rw [mu_off2 (by omega), mu_off2 (by omega), mu_on2 rfl z]
      have e8 : feaG T n g p 8 f = numV T n (drvA T n g p) := by unfold feaG; rw [mu_off2 (by omega), mu_on2 rfl z]
      rw [e7, e8]; omega
    · rw [ek 7 f (by omega) (by omega), ek 8 f (by omega) (by omega)]; exact g9 f f0 (by omega)
theorem gr_cl {T : Int → Int} {n : Int} {g : Mem} {p : Int} (gr : GR g) (h : (clP T n g p).1 = 0) : GR (clG T n g p) := by
  unfold clP at h
  unfold clG
  by_cases c1 : T p = 119
  · rw [if_pos c1] at h ⊢; exact gr_wheel gr h
  · rw [if_neg c1] at h ⊢
    by_cases c2 : T p = 108
    · rw [if_pos c2] at h ⊢; exact gr_link gr h
    · rw [if_neg c2] at h ⊢
      by_cases c3 : T p = 100
      · rw [if_pos c3] at h ⊢; exact gr_drv gr h
      · rw [if_neg c3] at h ⊢
        by_cases c4 : T p = 102
        · rw [if_pos c4] at h ⊢; exact gr_fea gr h
        · rw [if_neg c4] at h ⊢; exact gr
