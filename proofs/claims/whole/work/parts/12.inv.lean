/-! A CALL MAY BE ASKED FOR LESS -/
theorem Call_mono {G : Gm} {M : Md} {mc ms : Nat} {as : List AV} {S : List Sh} {μ : Mem} {P P' : Option AV → List Sh → Mem → Prop} (h : Call G M mc ms as S μ P) (hP : ∀ r S' μ', P r S' μ' → P' r S' μ') : Call G M mc ms as S μ P' := by
  intro p e ha hc hk s m args below hf happ hpre hK
  obtain ⟨n, o, a1, a2, a3, ⟨⟨r, S', μ', b1, b2, b3⟩, b4⟩, a5⟩ := h p e ha hc hk s m args below hf happ hpre hK
  exact ⟨n, o, a1, a2, a3, ⟨⟨r, S', μ', b1, hP _ _ _ b2, b3⟩, b4⟩, a5⟩
theorem Ci_mono {G : Gm} {M : Md} {as : List AV} {S : List Sh} {μ : Mem} {Q Q' : Int → Mem → Prop} (h : Ci G M as S μ Q) (hQ : ∀ r μ', Q r μ' → Q' r μ') : Ci G M as S μ Q' :=
  Call_mono h (fun _ _ _ ⟨a, x, b, c⟩ => ⟨a, x, b, hQ _ _ c⟩)
theorem Cj_mono {G : Gm} {M : Md} {as : List AV} {S : List Sh} {μ : Mem} {Q Q' : Int → Mem → Prop} (h : Cj G M as S μ Q) (hQ : ∀ r μ', Q r μ' → Q' r μ') : Cj G M as S μ Q' :=
  Call_mono h (fun _ _ _ ⟨a, x, b, c⟩ => ⟨a, x, b, hQ _ _ c⟩)
theorem Cv_mono {G : Gm} {M : Md} {as : List AV} {S : List Sh} {μ : Mem} {Q Q' : Mem → Prop} (h : Cv G M as S μ Q) (hQ : ∀ μ', Q μ' → Q' μ') : Cv G M as S μ Q' :=
  Call_mono h (fun _ _ _ ⟨a, b, c⟩ => ⟨a, b, hQ _ c⟩)
/-! RATES, told without a way to find them -/
/-- what a wheel's rate gives the other one by a link: kinds 0 meshes, 1 belt, 2 axle -/
def stp (T : Int → Int) (k x y : Int) (r : Int × Int) : Int × Int :=
  if k = 2 then ((r.1 * T y) / (Int.gcd (r.1 * T y) (r.2 * T x) : Int), (r.2 * T x) / (Int.gcd (r.1 * T y) (r.2 * T x) : Int))
  else if k = 0 then (-r.1, r.2) else r
/-- rates that no link gainsays -/
def Fit (T : Int → Int) (drv R : Int) (E : Int → Int → Int → Prop) (ρ : Int → Int × Int) : Prop :=
  ρ drv = (R, 1) ∧ (∀ k x y, E k x y → (ρ x).1 ≠ 0 → ρ y = stp T k x y (ρ x)) ∧ ∀ k x y, E k x y → (ρ y).1 ≠ 0 → ρ x = stp T k y x (ρ y)
def Rch (E : Int → Int → Int → Prop) (drv : Int) : Nat → Int → Prop
  | 0, w => w = drv
  | n + 1, w => Rch E drv n w ∨ ∃ k x, (E k x w ∨ E k w x) ∧ Rch E drv n x
/-- a rate in lowest terms, within bounds -/
def Gd (r : Int × Int) : Prop := Int.gcd r.1 r.2 = 1 ∧ 1 ≤ r.2 ∧ r.2 ≤ 810000 ∧ -24300000 ≤ r.1 ∧ r.1 ≤ 24300000
def RS (T : Int → Int) (drv R nw : Int) (E : Int → Int → Int → Prop) (ρ : Int → Int × Int) (b : Int) : Prop :=
  (b = 0 ∧ (0 < nw → Fit T drv R E ρ) ∧ (∀ w, 0 ≤ w → w < nw → (ρ w).1 ≠ 0 → ∃ n, Rch E drv n w) ∧ ∀ w, 0 ≤ w → w < nw → ((ρ w).1 = 0 → ρ w = (0, 1)) ∧ Gd (ρ w))
  ∨ (b = 1 ∧ 0 < nw ∧ (¬ ∃ ρ', Fit T drv R E ρ') ∧ ∀ w, 0 ≤ w → w < nw → ρ w = (0, 1))
/-- the links of a list that are on -/
def Edg (nl : Int) (on : Int → Prop) (kd a b : Int → Int) : Int → Int → Int → Prop := fun k x y => ∃ l, 0 ≤ l ∧ l < nl ∧ on l ∧ k = kd l ∧ x = a l ∧ y = b l
/-! WHAT HOLDS BETWEEN TWO CALLS, of class and reference -/
abbrev wW (μ : Mem) : Int := μ 0 1
abbrev nW (μ : Mem) : Int := μ (μ 0 1) 0
abbrev nL (μ : Mem) : Int := μ (μ 0 1) 1
abbrev nF (μ : Mem) : Int := μ (μ 0 1) 2
/-- the works in use -/
def IW (μ : Mem) : Prop := isW (wW μ) ∧ μ 0 2 = 15 - wW μ
  ∧ (nW μ = μ 110 2 ∧ 0 ≤ nW μ ∧ nW μ ≤ 8) ∧ (nL μ = μ 110 3 ∧ 0 ≤ nL μ ∧ nL μ ≤ 10) ∧ (nF μ = μ 110 4 ∧ 0 ≤ nF μ ∧ nF μ ≤ 6)
  ∧ (μ (wW μ) 3 = μ 110 5 ∧ 0 ≤ μ (wW μ) 3 ∧ (0 < nW μ → μ (wW μ) 3 < nW μ) ∧ (nW μ = 0 → μ (wW μ) 3 = 0)) ∧ (μ (wW μ) 4 = μ 110 6 ∧ 1 ≤ μ (wW μ) 4 ∧ μ (wW μ) 4 ≤ 30)
  ∧ (∀ i, 0 ≤ i → i < nW μ → μ (wW μ + 1) i = μ 113 i ∧ 3 ≤ μ (wW μ + 1) i ∧ μ (wW μ + 1) i ≤ 30)
  ∧ (∀ l, 0 ≤ l → l < nL μ → (μ (wW μ + 4) l = μ 115 l ∧ 0 ≤ μ (wW μ + 4) l ∧ μ (wW μ + 4) l ≤ 2) ∧ (μ (wW μ + 5) l = μ 116 l ∧ 0 ≤ μ (wW μ + 5) l ∧ μ (wW μ + 5) l < nW μ) ∧ (μ (wW μ + 6) l = μ 117 l ∧ 0 ≤ μ (wW μ + 6) l ∧ μ (wW μ + 6) l < nW μ) ∧ μ (wW μ + 5) l ≠ μ (wW μ + 6) l ∧ (μ (wW μ + 3) l = μ 118 l ∧ 0 ≤ μ (wW μ + 3) l ∧ μ (wW μ + 3) l ≤ 999))
  ∧ (∀ f, 0 ≤ f → f < nF μ → (μ (wW μ + 7) f = μ 119 f ∧ 0 ≤ μ (wW μ + 7) f ∧ μ (wW μ + 7) f < nW μ) ∧ (μ (wW μ + 8) f = μ 120 f ∧ 0 ≤ μ (wW μ + 8) f ∧ μ (wW μ + 8) f ≤ 29))
/-- the text that is being told, the latest fault -/
def IR (μ : Mem) : Prop := (μ 1 1 = μ 110 22 ∧ 0 ≤ μ 1 1 ∧ μ 1 1 ≤ 250) ∧ (∀ i, 0 ≤ i → i < μ 1 1 → μ 2 i = μ 121 i ∧ 0 ≤ μ 2 i ∧ μ 2 i ≤ 255) ∧ (μ 1 7 = μ 110 26 ∧ -1 ≤ μ 1 7 ∧ μ 1 7 ≤ 250)
/-- a stand of the class at o is the reference's row from place p on -/
def IS (μ : Mem) (o p : Int) : Prop := (μ o 0 = μ 111 (p + 8) ∧ μ o 1 = μ 111 (p + 9) ∧ μ o 2 = μ 111 (p + 10)) ∧ (0 ≤ μ o 1 ∧ μ o 1 ≤ μ o 0 ∧ μ o 0 ≤ 910000) ∧ (0 ≤ μ o 2 ∧ μ o 2 < 2 ^ (nL μ).toNat)
  ∧ ∀ i, 0 ≤ i → i < nW μ → μ (o + 1) i = μ 111 (p + i) ∧ 0 ≤ μ (o + 1) i ∧ μ (o + 1) i < μ (wW μ + 1) i
def IN (μ : Mem) : Prop := IS μ 29 0 ∧ (μ 0 12 = μ 111 11 ∧ 0 ≤ μ 0 12 ∧ μ 0 12 ≤ 2147483647)
/-- the deeds that can be undone -/
def ID (μ : Mem) : Prop := (μ 31 2 = μ 110 31 ∧ 0 ≤ μ 31 2 ∧ μ 31 2 ≤ 30) ∧ (0 ≤ μ 31 1 ∧ μ 31 1 < 30) ∧ ∀ j, 0 ≤ j → j < μ 31 2 → IS μ (33 + 2 * ((μ 31 1 - μ 31 2 + j) % 30)) (36 + 12 * j)
/-- the images -/
def II (μ : Mem) : Prop := ∀ i, 0 ≤ i → i < 2 → (μ (104 + 3 * i) 2 = μ 112 i ∧ 0 ≤ μ 112 i ∧ μ 112 i ≤ 1) ∧ (μ 112 i = 1 → IS μ (105 + 3 * i) (12 + 12 * i) ∧ μ (104 + 3 * i) 1 = μ 111 (12 + 12 * i + 11) ∧ 0 ≤ μ (104 + 3 * i) 1 ∧ μ (104 + 3 * i) 1 ≤ 2147483647)
/-- what stood, the book -/
def IL (μ : Mem) : Prop := (μ 94 3 = μ 110 37 ∧ 0 ≤ μ 94 3 ∧ μ 94 3 ≤ 12) ∧ (μ 98 3 = μ 110 42 ∧ 0 ≤ μ 98 3 ∧ μ 98 3 ≤ 15)
  ∧ (∀ j, 0 ≤ j → j < μ 94 3 → (μ 95 j = μ 126 j ∧ 0 ≤ μ 95 j ∧ μ 95 j < nW μ) ∧ (μ 96 j = μ 127 j ∧ 0 ≤ μ 96 j ∧ μ 96 j ≤ 999) ∧ (μ 97 j = μ 128 j ∧ 0 ≤ μ 97 j ∧ μ 97 j ≤ 29))
  ∧ (∀ j, 0 ≤ j → j < μ 98 3 → (μ 99 j = μ 130 j ∧ 0 ≤ μ 99 j ∧ μ 99 j < nW μ) ∧ (μ 100 j = μ 131 j ∧ 0 ≤ μ 100 j ∧ μ 100 j ≤ 99999) ∧ (μ 101 j = μ 132 j ∧ 0 ≤ μ 101 j ∧ μ 101 j ≤ 29))
/-- the rates that the class keeps are those of now -/
def IM (μ : Mem) : Prop := RS (μ (wW μ + 1)) (μ (wW μ) 3) (μ (wW μ) 4) (nW μ) (Edg (nL μ) (fun l => bt_ (μ 29 2) l = 0) (μ (wW μ + 4)) (μ (wW μ + 5)) (μ (wW μ + 6))) (fun w => (μ 22 w, μ 23 w)) (μ 21 5)
  ∧ (0 ≤ μ 21 4 ∧ μ 21 4 < 2 ^ (nW μ).toNat) ∧ ∀ w, 0 ≤ w → w < nW μ → (bt_ (μ 21 4) w = 1 ↔ μ 22 w ≠ 0)
def Inv (μ : Mem) : Prop := WF μ ∧ IW μ ∧ IR μ ∧ IN μ ∧ ID μ ∧ II μ ∧ IL μ ∧ IM μ
/-- one call on both: they answer alike, and what holds goes on to hold -/
def Both (G : Gm) (M1 M2 : Md) (as : List AV) (μ : Mem) : Prop := Ci G M1 ((2, 0) :: as) SHl μ (fun r μ1 => Ci G M2 ((2, 110) :: as) SHl μ1 (fun r' μ2 => r = r' ∧ R32 r ∧ Inv μ2))
