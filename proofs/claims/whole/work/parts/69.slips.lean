/-! ODDS of no slip, the reference: the least of the shortest ways -/
def RC (μ : Mem) (d : Int) (m : Nat) (x : Int) (κ : Mem) : Prop := (∃ p : List Int, p.length = m ∧ Wl μ d p x ∧ κ 125 x = cod p) ∧ ∀ p, p.length = m → Wl μ d p x → κ 125 x ≤ cod p
def RQ (μ : Mem) (d : Int) (n : Nat) (x0 : Int) (κ : Mem) (x : Int) : Prop := ∀ m, Dt μ d m x → ((m < n ∨ (m = n ∧ x < x0)) → RC μ d m x κ) ∧ (¬ (m < n ∨ (m = n ∧ x < x0)) → κ 125 x = -1)
def RLw (μ : Mem) (d : Int) (n : Nat) (x l : Int) (κ : Mem) : Prop := (∀ y, 0 ≤ y → y < nW μ → y ≠ x → RQ μ d (n + 1) x κ y) ∧ ((κ 125 x = -1 ∧ ∀ j y, j < l → adj μ j x y → ¬ Dt μ d n y) ∨ ((∃ j y, j < l ∧ adj μ j x y ∧ Dt μ d n y ∧ κ 125 x = 11 * κ 125 y + j) ∧ ∀ j y, j < l → adj μ j x y → Dt μ d n y → κ 125 x ≤ 11 * κ 125 y + j))
theorem rc_rg {μ κ : Mem} (h : Inv μ) {d x : Int} {m : Nat} (rc : RC μ d m x κ) (hm : m ≤ 7) : 0 ≤ κ 125 x ∧ κ 125 x < 19487171 := by
  obtain ⟨⟨p, p1, p2, p3⟩, -⟩ := rc
  have r := cod_rg h p x p2
  have e : ∀ m : Nat, m < 8 → (11 : Int) ^ m ≤ 19487171 := by decide +kernel
  have := e p.length (by omega)
  omega
theorem rl_y {μ κ : Mem} (h : Inv μ) {d x l j y : Int} {n : Nat} (rl : RLw μ d n x l κ) (a : adj μ j x y) (dy : Dt μ d n y) : RC μ d n y κ := by
  have r := adj_rg h a
  exact (rl.1 y r.2.1.1 r.2.1.2 (fun e => r.2.2 e.symm) n dy).1 (Or.inl (by omega))
theorem rq_eq {μ κ κ' : Mem} {d x0 y : Int} {n : Nat} (e : κ' 125 y = κ 125 y) (q : RQ μ d n x0 κ y) : RQ μ d n x0 κ' y := fun m hm => by
  have := q m hm
  unfold RC
  rw [e]; exact this
theorem rl_skip {μ κ κ' : Mem} (h : Inv μ) {d x l : Int} {n : Nat} (rl : RLw μ d n x l κ) (e : ∀ y, κ' 125 y = κ 125 y) (no : ∀ y, adj μ l x y → ¬ Dt μ d n y) : RLw μ d n x (l + 1) κ' := by
  refine ⟨fun y y0 y1 ne => rq_eq (e y) (rl.1 y y0 y1 ne), ?_⟩
  rcases rl.2 with ⟨z, nj⟩ | ⟨⟨j, y, j1, j2, j3, j4⟩, le⟩
  · refine Or.inl ⟨by rw [e]; exact z, fun j y hj a => ?_⟩
    by_cases c : j = l
    · rw [c] at a; exact no y a
    · exact nj j y (by omega) a
  · refine Or.inr ⟨⟨j, y, by omega, j2, j3, by rw [e, e]; exact j4⟩, fun j' y' hj a dy => ?_⟩
    rw [e, e]
    by_cases c : j' = l
    · rw [c] at a; exact absurd dy (no y' a)
    · exact le j' y' (by omega) a dy
theorem rl_take {μ κ κ' : Mem} (h : Inv μ) {d x l y : Int} {n : Nat} (rl : RLw μ d n x l κ) (a : adj μ l x y) (dy : Dt μ d n y) (ho : ∀ z, z ≠ x → κ' 125 z = κ 125 z) (hx : κ' 125 x = if κ 125 x < 0 then 11 * κ 125 y + l else if κ 125 x ≤ 11 * κ 125 y + l then κ 125 x else 11 * κ 125 y + l) (hn : n ≤ 7) : RLw μ d n x (l + 1) κ' := by
  have ne : ∀ {j z}, adj μ j x z → z ≠ x := fun q e => (adj_rg h q).2.2 e.symm
  have ry := rc_rg h (rl_y h rl a dy) hn
  have la := adj_l h a
  refine ⟨fun z z0 z1 nz => rq_eq (ho z nz) (rl.1 z z0 z1 nz), Or.inr ?_⟩
  rcases rl.2 with ⟨z, nj⟩ | ⟨⟨j, w, j1, j2, j3, j4⟩, le⟩
  · rw [if_pos (by omega)] at hx
    refine ⟨⟨l, y, by omega, a, dy, by rw [hx, ho y (ne a)]⟩, fun j' y' hj a' dy' => ?_⟩
    by_cases c : j' = l
    · rw [c] at a'
      have := adj_fun h a a'
      subst this
      rw [hx, ho y (ne a), c]; exact Int.le_refl _
    · exact absurd dy' (nj j' y' (by omega) a')
  · have rw_ := rc_rg h (rl_y h rl j2 j3) hn
    have lj := adj_l h j2
    rw [if_neg (by omega)] at hx
    refine ⟨?_, fun j' y' hj a' dy' => ?_⟩
    · split at hx
      · exact ⟨j, w, by omega, j2, j3, by rw [hx, ho w (ne j2)]; exact j4⟩
      · exact ⟨l, y, by omega, a, dy, by rw [hx, ho y (ne a)]⟩
    · rw [ho y' (ne a')]
      by_cases c : j' = l
      · rw [c] at a'
        have := adj_fun h a a'
        subst this
        rw [hx, c]; split <;> omega
      · have := le j' y' (by omega) a' dy'
        rw [hx]; split <;> omega
theorem rl_end {μ κ : Mem} (h : Inv μ) {d x : Int} {n : Nat} (dx : Dt μ d (n + 1) x) (rl : RLw μ d n x (nL μ) κ) : ∀ y, 0 ≤ y → y < nW μ → RQ μ d (n + 1) (x + 1) κ y := fun y y0 y1 => by
  by_cases c : y = x
  · rw [c]
    intro m hm
    have e := dt_un hm dx
    subst e
    refine ⟨fun _ => ?_, fun q => absurd (Or.inr ⟨rfl, by omega⟩) q⟩
    rcases rl.2 with ⟨z, nj⟩ | ⟨⟨j, w, j1, j2, j3, j4⟩, le⟩
    · obtain ⟨j, w, a, dw⟩ := dt_next dx
      exact absurd dw (nj j w a.1.2.1 a)
    · refine ⟨?_, fun p hp hw => ?_⟩
      · obtain ⟨⟨p, p1, p2, p3⟩, -⟩ := rl_y h rl j2 j3
        exact ⟨j :: p, by simp [p1], ⟨w, j2, p2⟩, by rw [j4, p3]; rfl⟩
      · cases p with
        | nil => simp at hp
        | cons j' p =>
          obtain ⟨w', a', hw'⟩ := hw
          have hp' : p.length = n := by simpa using hp
          have dw' := dt_nb dx a' hw' hp'
          have l1 := le j' w' a'.1.2.1 a' dw'
          have l2 := (rl_y h rl a' dw').2 p hp' hw'
          show κ 125 x ≤ 11 * cod p + j'
          omega
  · have q := rl.1 y y0 y1 c
    intro m hm
    refine ⟨fun z => (q m hm).1 (by omega), fun z => (q m hm).2 (by omega)⟩
theorem c8_findRows {G : Gm} {Q : Mem → Prop} {μ κ0 : Mem} (h : Inv μ) (hn : 0 < nW μ) (of0 : Off (FT μ) μ κ0) (q : ∀ κ, Off (FT μ) μ κ → FE μ (μ (wW μ) 3) κ → (∀ x, 0 ≤ x → x < nW μ → ∀ m, Dt μ (μ (wW μ) 3) m x → RC μ (μ (wW μ) 3) m x κ) → Q κ) : Cv G mX8_findRows [(2, 110)] SHl κ0 Q := by
  have hW := h.W
  have nw := h.nw
  have hl := h.nl
  have hd := h.dr
  have d1 := hd.2.2.1 hn
  have ic := h.2.2.2.1.c
  have icr := ic.r h.2.1
  have cr : R32 (μ 29 2) := ⟨by omega, by omega⟩
  have rc : ∀ κ, Off (FT μ) μ κ → κ 110 5 = μ (wW μ) 3 ∧ κ 110 3 = nL μ ∧ κ 111 10 = μ 29 2 ∧ κ 110 2 = nW μ ∧ WF κ := fun κ of => ⟨(of _ _ (by unfold FT FM FR' FR; omega)).trans hd.1.symm, (of _ _ (by unfold FT FM FR' FR; omega)).trans hl.1.symm, (of _ _ (by unfold FT FM FR' FR; omega)).trans ic.1, (of _ _ (by unfold FT FM FR' FR; omega)).trans nw.1.symm, (FT_inv h of).1⟩
  have rlk : ∀ κ, Off (FT μ) μ κ → ∀ l, 0 ≤ l → l < nL μ → κ 116 l = μ (wW μ + 5) l ∧ κ 117 l = μ (wW μ + 6) l := fun κ of l l0 l1 => by
    obtain ⟨-, ⟨k2, -⟩, ⟨k3, -⟩, -⟩ := h.L l0 l1
    exact ⟨(of _ _ (by unfold FT FM FR' FR; omega)).trans k2.symm, (of _ _ (by unfold FT FM FR' FR; omega)).trans k3.symm⟩
  generalize hdr : μ (wW μ) 3 = d at *
  refine eX8_findRows (fun Φ hΦ hR => bX8_findRows_0 hΦ hR ⟨so_110, c8_findFar h hn of0 (fun κ1 of1 fe1 => ?_)⟩)
  rw [hdr] at fe1
  have outer : ∀ (m n : Nat) (κ : Mem), n + m = 8 → 1 ≤ n → Off (FT μ) μ κ → FE μ d κ → (∀ x, 0 ≤ x → x < nW μ → RQ μ d n 0 κ x) → Ex G Φ 8 41 [some (2, 110), some (0, (n : Int)), none, none, none, none, none, none] [] SHl κ 0 0 := by
    intro m
    induction m with
    | zero =>
      intro n κ hm n1 of fe rq
      obtain rfl : n = 8 := by omega
      exact bX8_findRows_41 hΦ hR ⟨⟨by decide, by decide⟩, fun _ => q κ of fe (fun x x0 x1 k dk => (rq x x0 x1 k dk).1 (Or.inl (by have := dt_7 h dk x0 x1; omega))), fun c => absurd (by decide) c⟩
    | succ m ih =>
      intro n κ hm n1 of fe rq
      obtain ⟨k, rfl⟩ : ∃ k, n = k + 1 := ⟨n - 1, by omega⟩
      have nx : ∀ κ', Off (FT μ) μ κ' → FE μ d κ' → (∀ x, 0 ≤ x → x < nW μ → RQ μ d (k + 1) (nW μ) κ' x) → Ex G Φ 8 41 [some (2, 110), some (0, ((k + 1 : Nat) : Int) + 1), none, none, none, none, none, none] [] SHl κ' 0 0 := fun κ' o' f' b' => by
        have := ih (k + 1 + 1) κ' (by omega) (by omega) o' f' (fun x x0 x1 i di => ⟨fun z => (b' x x0 x1 i di).1 (by omega), fun z => (b' x x0 x1 i di).2 (by omega)⟩)
        rw [show (((k + 1 + 1 : Nat)) : Int) = ((k + 1 : Nat) : Int) + 1 by omega] at this
        exact this
      have mid : ∀ (m : Nat) (x : Int) (κ : Mem), 0 ≤ x → x + m = nW μ → Off (FT μ) μ κ → FE μ d κ → (∀ y, 0 ≤ y → y < nW μ → RQ μ d (k + 1) x κ y) → Ex G Φ 8 49 [some (2, 110), some (0, ((k + 1 : Nat) : Int)), some (0, x), none, none, none, none, none] [] SHl κ 0 0 := by
        intro m
        induction m with
        | zero =>
          intro x κ x0 hm of fe rq
          obtain ⟨r5, r3, r10, r2, wk⟩ := rc κ of
          refine bX8_findRows_49 hΦ hR ⟨so_110, ⟨by omega, by omega⟩, ?_⟩
          rw [r2]
          refine ⟨⟨by omega, by omega⟩, fun _ => nx κ of fe (by rw [show nW μ = x by omega]; rw [show nW μ = x by omega] at rq; exact rq), fun c => absurd (by omega) c⟩
        | succ m ihm =>
          intro x κ x0 hm of fe rq
          have x1 : x < nW μ := by omega
          obtain ⟨r5, r3, r10, r2, wk⟩ := rc κ of
          refine bX8_findRows_49 hΦ hR ⟨so_110, ⟨by omega, by omega⟩, ?_⟩
          rw [r2]
          refine ⟨⟨by omega, by omega⟩, fun c => absurd c (by omega), fun _ => ?_⟩
          have next : ∀ κ', Off (FT μ) μ κ' → FE μ d κ' → (∀ y, 0 ≤ y → y < nW μ → RQ μ d (k + 1) (x + 1) κ' y) → Ex G Φ 8 49 [some (2, 110), some (0, ((k + 1 : Nat) : Int)), some (0, x + 1), none, none, none, none, none] [] SHl κ' 0 0 := fun κ' o' f' r' => ihm (x + 1) κ' (by omega) (by omega) o' f' r'
          -- no row for this wheel in this turn
          have pass : ¬ Dt μ d (k + 1) x → ∀ y, 0 ≤ y → y < nW μ → RQ μ d (k + 1) (x + 1) κ y := fun nd y y0 y1 i di => by
            have := rq y y0 y1 i di
            by_cases c : y = x
            · rw [c] at di this ⊢
              have : i ≠ k + 1 := fun e => nd (e ▸ di)
              exact ⟨fun z => (rq x x0 x1 i di).1 (by omega), fun z => (rq x x0 x1 i di).2 (by omega)⟩
            · exact ⟨fun z => this.1 (by omega), fun z => this.2 (by omega)⟩
          by_cases dx : Dt μ d (k + 1) x
          · have start : RLw μ d k x 0 κ := ⟨fun y y0 y1 _ => rq y y0 y1, Or.inl ⟨(rq x x0 x1 _ dx).2 (by omega), fun j y hj a => by have := a.1.1; omega⟩⟩
            have inner : ∀ (m : Nat) (l : Int) (κ : Mem), 0 ≤ l → l + m = nL μ → Off (FT μ) μ κ → FE μ d κ → RLw μ d k x l κ → Ex G Φ 8 59 [some (2, 110), some (0, ((k + 1 : Nat) : Int)), some (0, x), some (0, l), none, none, none, none] [] SHl κ 0 0 := by
              intro m
              induction m with
              | zero =>
                intro l κ l0 hm of fe rl
                obtain ⟨r5, r3, r10, r2, wk⟩ := rc κ of
                refine bX8_findRows_59 hΦ hR ⟨so_110, ⟨by omega, by omega⟩, ?_⟩
                rw [r3]
                exact ⟨⟨by omega, by omega⟩, fun _ => next κ of fe (rl_end h dx (by rw [show nL μ = l by omega]; exact rl)), fun c => absurd (by omega) c⟩
              | succ m ihl =>
                intro l κ l0 hm of fe rl
                have l1 : l < nL μ := by omega
                obtain ⟨r5, r3, r10, r2, wk⟩ := rc κ of
                obtain ⟨k16, k17⟩ := rlk κ of l l0 l1
                obtain ⟨-, ⟨-, p0, p1⟩, ⟨-, q0, q1⟩, ne, -⟩ := h.L l0 l1
                have fx := (fe x x0 x1).2.1 _ dx
                have go : ∀ κ', Off (FT μ) μ κ' → (∀ y, κ' 124 y = κ 124 y) → RLw μ d k x (l + 1) κ' → Ex G Φ 8 59 [some (2, 110), some (0, ((k + 1 : Nat) : Int)), some (0, x), some (0, l + 1), none, none, none, none] [] SHl κ' 0 0 := fun κ' o' e' r' => by
                  refine ihl (l + 1) κ' (by omega) (by omega) o' (fun y y0 y1 => ?_) r'
                  rw [e']; exact fe y y0 y1
                have skip : ∀ t0, (∀ y, adj μ l x y → ¬ Dt μ d k y) → Ex G Φ 8 154 [some (2, 110), some (0, ((k + 1 : Nat) : Int)), some (0, x), some (0, l), some (0, t0), none, none, none] [] SHl κ 0 0 := fun t0 no => by
                  refine bX8_findRows_154 hΦ hR (bX8_findRows_182 hΦ hR ⟨so_110, R32_0, fun _ => ?_, fun c => absurd rfl c⟩)
                  rw [wf_110_33 wk]
                  refine ⟨ai_125 x0 (by omega), ?_⟩
                  rintro m4 e4
                  have same : ∀ y, m4 125 y = κ 125 y := fun y => by
                    rw [e4]
                    by_cases c : y = x
                    · rw [c, mu_same]
                    · rw [mu_off2 (by omega)]
                  exact go m4 (by rw [e4]; exact Off.mu of (by unfold FT; omega)) (fun y => by rw [e4, mu_off2 (by omega)]) (rl_skip h rl same no)
                have try_ : ∀ y, (∀ y', adj μ l x y' → y' = y) → (bt_ (μ 29 2) l = 0 → adj μ l x y) → 0 ≤ y → y < nW μ → Ex G Φ 8 116 [some (2, 110), some (0, ((k + 1 : Nat) : Int)), some (0, x), some (0, l), none, none, none, none] [(0, y)] SHl κ 0 0 := fun y un mk y0 y1 => by
                  obtain ⟨ry, dy1, dy2⟩ := fe y y0 y1
                  refine bX8_findRows_116 hΦ hR ⟨⟨by omega, by omega⟩, fun c => absurd c (by omega), fun _ => ⟨so_110, ?_⟩⟩
                  rw [wf_110_0 wk, r10]
                  refine ⟨ai_111 (by decide) (by decide), c_m_has cr l0 (by omega) ⟨R32_one (bt_rg _ _), fun off => skip y (fun y' a' => absurd a'.1.2.2 off), fun on => ?_⟩⟩
                  rw [wf_110_32 wk, wf_110_33 wk]
                  refine ⟨ai_124 y0 (by omega), ⟨by omega, by omega⟩, ⟨by omega, by omega⟩, fun c => skip y (fun y' a' dy' => c ?_), fun c => ⟨ai_125 y0 (by omega), ⟨by omega, by omega⟩, ?_⟩⟩
                  · rw [un y' a'] at dy'
                    have := dy1 k dy'
                    omega
                  · have dy : Dt μ d k y := dy2 k (by omega) (by omega)
                    have ay := mk on
                    have k7 : k ≤ 7 := by omega
                    have rcy := rc_rg h (rl_y h rl ay dy) k7
                    have rx : -1 ≤ κ 125 x ∧ κ 125 x ≤ 214358900 := by
                      rcases rl.2 with ⟨z, -⟩ | ⟨⟨j, w, j1, j2, j3, j4⟩, -⟩
                      · omega
                      · have := rc_rg h (rl_y h rl j2 j3) k7
                        have := adj_l h j2
                        omega
                    have fin : ∀ v m7, m7 = mu κ 125 x v → v = (if κ 125 x < 0 then 11 * κ 125 y + l else if κ 125 x ≤ 11 * κ 125 y + l then κ 125 x else 11 * κ 125 y + l) → Ex G Φ 8 59 [some (2, 110), some (0, ((k + 1 : Nat) : Int)), some (0, x), some (0, l + 1), none, none, none, none] [] SHl m7 0 0 := fun v m7 e7 hv =>
                      go m7 (by rw [e7]; exact Off.mu of (by unfold FT; omega)) (fun y => by rw [e7, mu_off2 (by omega)]) (rl_take h rl ay dy (fun z hz => by rw [e7, mu_off2 (by omega)]) (by rw [e7, mu_same]; exact hv) k7)
                    refine bX8_findRows_182 hΦ hR ⟨so_110, R32_1, fun e => absurd e (by decide), fun _ => ?_⟩
                    rw [wf_110_33 wk]
                    exact ⟨ai_125 x0 (by omega), ⟨by omega, by omega⟩, fun c => fun m7 e7 => fin _ m7 e7 (by rw [if_pos c]), fun c => ⟨⟨by omega, by omega⟩, fun c2 m9 e9 => fin _ m9 e9 (by rw [if_neg c, if_pos c2]), fun c2 m9 e9 => fin _ m9 e9 (by rw [if_neg c, if_neg c2])⟩⟩
                refine bX8_findRows_59 hΦ hR ⟨so_110, ⟨by omega, by omega⟩, ?_⟩
                rw [r3, wf_110_32 wk, fx, wf_110_16 wk, k16, wf_110_17 wk, k17]
                refine ⟨⟨by omega, by omega⟩, fun c => absurd c (by omega), fun _ => ⟨ai_124 x0 (by omega), ⟨by omega, by omega⟩, ⟨by omega, by omega⟩, fun c => absurd rfl c, fun _ => ⟨ai_116 l0 (by omega), ⟨by omega, by omega⟩, ⟨by omega, by omega⟩, fun c1 => ⟨ai_117 l0 (by omega), ⟨by omega, by omega⟩, fun c2 => ?_, fun c2 => ?_⟩, fun c1 => ⟨ai_117 l0 (by omega), ?_⟩⟩⟩⟩
                · refine bX8_findRows_116 hΦ hR ⟨by decide, fun _ => skip (-1) (fun y' a' => ?_), fun c => absurd (by decide) c⟩
                  rcases a'.2 with ⟨e, -⟩ | ⟨e, -⟩
                  · exact absurd e c1
                  · exact absurd e c2
                · refine try_ _ (fun y' a' => ?_) (fun on => ⟨⟨l0, l1, on⟩, Or.inr ⟨c2, rfl⟩⟩) p0 p1
                  rcases a'.2 with ⟨e, -⟩ | ⟨-, e⟩
                  · exact absurd e c1
                  · exact e.symm
                · refine try_ _ (fun y' a' => ?_) (fun on => ⟨⟨l0, l1, on⟩, Or.inl ⟨c1, rfl⟩⟩) q0 q1
                  rcases a'.2 with ⟨-, e⟩ | ⟨e, -⟩
                  · exact e.symm
                  · omega
            exact inner (nL μ).toNat 0 κ (by decide) (by omega) of fe start
          · refine bX8_findRows_59 hΦ hR ⟨so_110, R32_0, ?_⟩
            rw [r3, wf_110_32 wk]
            obtain ⟨ry, dy1, dy2⟩ := fe x x0 x1
            exact ⟨⟨by omega, by omega⟩, fun _ => next κ of fe (pass dx), fun _ => ⟨ai_124 x0 (by omega), ⟨by omega, by omega⟩, ⟨by omega, by omega⟩, fun _ => next κ of fe (pass dx), fun c => absurd (dy2 (k + 1) (by omega) c) dx⟩⟩
      refine bX8_findRows_41 hΦ hR ⟨⟨by omega, by omega⟩, fun c => absurd c (by omega), fun _ => mid (nW μ).toNat 0 κ (by decide) (by omega) of fe rq⟩
  have init : ∀ (m : Nat) (i : Int) (κ : Mem), 0 ≤ i → i + m = 8 → Off (FT μ) μ κ → FE μ d κ → (∀ x, 0 ≤ x → x < i → κ 125 x = if x = d then 0 else -1) → Ex G Φ 8 6 [some (2, 110), some (0, i), none, none, none, none, none, none] [] SHl κ 0 0 := by
    intro m
    induction m with
    | zero =>
      intro i κ i0 hm of fe hc
      obtain rfl : i = 8 := by omega
      refine bX8_findRows_6 hΦ hR ⟨⟨by decide, by decide⟩, fun _ => outer 7 1 κ (by decide) (by decide) of fe (fun x x0 x1 k dk => ?_), fun c => absurd (by decide) c⟩
      have e := hc x x0 (by omega)
      refine ⟨fun z => ?_, fun z => ?_⟩
      · have k0 : k = 0 := by omega
        subst k0
        have xd := dt_0 dk
        rw [if_pos xd] at e
        refine ⟨⟨[], rfl, xd, e⟩, fun p hp _ => ?_⟩
        cases p with
        | nil => rw [e]; exact Int.le_refl _
        | cons a b => simp at hp
      · have xd : x ≠ d := fun c => by
          rw [c] at dk
          have := dt_un dk dt_t
          omega
        rw [if_neg xd] at e; exact e
    | succ m ih =>
      intro i κ i0 hm of fe hc
      obtain ⟨r5, r3, r10, r2, wk⟩ := rc κ of
      refine bX8_findRows_6 hΦ hR ⟨⟨by omega, by omega⟩, fun c => absurd c (by omega), fun _ => ⟨so_110, ?_⟩⟩
      rw [r5, wf_110_33 wk]
      have kk : ∀ v, v = (if i = d then 0 else -1) → ∀ m5, m5 = mu κ 125 i v → Ex G Φ 8 6 [some (2, 110), some (0, i + 1), none, none, none, none, none, none] [] SHl m5 0 0 := fun v hv m5 e5 => by
        refine ih (i + 1) m5 (by omega) (by omega) (by rw [e5]; exact Off.mu of (by unfold FT; omega)) (fun y y0 y1 => by rw [show m5 124 y = κ 124 y by rw [e5, mu_off2 (by omega)]]; exact fe y y0 y1) (fun x x0 x1 => ?_)
        by_cases c : x = i
        · rw [c, e5, mu_same]; exact hv
        · rw [e5, mu_off2 (by omega)]; exact hc x x0 (by omega)
      exact ⟨⟨by omega, by omega⟩, fun c => ⟨ai_125 i0 (by omega), kk (-1) (by rw [if_neg c])⟩, fun c => ⟨ai_125 i0 (by omega), kk 0 (by rw [if_pos c])⟩⟩
  exact init 8 0 κ1 (by decide) (by decide) of1 fe1 (fun x x0 x1 => by omega)
theorem c8_figure {G : Gm} {S : List Sh} {μ : Mem} {Q : Int → Mem → Prop} {v k n : Int} (hv : 0 ≤ v ∧ v ≤ 1000000000000) (hk : 0 ≤ k) (hn : k < n ∧ n ≤ 8) (q : Q (v / 11 ^ (n - 1 - k).toNat % 11) μ) : Ci G mX8_figure [(1, v), (0, k), (0, n)] S μ Q := by
  refine eX8_figure (fun Φ hΦ hR => bX8_figure_0 hΦ hR ?_)
  have loop : ∀ (m i : Nat), i + (m : Int) = n - 1 - k → Ex G Φ 7 8 [some (1, v), none, some (0, k), some (0, n), some (1, v / 11 ^ i), none, some (0, n - 1 - i)] [] S μ 0 0 := by
    intro m
    induction m with
    | zero =>
      intro i hi
      have p : (0 : Int) < 11 ^ i := Int.pow_pos (by decide)
      have r0 : 0 ≤ v / 11 ^ i := Int.ediv_nonneg hv.1 (by omega)
      have r1 : v / 11 ^ i ≤ v := Int.ediv_le_self _ hv.1
      refine bX8_figure_8 hΦ hR ⟨⟨by omega, by omega⟩, ⟨by omega, by omega⟩, fun _ => ⟨⟨by omega, by omega⟩, ?_⟩, fun c => absurd (by omega) c⟩
      rw [tmod_pos (by decide), if_pos (Or.inl r0)]
      rw [show (n - 1 - k).toNat = i by omega] at q
      exact q
    | succ m ih =>
      intro i hi
      have p : (0 : Int) < 11 ^ i := Int.pow_pos (by decide)
      have r0 : 0 ≤ v / 11 ^ i := Int.ediv_nonneg hv.1 (by omega)
      have r1 : v / 11 ^ i ≤ v := Int.ediv_le_self _ hv.1
      have nx := ih (i + 1) (by omega)
      rw [Int.pow_succ, ← Int.ediv_ediv_of_nonneg (by omega), show n - 1 - ((i + 1 : Nat) : Int) = n - 1 - (i : Int) + -1 by omega] at nx
      refine bX8_figure_8 hΦ hR ⟨⟨by omega, by omega⟩, ⟨by omega, by omega⟩, fun c => absurd c (by omega), fun _ => ⟨⟨by omega, by omega⟩, ?_⟩⟩
      rw [tdiv_pos (by decide), if_pos (Or.inl r0)]
      exact nx
  have := loop (n - 1 - k).toNat 0 (by omega)
  rw [show v / 11 ^ 0 = v by simp, show n - 1 - ((0 : Nat) : Int) = n - 1 by omega] at this
  exact this
