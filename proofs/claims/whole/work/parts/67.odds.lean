/-! ODDS of no slip, the class -/
def BI (μ : Mem) (w : Int) (k : Nat) (κ : Mem) : Prop := ∀ x, 0 ≤ x → x < nW μ → (∃ n, n ≤ k ∧ Dt μ w n x ∧ κ 102 x = n) ∨ (κ 102 x = -1 ∧ ∀ n, n ≤ k → ¬ Dt μ w n x)
def BJ (μ : Mem) (w : Int) (k : Nat) (l : Int) (κ : Mem) : Prop := ∀ x, 0 ≤ x → x < nW μ → (∃ n, n ≤ k ∧ Dt μ w n x ∧ κ 102 x = n) ∨ (κ 102 x = k + 1 ∧ Dt μ w (k + 1) x) ∨ (κ 102 x = -1 ∧ (∀ n, n ≤ k → ¬ Dt μ w n x) ∧ ∀ j y, j < l → adj μ j x y → ¬ Dt μ w k y)
theorem BJ_r {μ κ : Mem} {w l x : Int} {k : Nat} (h : BJ μ w k l κ) (hk : k ≤ 8) (x0 : 0 ≤ x) (x1 : x < nW μ) : -1 ≤ κ 102 x ∧ κ 102 x ≤ 9 := by
  rcases h x x0 x1 with ⟨n, n1, -, e⟩ | ⟨e, -⟩ | ⟨e, -⟩ <;> omega
theorem c7_countAcross {G : Gm} {Q : Mem → Prop} {κ : Mem} {x o k : Int} (wf : WF κ) (x0 : 0 ≤ x) (x1 : x < 8) (o0 : 0 ≤ o) (o1 : o < 8) (hk : 0 ≤ k ∧ k ≤ 8) (rx : R32 (κ 102 x)) (ro : R32 (κ 102 o)) (q : Q (if κ 102 x = k ∧ κ 102 o = -1 then mu κ 102 o (k + 1) else κ)) : Cv G mX7_countAcross [(2, 0), (0, x), (0, o), (0, k)] SHl κ Q := by
  refine eX7_countAcross (fun Φ hΦ hR => bX7_countAcross_0 hΦ hR ⟨so_0, ?_⟩)
  rw [wf_0_10 wf]
  refine ⟨ai_102 x0 x1, rx, ⟨by omega, by omega⟩, fun c => ?_, fun c => ⟨ai_102 o0 o1, ro, fun d => ?_, fun d => ?_⟩⟩
  · rw [if_neg (fun z => c z.1)] at q; exact q
  · rw [if_neg (fun z => d z.2)] at q; exact q
  · rintro m7 e7
    rw [if_pos ⟨c, d⟩] at q; rw [e7]; exact q
theorem bj_cross {μ κ : Mem} (h : Inv μ) {w l o x : Int} {k : Nat} (bj : BJ μ w k l κ) (a : adj μ l o x) : BJ μ w k l (if κ 102 x = k ∧ κ 102 o = -1 then mu κ 102 o (k + 1) else κ) ∧ ((if κ 102 x = k ∧ κ 102 o = -1 then mu κ 102 o (k + 1) else κ) 102 o = -1 → ¬ Dt μ w k x) ∧ ∀ y, κ 102 y ≠ -1 → (if κ 102 x = k ∧ κ 102 o = -1 then mu κ 102 o (k + 1) else κ) 102 y ≠ -1 := by
  obtain ⟨⟨o0, o1⟩, ⟨x0, x1⟩, ne⟩ := adj_rg h a
  by_cases c : κ 102 x = k ∧ κ 102 o = -1
  · rw [if_pos c]
    have dx : Dt μ w k x := by
      rcases bj x x0 x1 with ⟨n, n1, n2, e⟩ | ⟨e, -⟩ | ⟨e, -⟩
      · rw [show k = n by omega]; exact n2
      · omega
      · omega
    have no : ∀ n, n ≤ k → ¬ Dt μ w n o := by
      rcases bj o o0 o1 with ⟨n, n1, n2, e⟩ | ⟨e, -⟩ | ⟨e, z, -⟩
      · omega
      · omega
      · exact z
    refine ⟨fun y y0 y1 => ?_, fun e => ?_, fun y hy => ?_⟩
    · by_cases q : y = o
      · rw [q, mu_same]; exact Or.inr (Or.inl ⟨rfl, dt_step a dx no⟩)
      · rw [mu_off2 (by omega)]; exact bj y y0 y1
    · rw [mu_same] at e; omega
    · by_cases q : y = o
      · rw [q, mu_same]; omega
      · rw [mu_off2 (by omega)]; exact hy
  · rw [if_neg c]
    refine ⟨bj, fun e dx => ?_, fun y hy => hy⟩
    have : κ 102 x ≠ k := fun z => c ⟨z, e⟩
    rcases bj x x0 x1 with ⟨n, n1, n2, e2⟩ | ⟨e2, d2⟩ | ⟨e2, z, -⟩
    · have := dt_un n2 dx
      omega
    · have := dt_un d2 dx
      omega
    · exact z k (Nat.le_refl _) dx
theorem c7_countLinksAway {G : Gm} {Q : Mem → Prop} {μ : Mem} {w : Int} (h : Inv μ) (w0 : 0 ≤ w) (w1 : w < nW μ) (q : ∀ κ, Off (FT μ) μ κ → BI μ w 8 κ → Q κ) : Cv G mX7_countLinksAway [(2, 0), (0, w)] SHl μ Q := by
  have wf := h.1
  have hW := h.W
  have nw := h.nw
  have hl := h.nl
  have ic := h.2.2.2.1.c
  have icr := ic.r h.2.1
  have so102 : So SHl 102 (.inr (0, 8)) := so_102
  refine eX7_countLinksAway (fun Φ hΦ hR => bX7_countLinksAway_0 hΦ hR ⟨so_0, ?_⟩)
  rw [wf_0_10 wf]
  refine c_fillI so102 (by decide) ?_
  have w10 : mfill μ 102 ((8 : Nat) : Int) (-1) 0 10 = 102 := by rw [mfill_off (by omega)]; exact wf_0_10 wf
  rw [w10]
  refine ⟨ai_102 w0 (by omega), ?_⟩
  rintro m4 e4
  have o4 : Off (FT μ) μ m4 := by
    rw [e4]
    refine Off.mu (fun k i c => mfill_off (fun z => c (by unfold FT; omega))) (by unfold FT; omega)
  have b4 : BI μ w 0 m4 := fun x x0 x1 => by
    by_cases c : x = w
    · subst c
      exact Or.inl ⟨0, Nat.le_refl _, dt_t, by rw [e4, mu_same]; rfl⟩
    · refine Or.inr ⟨by rw [e4, mu_off2 (by omega), mfill_on ⟨x0, by omega⟩], fun n hn d => c ?_⟩
      rw [show n = 0 by omega] at d
      exact dt_0 d
  have outer : ∀ (m k : Nat) (κ : Mem), k + m = 8 → Off (FT μ) μ κ → BI μ w k κ → Ex G Φ 4 17 [some (2, 0), some (0, w), some (0, (k : Int)), none] [] SHl κ 0 0 := by
    intro m
    induction m with
    | zero =>
      intro k κ hk of bi
      obtain rfl : k = 8 := by omega
      exact bX7_countLinksAway_17 hΦ hR ⟨⟨by decide, by decide⟩, fun _ => q κ of bi, fun c => absurd (by decide) c⟩
    | succ m ih =>
      intro k κ hk of bi
      have nx : ∀ κ', Off (FT μ) μ κ' → BI μ w (k + 1) κ' → Ex G Φ 4 17 [some (2, 0), some (0, w), some (0, (k : Int) + 1), none] [] SHl κ' 0 0 := fun κ' o' b' => by
        have := ih (k + 1) κ' (by omega) o' b'
        rw [show (((k + 1 : Nat)) : Int) = (k : Int) + 1 by omega] at this
        exact this
      have inner : ∀ (m : Nat) (l : Int) (κ : Mem), 0 ≤ l → l + m = nL μ → Off (FT μ) μ κ → BJ μ w k l κ → Ex G Φ 4 25 [some (2, 0), some (0, w), some (0, (k : Int)), some (0, l)] [] SHl κ 0 0 := by
        intro m
        induction m with
        | zero =>
          intro l κ l0 hm of bj
          obtain ⟨hi, en, el⟩ := off8 h of
          refine bX7_countLinksAway_25 hΦ hR ⟨so_0, so_W hi.2.1.1, ⟨by omega, by omega⟩, ⟨?_, ?_⟩, fun _ => nx κ of (fun x x0 x1 => ?_), fun c => absurd ?_ c⟩
          · show _ ≤ nL κ; omega
          · show nL κ ≤ _; omega
          · rcases bj x x0 x1 with ⟨n, n1, n2, e⟩ | ⟨e, d⟩ | ⟨e, no, nj⟩
            · exact Or.inl ⟨n, by omega, n2, e⟩
            · exact Or.inl ⟨k + 1, Nat.le_refl _, d, by rw [e]; omega⟩
            · refine Or.inr ⟨e, fun n hn d => ?_⟩
              by_cases c : n ≤ k
              · exact no n c d
              · rw [show n = k + 1 by omega] at d
                obtain ⟨j, y, a, dy⟩ := dt_next d
                exact nj j y (by have := a.1.2.1; omega) a dy
          · show nL κ ≤ l; omega
        | succ m ihm =>
          intro l κ l0 hm of bj
          obtain ⟨hi, en, el⟩ := off8 h of
          have wk := hi.1
          have r0 := FT_r0 h of
          have ew : κ 0 1 = wW μ := r0 0 1 (by omega)
          have l1 : l < nL μ := by omega
          obtain ⟨-, ⟨-, p0, p1⟩, ⟨-, q0, q1⟩, ne, -⟩ := h.L l0 l1
          have e29 : κ 29 2 = μ 29 2 := r0 29 2 (by omega)
          refine bX7_countLinksAway_25 hΦ hR ⟨so_0, so_W hi.2.1.1, ⟨by omega, by omega⟩, ⟨?_, ?_⟩, fun c => absurd (show nL κ ≤ l from c) (by omega), fun _ => c7_isOn wk (by rw [e29]; exact ⟨by omega, by omega⟩) l0 (by omega) ?_⟩
          · show _ ≤ nL κ; omega
          · show nL κ ≤ _; omega
          rw [e29]
          by_cases on : bt_ (μ 29 2) l = 0
          · rw [if_pos on, ew, wf_W9 wk h.2.1.1, wf_W10 wk h.2.1.1, r0 (wW μ + 5) l (by omega), r0 (wW μ + 6) l (by omega)]
            refine ⟨R32_1, fun e => absurd e (by decide), fun _ => ⟨so_W h.2.1.1, ai_W5 h.2.1.1 l0 (by omega), ai_W6 h.2.1.1 l0 (by omega), ?_⟩⟩
            have ra := BJ_r bj (by omega) p0 p1
            have rb := BJ_r bj (by omega) q0 q1
            have ab : adj μ l (μ (wW μ + 6) l) (μ (wW μ + 5) l) := ⟨⟨l0, l1, on⟩, Or.inr ⟨rfl, rfl⟩⟩
            obtain ⟨j1, j2, j3⟩ := bj_cross h bj ab
            refine c7_countAcross wk p0 (by omega) q0 (by omega) ⟨by omega, by omega⟩ ⟨by omega, by omega⟩ ⟨by omega, by omega⟩ ?_
            generalize hκ1 : (if κ 102 (μ (wW μ + 5) l) = k ∧ κ 102 (μ (wW μ + 6) l) = -1 then mu κ 102 (μ (wW μ + 6) l) (k + 1) else κ) = κ1 at *
            have o1 : Off (FT μ) μ κ1 := by
              rw [← hκ1]
              split
              · exact Off.mu of (by unfold FT; omega)
              · exact of
            have w1' := (FT_inv h o1).1
            have r1 := FT_r0 h o1
            rw [show κ1 0 1 = wW μ from r1 0 1 (by omega), wf_W9 w1' h.2.1.1, wf_W10 w1' h.2.1.1, r1 (wW μ + 5) l (by omega), r1 (wW μ + 6) l (by omega)]
            refine ⟨so_W h.2.1.1, ai_W6 h.2.1.1 l0 (by omega), ai_W5 h.2.1.1 l0 (by omega), ?_⟩
            have ra := BJ_r j1 (by omega) p0 p1
            have rb := BJ_r j1 (by omega) q0 q1
            obtain ⟨i1, i2, i3⟩ := bj_cross h j1 (adj_sym ab)
            refine c7_countAcross w1' q0 (by omega) p0 (by omega) ⟨by omega, by omega⟩ ⟨by omega, by omega⟩ ⟨by omega, by omega⟩ ?_
            generalize hκ2 : (if κ1 102 (μ (wW μ + 6) l) = k ∧ κ1 102 (μ (wW μ + 5) l) = -1 then mu κ1 102 (μ (wW μ + 5) l) (k + 1) else κ1) = κ2 at *
            have o2 : Off (FT μ) μ κ2 := by
              rw [← hκ2]
              split
              · exact Off.mu o1 (by unfold FT; omega)
              · exact o1
            refine ihm (l + 1) κ2 (by omega) (by omega) o2 (fun x x0 x1 => ?_)
            rcases i1 x x0 x1 with z | z | ⟨e, no, nj⟩
            · exact Or.inl z
            · exact Or.inr (Or.inl z)
            · refine Or.inr (Or.inr ⟨e, no, fun j y hj a => ?_⟩)
              by_cases c : j = l
              · rw [c] at a
                rcases a.2 with ⟨c1, c2⟩ | ⟨c1, c2⟩
                · rw [← c2]; exact i2 (by rw [c1]; exact e)
                · rw [← c2]
                  refine j2 (Classical.byContradiction fun z => ?_)
                  exact i3 _ z (by rw [c1]; exact e)
              · exact nj j y (by omega) a
          · rw [if_neg on]
            refine ⟨R32_0, fun _ => ihm (l + 1) κ (by omega) (by omega) of (fun x x0 x1 => ?_), fun e => absurd rfl e⟩
            rcases bj x x0 x1 with z | z | ⟨e, no, nj⟩
            · exact Or.inl z
            · exact Or.inr (Or.inl z)
            · refine Or.inr (Or.inr ⟨e, no, fun j y hj a => ?_⟩)
              by_cases c : j = l
              · rw [c] at a; exact absurd a.1.2.2 on
              · exact nj j y (by omega) a
      exact bX7_countLinksAway_17 hΦ hR ⟨⟨by omega, by omega⟩, fun c => absurd c (by omega), fun _ => inner (nL μ).toNat 0 κ (by decide) (by omega) of (fun x x0 x1 => by
        rcases bi x x0 x1 with ⟨n, n1, n2, e⟩ | ⟨e, no⟩
        · exact Or.inl ⟨n, n1, n2, e⟩
        · refine Or.inr (Or.inr ⟨e, no, fun j y hj a => ?_⟩)
          have := a.1.1; omega)⟩
  exact outer 8 0 m4 (by decide) o4 b4
theorem c7_nextLinkTo {G : Gm} {Q : Int → Mem → Prop} {μ κ : Mem} {w x y l : Int} {n : Nat} (h : Inv μ) (of : Off (FT μ) μ κ) (bi : BI μ w 8 κ) (x0 : 0 ≤ x) (x1 : x < nW μ) (hn : n < 8) (dx : Dt μ w (n + 1) x) (a : adj μ l x y) (dy : Dt μ w n y) (mn : ∀ j z, j < l → adj μ j x z → ¬ Dt μ w n z) (q : Q l κ) : Ci G mX7_nextLinkTo [(2, 0), (0, x)] SHl κ Q := by
  have hW := h.W
  have nw := h.nw
  have hl := h.nl
  obtain ⟨hi, en, el⟩ := off8 h of
  have wk := hi.1
  have r0 := FT_r0 h of
  have ew : κ 0 1 = wW μ := r0 0 1 (by omega)
  have ic := h.2.2.2.1.c
  have icr := ic.r h.2.1
  have e29 : κ 29 2 = μ 29 2 := r0 29 2 (by omega)
  have av : ∀ z, 0 ≤ z → z < nW μ → ∀ m, Dt μ w m z → κ 102 z = m := fun z z0 z1 m dm => by
    rcases bi z z0 z1 with ⟨k, k1, k2, e⟩ | ⟨e, no⟩
    · rw [e, dt_un k2 dm]
    · exact absurd dm (no m (by have := dt_7 h dm z0 z1; omega))
  have va : ∀ z, 0 ≤ z → z < nW μ → ∀ m : Nat, κ 102 z = m → Dt μ w m z := fun z z0 z1 m e => by
    rcases bi z z0 z1 with ⟨k, k1, k2, e2⟩ | ⟨e2, no⟩
    · rw [show m = k by omega]; exact k2
    · omega
  have ar : ∀ z, 0 ≤ z → z < nW μ → -1 ≤ κ 102 z ∧ κ 102 z ≤ 8 := fun z z0 z1 => by
    rcases bi z z0 z1 with ⟨k, k1, k2, e2⟩ | ⟨e2, no⟩ <;> omega
  have l0 := a.1.1
  have l1 : l < nL μ := a.1.2.1
  refine eX7_nextLinkTo (fun Φ hΦ hR => bX7_nextLinkTo_0 hΦ hR ?_)
  have loop : ∀ (m : Nat) (j : Int), 0 ≤ j → j + m = l → Ex G Φ 4 2 [some (2, 0), some (0, x), some (0, j), none] [] SHl κ 0 0 := by
    intro m
    have body : ∀ j, 0 ≤ j → j ≤ l → (∀ z, adj μ j x z → Dt μ w n z → Q j κ) → ((∀ z, adj μ j x z → ¬ Dt μ w n z) → Ex G Φ 4 2 [some (2, 0), some (0, x), some (0, j + 1), none] [] SHl κ 0 0) → Ex G Φ 4 2 [some (2, 0), some (0, x), some (0, j), none] [] SHl κ 0 0 := fun j j0 j1 hy hn' => by
      have jl : j < nL μ := by omega
      obtain ⟨-, ⟨-, p0, p1⟩, ⟨-, q0, q1⟩, ne, -⟩ := h.L j0 jl
      refine bX7_nextLinkTo_2 hΦ hR ⟨so_0, so_W hi.2.1.1, ⟨by omega, by omega⟩, ⟨?_, ?_⟩, fun c => absurd (show nL κ ≤ j from c) (by omega), fun _ => ?_⟩
      · show _ ≤ nL κ; omega
      · show nL κ ≤ _; omega
      rw [ew]
      refine c6_across (nw := nW μ) wk h.2.1.1 j0 (by omega) ⟨x0, by omega⟩ (by rw [r0 (wW μ + 5) j (by omega)]; exact ⟨p0, p1⟩) (by rw [r0 (wW μ + 6) j (by omega)]; exact ⟨q0, q1⟩) nw.2.2 (c7_isOn wk (by rw [e29]; exact ⟨by omega, by omega⟩) j0 (by omega) ?_)
      rw [e29, r0 (wW μ + 5) j (by omega), r0 (wW μ + 6) j (by omega)]
      by_cases on : bt_ (μ 29 2) j = 0
      · rw [if_pos on]
        have fin : ∀ z, adj μ j x z → R32 z ∧ ((z = -1 → Ex G Φ 4 2 [some (2, 0), some (0, x), some (0, j + 1), none] [] SHl κ 0 0) ∧ (¬ (z = -1) → Ai SHl (κ 0 10) 0 z ∧ (Ai SHl (κ 0 10) 0 x ∧ (R32 (κ (κ 0 10) z) ∧ (R32 ((κ (κ 0 10) x) - 1) ∧ (((κ (κ 0 10) z) ≠ ((κ (κ 0 10) x) - 1) → Ex G Φ 4 2 [some (2, 0), some (0, x), some (0, j + 1), none] [] SHl κ 0 0) ∧ ((κ (κ 0 10) z) = ((κ (κ 0 10) x) - 1) → Q j κ))))))) := fun z az => by
          have rz := (adj_rg h az).2.1
          have a1 := ar z rz.1 rz.2
          have a2 := ar x x0 x1
          have ax := av x x0 x1 _ dx
          rw [wf_0_10 wk]
          refine ⟨⟨by omega, by omega⟩, fun e => by omega, fun _ => ⟨ai_102 rz.1 (by omega), ai_102 x0 (by omega), ⟨by omega, by omega⟩, ⟨by omega, by omega⟩, fun c => hn' (fun z' az' dz => c ?_), fun c => hy z az (va z rz.1 rz.2 n (by omega))⟩⟩
          have := adj_fun h az az'
          subst this
          rw [av z rz.1 rz.2 _ dz]; omega
        refine ⟨R32_1, fun e => absurd e (by decide), fun _ => ?_⟩
        by_cases c1 : μ (wW μ + 5) j = x
        · rw [if_pos c1]
          exact fin _ ⟨⟨j0, jl, on⟩, Or.inl ⟨c1, rfl⟩⟩
        · rw [if_neg c1]
          by_cases c2 : μ (wW μ + 6) j = x
          · rw [if_pos c2]
            exact fin _ ⟨⟨j0, jl, on⟩, Or.inr ⟨c2, rfl⟩⟩
          · rw [if_neg c2]
            refine ⟨by decide, fun _ => hn' (fun z az => ?_), fun e => absurd rfl e⟩
            rcases az.2 with ⟨e, -⟩ | ⟨e, -⟩
            · exact absurd e c1
            · exact absurd e c2
      · rw [if_neg on]
        exact ⟨R32_0, fun _ => hn' (fun z az => absurd az.1.2.2 on), fun e => absurd rfl e⟩
    induction m with
    | zero =>
      intro j j0 hj
      obtain rfl : j = l := by omega
      exact body j j0 (Int.le_refl _) (fun z az dz => q) (fun no => absurd dy (no y a))
    | succ m ih =>
      intro j j0 hj
      exact body j j0 (by omega) (fun z az dz => absurd dz (mn j z (by omega) az)) (fun _ => ih (j + 1) (by omega) (by omega))
  exact loop l.toNat 0 (by decide) (by omega)
def ody (s : Int) : Nat → Int → Int
  | 0, o => o
  | n + 1, o => ody s n (o * (1000 - s) / 1000)
def od (sl : Int → Int) (n : Nat) : List Int → Int → Int
  | [], o => o
  | l :: g, o => od sl n g (ody (sl l) n o)
theorem odd_ {s o : Int} (hs : 0 ≤ s ∧ s ≤ 999) (ho : 0 ≤ o ∧ o ≤ 1000000000) : (0 ≤ o * (1000 - s) ∧ o * (1000 - s) ≤ 1000000000000) ∧ 0 ≤ o * (1000 - s) / 1000 ∧ o * (1000 - s) / 1000 ≤ 1000000000 := by
  have h1 : 0 ≤ o * (1000 - s) := Int.mul_nonneg ho.1 (by omega)
  have h2 : o * (1000 - s) ≤ o * 1000 := Int.mul_le_mul_of_nonneg_left (by omega) ho.1
  omega
theorem ody_r {s : Int} (hs : 0 ≤ s ∧ s ≤ 999) : ∀ (n : Nat) (o : Int), 0 ≤ o ∧ o ≤ 1000000000 → 0 ≤ ody s n o ∧ ody s n o ≤ 1000000000
  | 0, o, h => h
  | n + 1, o, h => ody_r hs n _ (odd_ hs h).2
theorem od_r {μ : Mem} (h : Inv μ) {t : Int} {n : Nat} : ∀ (g : List Int) (x o : Int), Wl μ t g x → 0 ≤ o ∧ o ≤ 1000000000 → 0 ≤ od (μ (wW μ + 3)) n g o ∧ od (μ (wW μ + 3)) n g o ≤ 1000000000
  | [], _, o, _, ho => ho
  | l :: g, x, o, ⟨y, a, hw⟩, ho => by
    have s := (h.L a.1.1 a.1.2.1).2.2.2.2.2
    exact od_r h g y _ hw (ody_r s n o ho)
theorem c7_odds {G : Gm} {Q : Int → Mem → Prop} {μ : Mem} {w n : Int} {g : List Int} (h : Inv μ) (w0 : 0 ≤ w) (w1 : w < nW μ) (hn : 0 ≤ n ∧ n ≤ 99) (gr : Gr μ w g (μ (wW μ) 3)) (dg : Dt μ w g.length (μ (wW μ) 3)) (q : ∀ κ, Off (FT μ) μ κ → Q (od (μ (wW μ + 3)) n.toNat g 1000000000) κ) : Ci G mX7_oddsOfNoSlip [(2, 0), (0, w), (0, n)] SHl μ Q := by
  have hW := h.W
  have nw := h.nw
  have hl := h.nl
  have hd := h.dr
  have d1 := hd.2.2.1 (by omega)
  refine eX7_oddsOfNoSlip (fun Φ hΦ hR => bX7_oddsOfNoSlip_0 hΦ hR ⟨so_0, c7_countLinksAway h w0 w1 (fun κ of bi => ?_)⟩)
  obtain ⟨hi, en, el⟩ := off8 h of
  have wk := hi.1
  have r0 := FT_r0 h of
  have ew : κ 0 1 = wW μ := r0 0 1 (by omega)
  rw [ew, r0 (wW μ) 3 (by omega)]
  refine ⟨so_W h.2.1.1, ?_⟩
  have D7 := dt_7 h dg hd.2.1 d1
  have outer : ∀ (g : List Int) (x o i : Int), Gr μ w g x → Dt μ w g.length x → 0 ≤ x → x < nW μ → 0 ≤ i → i + g.length ≤ 7 → 0 ≤ o ∧ o ≤ 1000000000 → (∀ κ, Off (FT μ) μ κ → Q (od (μ (wW μ + 3)) n.toNat g o) κ) → Ex G Φ 9 21 [some (2, 0), some (0, w), some (0, n), some (0, x), some (1, o), none, some (0, i), none, none] [] SHl κ 0 0 := by
    intro g
    induction g with
    | nil =>
      intro x o i gr dx x0 x1 i0 i1 ho K
      have e : x = w := gr
      exact bX7_oddsOfNoSlip_21 hΦ hR ⟨⟨by omega, by omega⟩, fun c => absurd c (by have : i + ((0 : Nat) : Int) ≤ 7 := i1; omega), fun _ => ⟨⟨by omega, by omega⟩, ⟨by omega, by omega⟩, fun _ => K κ of, fun c => absurd e c⟩⟩
    | cons l g ih =>
      intro x o i gr dx x0 x1 i0 i1 ho K
      obtain ⟨y, a, dy, mn, gy⟩ := gr
      have ry := adj_rg h a
      have xw : x ≠ w := fun e => by rw [e] at dx; have := dt_un dx dt_t; simp at this
      have gl : ((l :: g).length : Int) = (g.length : Int) + 1 := by simp
      rw [gl] at i1
      have s := (h.L a.1.1 a.1.2.1).2.2.2.2.2
      obtain ⟨-, ⟨-, p0, p1⟩, ⟨-, q0, q1⟩, ne, -⟩ := h.L a.1.1 a.1.2.1
      refine bX7_oddsOfNoSlip_21 hΦ hR ⟨⟨by omega, by omega⟩, fun c => absurd c (by omega), fun _ => ⟨⟨by omega, by omega⟩, ⟨by omega, by omega⟩, fun c => absurd c xw, fun _ => ⟨so_0, c7_nextLinkTo h of bi x0 x1 (by omega) dx a dy mn ?_⟩⟩⟩
      have al := adj_l h a
      have la := a.1.2.1
      refine ⟨⟨by omega, by omega⟩, fun _ => ?_, fun c => absurd c (by omega)⟩
      have inner : ∀ (m : Nat) (d o : Int), 0 ≤ d → d + m = n → 0 ≤ o ∧ o ≤ 1000000000 → (∀ κ, Off (FT μ) μ κ → Q (od (μ (wW μ + 3)) n.toNat g (ody (μ (wW μ + 3) l) m o)) κ) → Ex G Φ 9 51 [some (2, 0), some (0, w), some (0, n), some (0, x), some (1, o), none, some (0, i), some (0, l), some (0, d)] [] SHl κ 0 0 := by
        intro m
        induction m with
        | zero =>
          intro d o d0 hm ho K
          refine bX7_oddsOfNoSlip_51 hΦ hR ⟨⟨by omega, by omega⟩, ⟨by omega, by omega⟩, fun _ => ⟨so_0, ?_⟩, fun c => absurd (by omega) c⟩
          rw [ew]
          refine ⟨so_W h.2.1.1, c6_across (nw := nW μ) wk h.2.1.1 al.1 (by omega) ⟨x0, by omega⟩ (by rw [r0 (wW μ + 5) l (by omega)]; exact ⟨p0, p1⟩) (by rw [r0 (wW μ + 6) l (by omega)]; exact ⟨q0, q1⟩) nw.2.2 ?_⟩
          have ey : (if κ (wW μ + 5) l = x then κ (wW μ + 6) l else if κ (wW μ + 6) l = x then κ (wW μ + 5) l else -1) = y := by
            rw [r0 (wW μ + 5) l (by omega), r0 (wW μ + 6) l (by omega)]
            rcases a.2 with ⟨c1, c2⟩ | ⟨c1, c2⟩
            · rw [if_pos c1]; exact c2
            · rw [if_neg (by omega), if_pos c1]; exact c2
          rw [ey]
          exact ih y o (i + 1) gy dy ry.2.1.1 ry.2.1.2 (by omega) (by omega) ho K
        | succ m ihm =>
          intro d o d0 hm ho K
          have oo := odd_ s ho
          refine bX7_oddsOfNoSlip_51 hΦ hR ⟨⟨by omega, by omega⟩, ⟨by omega, by omega⟩, fun c => absurd c (by omega), fun _ => ⟨so_0, ?_⟩⟩
          rw [ew, wf_W7 wk h.2.1.1, r0 (wW μ + 3) l (by omega), tdiv_pos (by decide), if_pos (Or.inl oo.1.1)]
          exact ⟨so_W h.2.1.1, ai_W3 h.2.1.1 al.1 (by omega), ⟨by omega, by omega⟩, ⟨by omega, by omega⟩, ihm (d + 1) _ (by omega) (by omega) oo.2 K⟩
      exact inner n.toNat 0 o (by decide) (by omega) ho K
  exact outer g _ 1000000000 0 gr dg hd.2.1 d1 (by decide) (by omega) ⟨by decide, by decide⟩ q
