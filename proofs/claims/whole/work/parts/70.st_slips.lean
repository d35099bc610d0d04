theorem cod_dig {μ : Mem} (h : Inv μ) {w x l : Int} {g1 g2 : List Int} (hw : Wl μ w (l :: g2) x) : cod (g1 ++ l :: g2).reverse / 11 ^ g2.length % 11 = l := by
  obtain ⟨y, a, hy⟩ := hw
  have al := adj_l h a
  have r := cod_rg h _ _ (wl_back hy)
  rw [List.length_reverse] at r
  have e : (g1 ++ l :: g2).reverse = g2.reverse ++ l :: g1.reverse := by simp
  have p : (0 : Int) < 11 ^ g2.length := Int.pow_pos (by decide)
  rw [e, cod_app, List.length_reverse, Int.add_comm, Int.add_mul_ediv_left _ _ (by omega), Int.ediv_eq_zero_of_lt r.1 r.2]
  show (0 + (11 * cod g1.reverse + l)) % 11 = l
  omega
theorem st_slips {G : Gm} {μ : Mem} {a0 a1 : Int} (h : Inv μ) (ha0 : R32 a0) (ha1 : R32 a1) : Both G mX7_slips mX8_slips [(0, a0), (0, a1)] μ := by
  have hW := h.W
  have nw := h.nw
  have wf := h.1
  have un : ¬ (0 ≤ a0 ∧ a0 < nW μ) → Ci G mX8_slips [(2, 110), (0, a0), (0, a1)] SHl μ (fun r' μ2 => -1000000001 = r' ∧ R32 (-1000000001) ∧ Inv μ2) := fun c =>
    eX8_slips (fun Φ hΦ hR => bX8_slips_0 hΦ hR ⟨so_110, c8_isW h ha0 (fun x0 x1 => absurd ⟨x0, x1⟩ c) (fun _ => no_ ⟨rfl, by decide, h⟩)⟩)
  have ou : 0 ≤ a0 → a0 < nW μ → ¬ (0 ≤ a1 ∧ a1 ≤ 99) → Ci G mX8_slips [(2, 110), (0, a0), (0, a1)] SHl μ (fun r' μ2 => -1000000002 = r' ∧ R32 (-1000000002) ∧ Inv μ2) := fun x0 x1 c =>
    eX8_slips (fun Φ hΦ hR => bX8_slips_0 hΦ hR ⟨so_110, c8_isW h ha0 (fun _ _ => yes_ ⟨ha1, c_m_in (r64 ha1) ⟨by decide, by decide⟩ ⟨by decide, by decide⟩ (fun c1 c2 => absurd ⟨c1, c2⟩ c) (fun _ => no_ ⟨rfl, by decide, h⟩)⟩) (fun d => absurd ⟨x0, x1⟩ d)⟩)
  refine eX7_slips (fun Φ hΦ hR => bX7_slips_0 hΦ hR ⟨so_0, c7_hasW h ha0 (fun x0 x1 => yes_ ⟨ha1, fun c => ou x0 x1 (by omega), fun c1 => ⟨fun c2 => ?_, fun c => ou x0 x1 (by omega)⟩⟩) (fun c => no_ (un c))⟩)
  have hn : 0 ≤ a1 ∧ a1 ≤ 99 := ⟨by omega, c2⟩
  obtain ⟨b1, b2⟩ := h.r22 x0 x1
  rw [wf_0_3 wf]
  refine ⟨so_21, c3_turns' h x0 x1 ?_⟩
  by_cases tu : μ 22 a0 ≠ 0
  · rw [if_pos tu]
    obtain ⟨D, D7, dD⟩ := turn_dt h x0 x1 tu
    obtain ⟨g, g1, g2⟩ := gr_ex h D _ (dt_back dD)
    have dg : Dt μ a0 g.length (μ (wW μ) 3) := by rw [g1]; exact dt_back dD
    have gw := gr_wl g _ g2
    have vr := od_r h (n := a1.toNat) g _ 1000000000 gw ⟨by decide, by decide⟩
    refine ⟨R32_1, fun e => absurd e (by decide), fun _ => c7_odds h x0 x1 hn g2 dg (fun κ of => ?_)⟩
    obtain ⟨hi, en, el⟩ := off8 h of
    have e22 : κ 22 a0 = μ 22 a0 := of _ _ (by unfold FT FM FR' FR; omega)
    refine eX8_slips (fun Φ hΦ hR => bX8_slips_0 hΦ hR ⟨so_110, c8_isW hi ha0 (fun _ _ => yes_ ⟨ha1, c_m_in (r64 ha1) ⟨by decide, by decide⟩ ⟨by decide, by decide⟩ (fun _ _ => yes_ (c8_rates hi (fun κ2 rn => ?_))) (fun d => absurd hn d)⟩) (fun d => absurd ⟨x0, by omega⟩ d)⟩)
    have w2 := (RN_inv hi rn).1
    have o2 : Off (FT μ) μ κ2 := of.tr (rn.1.mono (fun _ _ c => Or.inr (Or.inl c)))
    have e122 : κ2 122 a0 = μ 22 a0 := (rn.2.1 a0 x0 (by omega)).1.trans e22
    rw [wf_110_27 w2, e122]
    refine ⟨ai_122 x0 (by omega), ⟨by omega, by omega⟩, fun _ => c8_findRows h (by omega) o2 (fun κ3 o3 fe rc => ?_), fun c => absurd c tu⟩
    have w3 := (FT_inv h o3).1
    have far := (fe a0 x0 x1).2.1 D dD
    have rD := rc a0 x0 x1 D dD
    have code : κ3 125 a0 = cod g.reverse := by
      obtain ⟨⟨p, p1, p2, p3⟩, low⟩ := rD
      have l1 := low g.reverse (by simp [g1]) (wl_back gw)
      have l2 := gr_le h g p.reverse _ 0 g2 dg (wl_back p2) (by simp [p1, g1])
      have v1 := val_cod g []
      have v2 := val_cod p.reverse []
      rw [List.append_nil, show cod [] = 0 from rfl] at v1 v2
      rw [List.reverse_reverse] at v2
      omega
    have crg := cod_rg h _ _ (wl_back gw)
    rw [List.length_reverse, g1] at crg
    have p8 := p11 D (by omega)
    have outer : ∀ (s : List Int) (q : List Int) (x o : Int), q ++ s = g → Wl μ a0 s x → 0 ≤ o ∧ o ≤ 1000000000 → od (μ (wW μ + 3)) a1.toNat s o = od (μ (wW μ + 3)) a1.toNat g 1000000000 → Ex G Φ 8 54 [some (2, 110), some (0, a0), some (0, a1), some (1, o), none, some (0, (q.length : Int)), none, none] [] SHl κ3 0 0 := by
      intro s
      induction s with
      | nil =>
        intro q x o hq hw ho K
        have K : o = _ := K
        have ql : q.length = D := by rw [← g1, ← hq]; simp
        refine bX8_slips_54 hΦ hR ⟨so_110, ?_⟩
        rw [wf_110_32 w3, far]
        exact ⟨ai_124 x0 (by omega), ⟨by omega, by omega⟩, ⟨by omega, by omega⟩, fun _ => ⟨K.symm, ⟨by omega, by omega⟩, FT_inv h o3⟩, fun c => absurd (by omega) c⟩
      | cons l s ih =>
        intro q x o hq hw ho K
        have dig := cod_dig h (g1 := q) hw
        obtain ⟨y, a, hy⟩ := hw
        have al := adj_l h a
        have la := a.1.2.1
        have sl := (h.L a.1.1 a.1.2.1).2.2.2.2
        have ql : D = q.length + (s.length + 1) := by rw [← g1, ← hq]; simp
        rw [hq] at dig
        refine bX8_slips_54 hΦ hR ⟨so_110, ?_⟩
        rw [wf_110_32 w3, far, wf_110_33 w3, code]
        refine ⟨ai_124 x0 (by omega), ⟨by omega, by omega⟩, ⟨by omega, by omega⟩, fun c => absurd c (by omega), fun _ => ⟨ai_125 x0 (by omega), c8_figure ⟨crg.1, by omega⟩ (by omega) ⟨by omega, by omega⟩ ?_⟩⟩
        rw [show ((D : Int) - 1 - (q.length : Int)).toNat = s.length by omega, dig]
        have nx : ∀ o', 0 ≤ o' ∧ o' ≤ 1000000000 → od (μ (wW μ + 3)) a1.toNat s o' = od (μ (wW μ + 3)) a1.toNat g 1000000000 → Ex G Φ 8 54 [some (2, 110), some (0, a0), some (0, a1), some (1, o'), none, some (0, (q.length : Int) + 1), none, none] [] SHl κ3 0 0 := fun o' ho' K' => by
          have := ih (q ++ [l]) y o' (by rw [← hq]; simp) hy ho' K'
          rw [List.length_append, List.length_singleton, show (((q.length + 1 : Nat)) : Int) = (q.length : Int) + 1 by omega] at this
          exact this
        have e18 : κ3 118 l = μ (wW μ + 3) l := (o3 _ _ (by unfold FT FM FR' FR; omega)).trans sl.1.symm
        have inner : ∀ (m : Nat) (dd o : Int), 0 ≤ dd → dd + m = a1 → 0 ≤ o ∧ o ≤ 1000000000 → od (μ (wW μ + 3)) a1.toNat s (ody (μ (wW μ + 3) l) m o) = od (μ (wW μ + 3)) a1.toNat g 1000000000 → Ex G Φ 8 87 [some (2, 110), some (0, a0), some (0, a1), some (1, o), none, some (0, (q.length : Int)), some (0, l), some (0, dd)] [] SHl κ3 0 0 := by
          intro m
          induction m with
          | zero =>
            intro dd o d0 hm ho K
            exact bX8_slips_87 hΦ hR ⟨⟨by omega, by omega⟩, ⟨by omega, by omega⟩, fun _ => nx o ho K, fun c => absurd (by omega) c⟩
          | succ m ihm =>
            intro dd o d0 hm ho K
            have oo := odd_ sl.2 ho
            refine bX8_slips_87 hΦ hR ⟨⟨by omega, by omega⟩, ⟨by omega, by omega⟩, fun c => absurd c (by omega), fun _ => ⟨so_110, ?_⟩⟩
            rw [wf_110_18 w3, e18, tdiv_pos (by decide), if_pos (Or.inl oo.1.1)]
            exact ⟨ai_118 al.1 (by omega), ⟨by omega, by omega⟩, ⟨by omega, by omega⟩, ihm (dd + 1) _ (by omega) (by omega) oo.2 K⟩
        exact inner a1.toNat 0 o (by decide) (by omega) ho K
    exact outer g [] _ 1000000000 rfl gw ⟨by decide, by decide⟩ rfl
  · rw [if_neg tu]
    refine ⟨R32_0, fun _ => ?_, fun e => absurd rfl e⟩
    refine eX8_slips (fun Φ hΦ hR => bX8_slips_0 hΦ hR ⟨so_110, c8_isW h ha0 (fun _ _ => yes_ ⟨ha1, c_m_in (r64 ha1) ⟨by decide, by decide⟩ ⟨by decide, by decide⟩ (fun _ _ => yes_ (c8_rates h (fun κ2 rn => ?_))) (fun d => absurd hn d)⟩) (fun d => absurd ⟨x0, x1⟩ d)⟩)
    have w2 := (RN_inv h rn).1
    rw [wf_110_27 w2, (rn.2.1 a0 x0 x1).1]
    exact ⟨ai_122 x0 (by omega), ⟨by omega, by omega⟩, fun c => absurd c tu, fun _ => ⟨rfl, by decide, RN_inv h rn⟩⟩
