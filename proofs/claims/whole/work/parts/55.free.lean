/-! FEWEST LINKS to cut -/
theorem off8 {μ κ : Mem} (h : Inv μ) (of : Off (FT μ) μ κ) : Inv κ ∧ nW κ = nW μ ∧ nL κ = nL μ := by
  have hW := h.W
  have ew : wW κ = wW μ := of 0 1 (by unfold FT FM FR' FR; omega)
  refine ⟨FT_inv h of, ?_, ?_⟩
  · show κ (wW κ) 0 = _; rw [ew]; exact of _ _ (by unfold FT FM FR' FR; omega)
  · show κ (wW κ) 1 = _; rw [ew]; exact of _ _ (by unfold FT FM FR' FR; omega)
theorem c7_isFewer {G : Gm} {S : List Sh} {μ : Mem} {Q : Int → Mem → Prop} {s b A : Int} (hs : 0 ≤ s ∧ s < 1024) (hb : 0 ≤ b ∧ b < 1024) (hA : R32 A) (k1 : (∀ k : Nat, k < 32 → bt_ s (k : Int) = 1 → bt_ A (k : Int) = 1) → pc s 10 < pc b 10 → Q 1 μ) (k0 : ((∀ k : Nat, k < 32 → bt_ s (k : Int) = 1 → bt_ A (k : Int) = 1) → pc b 10 ≤ pc s 10) → Q 0 μ) : Ci G mX7_isFewer [(0, s), (0, b), (0, A)] S μ Q := by
  have r1 := pc_rg s 10
  have r2 := pc_rg b 10
  have ms := mand_sub (x := s) (y := A) ⟨by omega, by omega⟩ hA
  refine eX7_isFewer (fun Φ hΦ hR => bX7_isFewer_0 hΦ hR ⟨mand_r _ _, fun c => k0 (fun q => absurd (ms.mpr q) c), fun c => c_bitCount hs.1 (by omega) (c_bitCount hb.1 (by omega) ?_)⟩)
  rw [pc_31 hs.1 hs.2, pc_31 hb.1 hb.2]
  exact ⟨⟨by omega, by omega⟩, ⟨by omega, by omega⟩, fun d => k0 (fun _ => d), fun d => k1 (ms.mp c) (by omega)⟩
theorem lon_off {μ κ : Mem} (h : Inv μ) (of : Off (FM 25) μ κ) : lon κ = lon μ ∧ κ 0 1 = wW μ := by
  have e := off8 h of.t25
  have el : nL κ = nL μ := e.2.2
  refine ⟨?_, of 0 1 (by unfold FM; omega)⟩
  unfold lon
  rw [el, of 29 2 (by unfold FM; omega)]
def gd (μ : Mem) (r s : Int) : Prop := (∀ k : Nat, k < 32 → bt_ s (k : Int) = 1 → bt_ (lon μ) (k : Int) = 1) ∧ ∃ ρ, RSx μ (mand (lon μ) (mxor s (-1))) 0 ρ 0 ∧ ∀ w, 0 ≤ w → w < nW μ → bt_ r w = 1 → (ρ w).1 = 0
theorem onL_cut {μ : Mem} (h : Inv μ) {s : Int} : OnL μ (mand (lon μ) (mxor s (-1))) := ⟨mand_r _ _, fun l l0 l1 e => by
  have hm := bt_mand (x := lon μ) (y := mxor s (-1)) (mand_r _ _) (mxor_r _ _) (k := l.toNat) (by omega)
  rw [show ((l.toNat : Nat) : Int) = l by omega, e] at hm
  by_cases c : bt_ (lon μ) l = 1 ∧ bt_ (mxor s (-1)) l = 1
  · exact ((lon_b h l0 (by omega)).mp c.1).1
  · rw [if_neg c] at hm; omega⟩
theorem cut_b {μ : Mem} (h : Inv μ) {s l : Int} (hs : R32 s) (l0 : 0 ≤ l) (l1 : l < nL μ) : bt_ (mand (lon μ) (mxor s (-1))) l = 1 ↔ bt_ (μ 29 2) l = 0 ∧ bt_ s l = 0 := by
  have hl := h.nl
  have hm := bt_mand (x := lon μ) (y := mxor s (-1)) (mand_r _ _) (mxor_r _ _) (k := l.toNat) (by omega)
  have hn := bt_not hs (k := l.toNat) (by omega)
  rw [show ((l.toNat : Nat) : Int) = l by omega] at hm hn
  have hb := lon_b h l0 (by omega)
  have b1 := bt_rg s l
  rw [hm]
  by_cases c : bt_ (lon μ) l = 1 ∧ bt_ (mxor s (-1)) l = 1
  · rw [if_pos c]
    exact ⟨fun _ => ⟨(hb.mp c.1).2, by omega⟩, fun _ => rfl⟩
  · rw [if_neg c]
    refine ⟨fun e => absurd e (by decide), fun e => absurd ⟨hb.mpr ⟨l1, e.1⟩, by omega⟩ c⟩
theorem gd_eq {μ κ : Mem} (h : Inv μ) (of : Off (FT μ) μ κ) {r s : Int} : gd κ r s ↔ gd μ r s := by
  have hW := h.W
  have hl := h.nl
  have r0 : ∀ k i, (k = 0 ∧ i = 1) ∨ (k = wW μ) ∨ k = wW μ + 1 ∨ ((k = wW μ + 4 ∨ k = wW μ + 5 ∨ k = wW μ + 6) ∧ i < nL μ) ∨ k = 29 → κ k i = μ k i := fun k i c => of k i (by unfold FT FM FR' FR; omega)
  have ew : wW κ = wW μ := r0 0 1 (by omega)
  have en : nW κ = nW μ := by show κ (wW κ) 0 = _; rw [ew]; exact r0 _ _ (by omega)
  have el : nL κ = nL μ := by show κ (wW κ) 1 = _; rw [ew]; exact r0 _ _ (by omega)
  have lo : lon κ = lon μ := by unfold lon; rw [el, r0 29 2 (by omega)]
  have ee : EE κ (wW κ) (mand (lon κ) (mxor s (-1))) 0 = EE μ (wW μ) (mand (lon μ) (mxor s (-1))) 0 := by
    unfold EE
    rw [lo, ew]
    refine Edg_eq (fun l l0 l1 on' => ?_) (fun l l0 l1 on' => ?_)
    · have := (onL_cut h).2 l l0 l1 on'
      exact ⟨l, l0, l1, on', by unfold kdE; rw [r0 (wW μ + 4) l (by omega)], (r0 (wW μ + 5) l (by omega)).symm, (r0 (wW μ + 6) l (by omega)).symm⟩
    · have := (onL_cut h).2 l l0 l1 on'
      exact ⟨l, l0, l1, on', by unfold kdE; rw [r0 (wW μ + 4) l (by omega)], r0 (wW μ + 5) l (by omega), r0 (wW μ + 6) l (by omega)⟩
  unfold gd RSx
  rw [ee, en, lo, ew, r0 (wW μ) 3 (by omega), r0 (wW μ) 4 (by omega), show κ (wW μ + 1) = μ (wW μ + 1) from funext fun i => r0 _ i (by omega)]
theorem r5_25 {μ : Mem} {on idl : Int} {ρ : Int → Int × Int} {b : Int} (rs : RSx μ on idl ρ b) : R32 b := by rcases RS_b rs with e | e <;> rw [e] <;> exact ⟨by decide, by decide⟩
/-- with every link cut nothing binds -/
theorem gd_all {μ : Mem} {r : Int} (h : Inv μ) (hr : bt_ r (μ (wW μ) 3) ≠ 1) : gd μ r (lon μ) := by
  have hR := h.R
  have hd := h.dr
  have hn := h.nw
  refine ⟨fun _ _ e => e, (fun w => if w = μ (wW μ) 3 then (μ (wW μ) 4, 1) else (0, 1)), Or.inl ⟨rfl, fun _ => ⟨if_pos rfl, fun k x y he _ => ?_, fun k x y he _ => ?_⟩, fun w w0 w1 hw => ⟨0, ?_⟩, fun w w0 w1 => ⟨fun hw => ?_, ?_⟩⟩, fun w _ _ e => ?_⟩
  · obtain ⟨l, l0, l1, l2, -⟩ := he
    have := (cut_b (s := lon μ) h (mand_r _ _) l0 ((onL_cut h).2 l l0 l1 l2)).mp l2
    have := (lon_b h l0 (by omega)).mpr ⟨(onL_cut h).2 l l0 l1 l2, this.1⟩
    omega
  · obtain ⟨l, l0, l1, l2, -⟩ := he
    have := (cut_b (s := lon μ) h (mand_r _ _) l0 ((onL_cut h).2 l l0 l1 l2)).mp l2
    have := (lon_b h l0 (by omega)).mpr ⟨(onL_cut h).2 l l0 l1 l2, this.1⟩
    omega
  · show w = μ (wW μ) 3
    refine Classical.byContradiction fun c => hw ?_
    show (if w = μ (wW μ) 3 then (μ (wW μ) 4, (1 : Int)) else (0, 1)).1 = 0
    rw [if_neg c]
  · by_cases c : w = μ (wW μ) 3
    · have hw : (if w = μ (wW μ) 3 then (μ (wW μ) 4, (1 : Int)) else (0, 1)).1 = 0 := hw
      rw [if_pos c] at hw
      have hw : μ (wW μ) 4 = 0 := hw
      omega
    · show (if w = μ (wW μ) 3 then (μ (wW μ) 4, (1 : Int)) else (0, 1)) = (0, 1)
      rw [if_neg c]
  · show Gd (if w = μ (wW μ) 3 then (μ (wW μ) 4, (1 : Int)) else (0, 1))
    by_cases c : w = μ (wW μ) 3
    · rw [if_pos c]
      exact ⟨by simp, by show (1 : Int) ≤ 1; decide, by show (1 : Int) ≤ 810000; decide, by show -24300000 ≤ μ (wW μ) 4; omega, by show μ (wW μ) 4 ≤ 24300000; omega⟩
    · rw [if_neg c]
      exact ⟨by decide, by decide, by decide, by decide, by decide⟩
  · have ne : w ≠ μ (wW μ) 3 := fun q => hr (by rw [← q]; exact e)
    show (if w = μ (wW μ) 3 then (μ (wW μ) 4, (1 : Int)) else (0, 1)).1 = 0
    rw [if_neg ne]
theorem c7_wouldRest {G : Gm} {Q : Int → Mem → Prop} {μ κ : Mem} {r s : Int} (h : Inv μ) (of : Off (FM 25) μ κ) (hr : R32 r) (sb : ∀ k : Nat, k < 32 → bt_ s (k : Int) = 1 → bt_ (lon μ) (k : Int) = 1) (k1 : ∀ κ', Off (FM 25) μ κ' → gd μ r s → Q 1 κ') (k0 : ∀ κ', Off (FM 25) μ κ' → ¬ gd μ r s → Q 0 κ') : Ci G mX7_wouldRest [(2, 0), (0, r), (0, s)] SHl κ Q := by
  have hn := h.nw
  have hk := FT_inv h of.t25
  obtain ⟨el, ew⟩ := lon_off h of
  refine eX7_wouldRest (fun Φ hΦ hR => bX7_wouldRest_0 hΦ hR ⟨so_0, c7_linksOn hk.1 hk.2.1 ?_⟩)
  rw [el, wf_0_4 hk.1, ew]
  refine ⟨so_25, c3_try h of (onL_cut h) R32_0 (fun κ' o' rs tr tb => ?_)⟩
  have wk' := (FT_inv h o'.t25).1
  have tr' : R32 (κ' 25 4) := by have := (pw10 (n := (nW μ).toNat) (by omega)).1; exact ⟨by omega, by omega⟩
  rw [wf_0_4 wk']
  refine ⟨so_25, r5_25 rs, fun c1 => k0 κ' o' (fun g => ?_), fun c1 => ⟨mand_r _ _, fun c2 => k0 κ' o' (fun g => ?_), fun c2 => k1 κ' o' ⟨sb, _, by rw [c1] at rs; exact rs, fun w w0 w1 e => ?_⟩⟩⟩
  · obtain ⟨-, ρ, g1, -⟩ := g
    exact c1 (RSx_un h (onL_cut h) rs g1).1
  · obtain ⟨-, ρ, g1, g2⟩ := g
    refine c2 ((mand_0 tr' hr).mpr (fun j hj e => ?_))
    by_cases cj : (j : Int) < nW μ
    · have := (tb j (by omega) cj).mp e.1
      have u := (RSx_un h (onL_cut h) rs g1).2 j (by omega) cj
      have z := g2 j (by omega) cj e.2
      rw [← u] at z
      exact this z
    · have := bt_lt tr.1 tr.2 (k := j) (by omega)
      rw [this] at e
      exact absurd e.1 (by decide)
  · show κ' 26 w = 0
    refine Classical.byContradiction fun nz => ?_
    have t1 := (tb w w0 w1).mpr nz
    have := (mand_0 tr' hr).mp c2 w.toNat (by omega)
    rw [show ((w.toNat : Nat) : Int) = w by omega] at this
    exact this ⟨t1, e⟩
theorem c7_fewestCuts {G : Gm} {Q : Int → Mem → Prop} {μ : Mem} {r : Int} (h : Inv μ) (hr : 0 ≤ r ∧ r < 2 ^ (nW μ).toNat) (k : ∀ κ b, Off (FM 25) μ κ → IsB (gd μ r) (2 ^ (nL μ).toNat) b → Q b κ) : Ci G mX7_fewestCuts [(2, 0), (0, r)] SHl μ Q := by
  have lr := lon_rg h
  have hl := h.nl
  have hn := h.nw
  have hd := h.dr
  have hRR := h.R
  have p10 := pw10 (n := (nL μ).toNat) (by omega)
  have p8 := pw10 (n := (nW μ).toNat) (by omega)
  have rr : R32 r := ⟨by omega, by omega⟩
  have d31 : μ (wW μ) 3 ≤ 31 := by
    by_cases c : 0 < nW μ
    · have := hd.2.2.1 c; omega
    · have := hd.2.2.2 (by omega); omega
  have nw0 : bt_ r (μ (wW μ) 3) = 1 → 0 < nW μ := fun e => by
    refine Classical.byContradiction fun c => ?_
    have z : (nW μ).toNat = 0 := by omega
    rw [z, Int.pow_zero] at hr
    rw [show r = 0 by omega, bt_zero] at e
    exact absurd e (by decide)
  have lonr : R32 (lon μ) := mand_r _ _
  refine eX7_fewestCuts (fun Φ hΦ hR => bX7_fewestCuts_0 hΦ hR ⟨so_0, c7_linksOn h.1 h.2.1 ⟨so_W h.2.1.1, rr, hd.2.1, d31, R32_one (bt_rg r (μ (wW μ) 3)), fun c => ?_, fun c => k μ (-1) Off.rf (Or.inl ⟨rfl, fun s s0 s1 g => ?_⟩)⟩⟩)
  · have c : bt_ r (μ (wW μ) 3) ≠ 1 := c
    have gA := gd_all h c
    have loop : ∀ (m : Nat) (s v : Int) (κ : Mem), 0 ≤ s → s + m = lon μ → Off (FM 25) μ κ → (0 ≤ v ∧ v < 1024) → IsA (gd μ r) (lon μ) s v → Ex G Φ 5 27 [some (2, 0), some (0, r), some (0, lon μ), some (0, v), some (0, s)] [] SHl κ 0 0 := by
      intro m
      induction m with
      | zero =>
        intro s v κ s0 hs of vr hb
        have e : s = lon μ := by omega
        rw [e] at hb
        refine bX7_fewestCuts_27 hΦ hR ⟨⟨by omega, by omega⟩, lonr, fun _ => k κ v of (IsB_up (IsA_fin hb lr.1 (by omega) gA (fun _ g => g.1)) (by omega) (fun x x0 x1 gx => ?_)), fun c => absurd (by omega) c⟩
        have := sub_le (by omega) (by omega) lr.1 gx.1
        omega
      | succ m ih =>
        intro s v κ s0 hs of vr hb
        have sr : R32 s := ⟨by omega, by omega⟩
        refine bX7_fewestCuts_27 hΦ hR ⟨sr, lonr, fun c => absurd c (by omega), fun _ => c7_isFewer ⟨s0, by omega⟩ vr lonr (fun sb fw => ⟨R32_1, fun e => absurd e (by decide), fun _ => ⟨so_0, c7_wouldRest h of rr sb (fun κ' o' g => ⟨R32_1, fun e => absurd e (by decide), fun _ => ih (s + 1) s κ' (by omega) (by omega) o' ⟨s0, by omega⟩ (IsA_new hb s0 g fw)⟩) (fun κ' o' g => ⟨R32_0, fun _ => ih (s + 1) v κ' (by omega) (by omega) o' vr (IsA_no hb g), fun e => absurd rfl e⟩)⟩⟩) (fun w => ⟨R32_0, fun _ => ih (s + 1) v κ (by omega) (by omega) of vr ?_, fun e => absurd rfl e⟩)⟩
        by_cases sb : ∀ k : Nat, k < 32 → bt_ s (k : Int) = 1 → bt_ (lon μ) (k : Int) = 1
        · exact IsA_worse hb s0 (by omega) (by omega) sb (w sb)
        · exact IsA_no hb (fun g => sb g.1)
    exact loop (lon μ).toNat 0 (lon μ) μ (by decide) (by omega) Off.rf ⟨lr.1, by omega⟩ IsA_0
  · have c : bt_ r (μ (wW μ) 3) = 1 := c
    obtain ⟨-, ρ, g1, g2⟩ := g
    have n0 := nw0 c
    have z := g2 _ hd.2.1 (hd.2.2.1 n0) c
    rcases g1 with ⟨-, f, -⟩ | ⟨e, -⟩
    · rw [(f n0).1] at z
      have z : μ (wW μ) 4 = 0 := z
      omega
    · exact absurd e (by decide)
theorem c8_fewestCut {G : Gm} {Q : Int → Mem → Prop} {μ : Mem} {r : Int} (h : Inv μ) (hr : R32 r) (k : ∀ κ b, Off FR' μ κ → IsB (gd μ r) (2 ^ (nL μ).toNat) b → Q b κ) : Ci G mX8_fewestCut [(2, 110), (0, r)] SHl μ Q := by
  have hl := h.nl
  have hn := h.nw
  have p10 := pw10 (n := (nL μ).toNat) (by omega)
  have ic := h.2.2.2.1.c
  have icr := ic.r h.2.1
  refine eX8_fewestCut (fun Φ hΦ hR => bX8_fewestCut_0 hΦ hR ⟨so_110, ?_⟩)
  rintro m2 e2
  have of2 : Off FR' μ m2 := by rw [e2]; exact Off.mu Off.rf (Or.inr ⟨rfl, rfl⟩)
  have loop : ∀ (m : Nat) (s b : Int) (κ : Mem), 0 ≤ s → s + m = 2 ^ (nL μ).toNat → Off FR' μ κ → κ 110 30 = 0 → IsB (gd μ r) s b → Ex G Φ 4 9 [some (2, 110), some (0, r), some (0, b), some (0, s)] [] SHl κ 0 0 := by
    intro m
    induction m with
    | zero =>
      intro s b κ s0 hs of h30 hb
      have e3 : κ 110 3 = nL μ := (of _ _ (by unfold FR' FR; omega)).trans hl.1.symm
      refine bX8_fewestCut_9 hΦ hR ⟨so_110, ?_⟩
      rw [e3]
      refine ⟨by omega, by omega, ⟨by omega, by omega⟩, ⟨by omega, by omega⟩, fun _ => k κ b of ?_, fun c => absurd (by omega) c⟩
      rw [show (2 : Int) ^ (nL μ).toNat = s by omega]; exact hb
    | succ m ih =>
      intro s b κ s0 hs of h30 hb
      have br := IsB_rg hb
      have sr : R32 s := ⟨by omega, by omega⟩
      have cr : R32 (μ 29 2) := ⟨by omega, by omega⟩
      have e3 : κ 110 3 = nL μ := (of _ _ (by unfold FR' FR; omega)).trans hl.1.symm
      have wk := (FT_inv h of.tR).1
      have e10 : κ 111 10 = μ 29 2 := (of _ _ (by unfold FR' FR; omega)).trans ic.1
      have no : ∀ κ', Off FR' μ κ' → κ' 110 30 = 0 → ¬ gd μ r s → Ex G Φ 4 9 [some (2, 110), some (0, r), some (0, b), some (0, s + 1)] [] SHl κ' 0 0 := fun κ' o z n => ih (s + 1) b κ' (by omega) (by omega) o z (IsB_no hb n)
      have yes : mand s (μ 29 2) = 0 → (0 ≤ b → pc s 10 < pc b 10) → Ex G Φ 4 46 [some (2, 110), some (0, r), some (0, b), some (0, s)] [] SHl κ 0 0 := fun c fw => by
        have c' := (mand_0 sr cr).mp c
        have sb : ∀ j : Nat, j < 32 → bt_ s (j : Int) = 1 → bt_ (lon μ) (j : Int) = 1 := fun j hj e => by
          refine (lon_b h (by omega) (by omega)).mpr ⟨?_, ?_⟩
          · refine Classical.byContradiction fun q => ?_
            have := bt_lt (x := s) (n := (nL μ).toNat) (k := j) s0 (by omega) (by omega)
            omega
          · have := c' j hj
            have := bt_rg (μ 29 2) (j : Int)
            omega
        refine bX8_fewestCut_46 hΦ hR ⟨so_110, ?_⟩
        rw [wf_110_0 wk, e10]
        refine ⟨ai_111 (by decide) (by decide), c8_try (on := mand (lon μ) (mxor s (-1))) h of h30 (onL_cut h) R32_0 ⟨mor_r _ _, fun l l0 l1 => ⟨?_, fun _ e => absurd e (by rw [bt_zero]; decide)⟩⟩ (fun κ' o' z' rs => ?_)⟩
        · rw [cut_b h sr l0 l1]
          have hm := bt_mor cr sr (k := l.toNat) (by omega)
          rw [show ((l.toNat : Nat) : Int) = l by omega] at hm
          rw [hm]
          have b1 := bt_rg (μ 29 2) l
          have b2 := bt_rg s l
          by_cases q : bt_ (μ 29 2) l = 1 ∨ bt_ s l = 1
          · rw [if_pos q]; omega
          · rw [if_neg q]; omega
        have wk' := (FT_inv h o'.tR).1
        refine ⟨r5_25 rs, fun c1 => no κ' o' z' (fun g => ?_), fun c1 => c8_turnSet (n := nW μ) wk' ((o' 110 2 (by unfold FR' FR; omega)).trans hn.1.symm) hn.2 (fun w w0 w1 => ?_) (fun t t0 t1 tb => ⟨mand_r _ _, fun c2 => no κ' o' z' (fun g => ?_), fun c2 => ih (s + 1) s κ' (by omega) (by omega) o' z' (IsB_new hb s0 ⟨sb, _, by rw [c1] at rs; exact rs, fun w w0 w1 e => ?_⟩ fw)⟩)⟩
        · obtain ⟨-, ρ, g1, -⟩ := g
          exact c1 (RSx_un h (onL_cut h) rs g1).1
        · have g := (RS_gd rs w w0 w1).1
          obtain ⟨-, -, -, g4, g5⟩ := g
          have g4 : -24300000 ≤ κ' 122 w := g4
          have g5 : κ' 122 w ≤ 24300000 := g5
          exact ⟨by omega, by omega⟩
        · obtain ⟨-, ρ, g1, g2⟩ := g
          have p8 := (pw10 (n := (nW μ).toNat) (by omega)).1
          refine c2 ((mand_0 ⟨by omega, by omega⟩ hr).mpr (fun j hj e => ?_))
          by_cases cj : (j : Int) < nW μ
          · have := (tb j (by omega) cj).mp e.1
            have u := (RSx_un h (onL_cut h) rs g1).2 j (by omega) cj
            have z := g2 j (by omega) cj e.2
            rw [← u] at z
            exact this z
          · have := bt_lt t0 t1 (k := j) (by omega)
            rw [this] at e
            exact absurd e.1 (by decide)
        · show κ' 122 w = 0
          have p8 := (pw10 (n := (nW μ).toNat) (by omega)).1
          refine Classical.byContradiction fun nz => ?_
          have t1' := (tb w w0 w1).mpr nz
          have := (mand_0 (x := t) ⟨by omega, by omega⟩ hr).mp c2 w.toNat (by omega)
          rw [show ((w.toNat : Nat) : Int) = w by omega] at this
          exact this ⟨t1', e⟩
      refine bX8_fewestCut_9 hΦ hR ⟨so_110, ?_⟩
      rw [e3, wf_110_0 wk, e10]
      refine ⟨by omega, by omega, sr, ⟨by omega, by omega⟩, fun c => absurd c (by omega), fun _ => ⟨ai_111 (by decide) (by decide), mand_r _ _, fun c => no κ of h30 (fun g => c ((mand_0 sr cr).mpr (fun j hj e => ?_))), fun c => ⟨⟨by omega, by omega⟩, fun b0 => yes c (fun q => by omega), fun b0 => c8_ones sr (c8_ones ⟨by omega, by omega⟩ ⟨?_, ?_, fun d => ih (s + 1) b κ (by omega) (by omega) of h30 (IsB_worse hb (by omega) d), fun d => yes c (fun _ => by omega)⟩)⟩⟩⟩
      · have := (lon_b h (l := (j : Int)) (by omega) (by omega)).mp (g.1 j hj e.1)
        omega
      · have := pc_rg s 10; exact ⟨by omega, by omega⟩
      · have := pc_rg b 10; exact ⟨by omega, by omega⟩
  exact loop (2 ^ (nL μ).toNat : Int).toNat 0 (-1) m2 (by decide) (by omega) of2 (by rw [e2, mu_same]) IsB_0
theorem IsB_iff {g g' : Int → Prop} {n b : Int} (e : ∀ s, g' s ↔ g s) (h : IsB g' n b) : IsB g n b := by
  rw [show g = g' from funext fun s => propext (e s).symm]; exact h
theorem st_free {G : Gm} {μ : Mem} {a0 : Int} (h : Inv μ) (ha0 : R32 a0) : Both G mX7_free mX8_free [(0, a0)] μ := by
  have out : ¬ (0 ≤ a0 ∧ a0 ≤ 1) → Ci G mX8_free [(2, 110), (0, a0)] SHl μ (fun r' μ2 => -1000000002 = r' ∧ R32 (-1000000002) ∧ Inv μ2) := fun c =>
    eX8_free (fun Φ hΦ hR => bX8_free_0 hΦ hR ⟨ha0, c_m_in (r64 ha0) ⟨by decide, by decide⟩ ⟨by decide, by decide⟩ (fun c1 c2 => absurd ⟨c1, c2⟩ c) (fun _ => no_ ⟨rfl, by decide, h⟩)⟩)
  refine eX7_free (fun Φ hΦ hR => bX7_free_0 hΦ hR ⟨ha0, fun c => out (by omega), fun c => ⟨fun c1 => ⟨so_0, c7_fewestCuts h ⟨Int.le_refl _, by have := (pw10 (n := (nW μ).toNat) (by have := h.nw; omega)).2; omega⟩ (fun κ b of hb => ?_)⟩, fun c1 => out (by omega)⟩⟩)
  have hl := h.nl
  have lr := lon_rg h
  have p10 := pw10 (n := (nL μ).toNat) (by omega)
  have br := IsB_rg hb
  have b0 : 0 ≤ b := by
    rcases hb with ⟨_, hb⟩ | hb
    · exact absurd (gd_all h (by rw [bt_zero]; decide)) (hb _ lr.1 lr.2)
    · exact hb.1
  obtain ⟨hk, en, el⟩ := off8 h of.t25
  have pr := pc_rg b 10
  refine c7_howManyOrWhich (by omega) ha0 (eX8_free (fun Φ hΦ hR => bX8_free_0 hΦ hR ⟨ha0, c_m_in (r64 ha0) ⟨by decide, by decide⟩ ⟨by decide, by decide⟩ (fun _ _ => yes_ ⟨so_110, c8_fewestCut hk R32_0 (fun κ2 b2 of2 hb2 => ?_)⟩) (fun d => absurd ⟨by omega, by omega⟩ d)⟩))
  rw [el] at hb2
  have e := IsB_un hb (IsB_iff (fun s => gd_eq h of.t25) hb2)
  subst e
  rw [if_neg (by omega)]
  refine ⟨fun d => ?_, fun d => ?_⟩
  · rw [if_pos (by omega)]
    exact c8_ones ⟨by omega, by omega⟩ ⟨rfl, ⟨by omega, by omega⟩, FT_inv hk of2.tR⟩
  · rw [if_neg (by omega)]
    exact ⟨rfl, ⟨by omega, by omega⟩, FT_inv hk of2.tR⟩
theorem pw_le {n : Nat} (h : n ≤ 31) {x : Int} (hx : R32 x) : x / 2 ^ n = 0 ↔ 0 ≤ x ∧ x < 2 ^ n := by
  have p : (0 : Int) < 2 ^ n := Int.pow_pos (by decide)
  constructor
  · intro e
    have h1 := Int.ediv_mul_le x (show (2 : Int) ^ n ≠ 0 by omega)
    have h2 := Int.lt_ediv_add_one_mul_self x p
    rw [e] at h1 h2
    omega
  · rintro ⟨h1, h2⟩
    exact Int.ediv_eq_zero_of_lt h1 h2
theorem c7_hasBits {G : Gm} {S : List Sh} {μ : Mem} {Q : Int → Mem → Prop} {x n : Int} (hx : R32 x) (hn : 0 ≤ n ∧ n ≤ 31) (k0 : 0 ≤ x → x < 2 ^ n.toNat → Q 0 μ) (k1 : ¬ (0 ≤ x ∧ x < 2 ^ n.toNat) → Q 1 μ) : Ci G mX7_hasBitsBeyond [(0, x), (0, n)] S μ Q := by
  have e := pw_le (n := n.toNat) (by omega) hx
  have p : (0 : Int) < 2 ^ n.toNat := Int.pow_pos (by decide)
  have r := ediv_bd (x := x) (y := 2 ^ n.toNat) (B := 2147483648) (by omega) ⟨by omega, by omega⟩ (by decide)
  have r2 : x / 2 ^ n.toNat ≤ 2147483647 := by
    by_cases c : 0 ≤ x
    · have := Int.ediv_le_self (2 ^ n.toNat) c; omega
    · have := Int.ediv_neg_of_neg_of_pos (show x < 0 by omega) p; omega
  exact eX7_hasBitsBeyond (fun Φ hΦ hR => bX7_hasBitsBeyond_0 hΦ hR ⟨hx, hn.1, hn.2, ⟨r.1, r2⟩, fun c => k0 (e.mp c).1 (e.mp c).2, fun c => k1 (fun q => c (e.mpr q))⟩)
theorem st_rest {G : Gm} {μ : Mem} {a0 a1 : Int} (h : Inv μ) (ha0 : R32 a0) (ha1 : R32 a1) : Both G mX7_rest mX8_rest [(0, a0), (0, a1)] μ := by
  have hn := h.nw
  have hl := h.nl
  have p8 := pw10 (n := (nW μ).toNat) (by omega)
  have p10 := pw10 (n := (nL μ).toNat) (by omega)
  have ref : ∀ {K : Int → Mem → Prop} {κ : Mem}, κ 110 2 = nW μ → (0 ≤ a0 → a0 < 2 ^ (nW μ).toNat → R32 a1 ∧ (Ci G mX8_in [(1, a1), (1, 0), (1, 1)] SHl κ (fun r9 μ9 => R32 r9 ∧ ((r9 ≠ 0 → Ci G mX8_fewestCut [(2, 110), (0, a0)] SHl μ9 (fun r11 μ11 => R32 r11 ∧ ((r11 < 0 → K r11 μ11) ∧ (¬ (r11 < 0) → (a1 ≠ 1 → Ci G mX8_ones [(0, r11)] SHl μ11 (fun r13 μ13 => K r13 μ13)) ∧ (a1 = 1 → K r11 μ11))))) ∧ (r9 = 0 → K (-1000000002) μ9))))) → (¬ (0 ≤ a0 ∧ a0 < 2 ^ (nW μ).toNat) → K (-1000000001) κ) → Ci G mX8_rest [(2, 110), (0, a0), (0, a1)] SHl κ K := fun {K κ} e2 k1 k0 => by
    refine eX8_rest (fun Φ hΦ hR => bX8_rest_0 hΦ hR ⟨ha0, so_110, ?_⟩)
    rw [e2]
    exact ⟨by omega, by omega, ⟨by omega, by omega⟩, c_m_in (r64 ha0) ⟨by decide, by decide⟩ ⟨by omega, by omega⟩ (fun c1 c2 => yes_ (k1 c1 (by omega))) (fun c => no_ (k0 (fun q => c ⟨q.1, by omega⟩)))⟩
  have hW := h.W
  refine eX7_rest (fun Φ hΦ hR => bX7_rest_0 hΦ hR ⟨so_0, so_W h.2.1.1, c7_hasBits ha0 ⟨hn.2.1, show nW μ ≤ 31 by omega⟩ (fun c1 c2 => ⟨R32_0, fun _ => ⟨ha1, fun d => ?_, fun d => ⟨fun d1 => ?_, fun d1 => ?_⟩⟩, fun e => absurd rfl e⟩) (fun c => ⟨R32_1, fun e => absurd e (by decide), fun _ => ?_⟩)⟩)
  · exact ref hn.1.symm (fun _ _ => ⟨ha1, c_m_in (r64 ha1) ⟨by decide, by decide⟩ ⟨by decide, by decide⟩ (fun x y => by omega) (fun _ => no_ ⟨rfl, by decide, h⟩)⟩) (fun q => absurd ⟨c1, c2⟩ q)
  · refine c7_fewestCuts h ⟨c1, c2⟩ (fun κ b of hb => ?_)
    have br := IsB_rg hb
    obtain ⟨hk, en, el⟩ := off8 h of.t25
    have pr := pc_rg b 10
    refine c7_howManyOrWhich (by omega) ha1 (ref (by rw [← hk.nw.1]; exact en) (fun _ _ => ⟨ha1, c_m_in (r64 ha1) ⟨by decide, by decide⟩ ⟨by decide, by decide⟩ (fun x y => yes_ (c8_fewestCut hk ha0 (fun κ2 b2 of2 hb2 => ?_))) (fun q => absurd ⟨by omega, by omega⟩ q)⟩) (fun q => absurd ⟨c1, c2⟩ q))
    rw [el] at hb2
    have e := IsB_un hb (IsB_iff (fun s => gd_eq h of.t25) hb2)
    subst e
    have hv := FT_inv hk of2.tR
    refine ⟨⟨by omega, by omega⟩, fun f => ?_, fun f => ⟨fun w => ?_, fun w => ?_⟩⟩
    · rw [if_pos (by omega)]; exact ⟨by omega, by decide, hv⟩
    · rw [if_neg (by omega), if_pos (by omega)]
      exact c8_ones ⟨by omega, by omega⟩ ⟨rfl, ⟨by omega, by omega⟩, hv⟩
    · rw [if_neg (by omega), if_neg (by omega)]
      exact ⟨rfl, ⟨by omega, by omega⟩, hv⟩
  · exact ref hn.1.symm (fun _ _ => ⟨ha1, c_m_in (r64 ha1) ⟨by decide, by decide⟩ ⟨by decide, by decide⟩ (fun x y => by omega) (fun _ => no_ ⟨rfl, by decide, h⟩)⟩) (fun q => absurd ⟨c1, c2⟩ q)
  · exact ref hn.1.symm (fun x y => absurd ⟨x, y⟩ c) (fun _ => ⟨rfl, by decide, h⟩)
