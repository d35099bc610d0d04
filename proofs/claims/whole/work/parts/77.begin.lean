/-! A NEW CLOCK, the class -/
/-- the works in use, the class's alone -/
def WC (κ : Mem) : Prop := (0 ≤ nW κ ∧ nW κ ≤ 8) ∧ (0 ≤ nL κ ∧ nL κ ≤ 10) ∧ (0 ≤ κ (wW κ) 3 ∧ (0 < nW κ → κ (wW κ) 3 < nW κ)) ∧ (1 ≤ κ (wW κ) 4 ∧ κ (wW κ) 4 ≤ 30)
  ∧ (∀ i, 0 ≤ i → i < nW κ → 3 ≤ κ (wW κ + 1) i ∧ κ (wW κ + 1) i ≤ 30)
  ∧ ∀ l, 0 ≤ l → l < nL κ → (0 ≤ κ (wW κ + 4) l ∧ κ (wW κ + 4) l ≤ 2) ∧ (0 ≤ κ (wW κ + 5) l ∧ κ (wW κ + 5) l < nW κ) ∧ (0 ≤ κ (wW κ + 6) l ∧ κ (wW κ + 6) l < nW κ) ∧ κ (wW κ + 5) l ≠ κ (wW κ + 6) l
theorem c7_reckonNowC {G : Gm} {Q : Mem → Prop} {κ : Mem} (wf : WF κ) (hW : isW (wW κ)) (wc : WC κ) (h2 : κ 29 2 = 0) (q : ∀ κ', Off (FM 21) κ κ' → IM κ' → Q κ') : Cv G mX7_reckonNow [(2, 0)] SHl κ Q := by
  have hW' : wW κ = 3 ∨ wW κ = 12 := hW
  obtain ⟨w3, w4, w6, w7, w8, w9⟩ := wc
  have lr : R32 (lon κ) := mand_r _ _
  have p := pw10 (n := (nL κ).toNat) (by omega)
  have onb : ∀ l, 0 ≤ l → l < 11 → (bt_ (lon κ) l = 1 ↔ l < nL κ) := fun l l0 l1 => by
    have e : lon κ = mand (2 ^ (nL κ).toNat - 1) (mxor 0 (-1)) := by unfold lon; rw [h2, Int.one_mul]
    have b1 := bt_mand (x := 2 ^ (nL κ).toNat - 1) (y := mxor 0 (-1)) ⟨by omega, by omega⟩ (mxor_r _ _) (k := l.toNat) (by omega)
    have b2 := bt_mxor (x := 0) (y := -1) R32_0 ⟨by decide, by decide⟩ (k := l.toNat) (by omega)
    rw [bt_m1 (by omega), bt_zero, if_neg (by decide)] at b2
    rw [b2, bt_p1, show ((l.toNat : Nat) : Int) = l by omega] at b1
    rw [e, b1]
    by_cases c : l < nL κ
    · rw [if_pos (show l.toNat < (nL κ).toNat by omega)]; simp [c]
    · rw [if_neg (show ¬ l.toNat < (nL κ).toNat by omega)]; simp [c]
  have hon : Ci G mX7_linksOn [(2, 0)] SHl κ (fun r μ => r = lon κ ∧ μ = κ) := by
    refine eX7_linksOn (fun Φ hΦ hR => bX7_linksOn_0 hΦ hR ⟨so_0, so_W hW, ?_⟩)
    rw [wf_0_5 wf]
    refine ⟨?_, ?_, so_29, ⟨rfl, rfl⟩⟩
    · show 0 ≤ nL κ; omega
    · show nL κ ≤ 31; omega
  refine eX7_reckonNow (fun Φ hΦ hR => bX7_reckonNow_0 hΦ hR ⟨so_0, Ci_mono hon ?_⟩)
  rintro r μ ⟨rfl, rfl⟩
  rw [wf_0_3 wf]
  refine ⟨so_21, ?_⟩
  have ee : EE μ (wW μ) (lon μ) 0 = Enow μ := by
    unfold EE Enow
    refine Edg_eq (fun l l0 l1 on => ?_) (fun l l0 l1 on => ?_)
    · exact ⟨l, l0, (onb l l0 l1).mp on, by rw [h2, bt_zero], by unfold kdE; rw [bt_zero, if_neg (by decide)], rfl, rfl⟩
    · exact ⟨l, l0, by omega, (onb l l0 (by omega)).mpr l1, by unfold kdE; rw [bt_zero, if_neg (by decide)], rfl, rfl⟩
  have fin : ∀ μ', RKQ μ (wW μ) 21 (lon μ) 0 (nW μ) (μ (wW μ) 3) (μ (wW μ) 4) μ' → Q μ' := fun μ' qq => by
    obtain ⟨of, rs, tr, tb⟩ := qq
    refine q μ' of ?_
    have sw : Sm (dW (wW μ) (nL μ)) μ μ' := fun k i d => of k i (by unfold dW at d; unfold FM; omega)
    have e := SW_of sw
    have c2 : μ' 29 2 = μ 29 2 := of 29 2 (by unfold FM; omega)
    have en : Enow μ' = Enow μ := by
      unfold Enow
      rw [e.w, e.nl, c2]
      exact Edg_sm (fun l _ h1 => ⟨Iff.rfl, e.k l h1, e.a l h1, e.b l h1⟩)
    refine ⟨?_, by rw [e.nw]; exact tr, by rw [e.nw]; exact tb⟩
    show RS _ _ _ _ (Enow μ') _ _
    rw [en, e.w, e.nw, e.f3, e.f4, show μ' (wW μ + 1) = μ (wW μ + 1) from funext e.t, ← ee]
    exact rs
  by_cases hn : nW μ = 0
  · refine c3_reckon0 (drv := μ (wW μ) 3) (R := μ (wW μ) 4) wf hW (Or.inl rfl) hn (fun μ' qq => fin μ' ?_)
    rw [hn]; exact qq
  · refine c3_reckon1 (nw := nW μ) (drv := μ (wW μ) 3) (R := μ (wW μ) 4) ⟨wf, hW, Or.inl rfl, ⟨by omega, w3.2⟩, w8, fun l l0 l1 on => ?_, w7, ⟨w6.1, w6.2 (by omega)⟩, lr, R32_0⟩ rfl rfl rfl fin
    have pl := (onb l l0 l1).mp on
    obtain ⟨k1, k2, k3, k4⟩ := w9 l l0 pl
    unfold kdE
    rw [bt_zero, if_neg (by decide)]
    refine ⟨?_, k2, k3, k4⟩
    show μ (wW μ + 4) l = 0 ∨ μ (wW μ + 4) l = 1 ∨ μ (wW μ + 4) l = 2
    omega
def FBg (k i : Int) : Prop := (k = 29 ∧ 0 ≤ i ∧ i ≤ 2) ∨ k = 30 ∨ ((k = 94 ∨ k = 98) ∧ i = 3) ∨ (k = 31 ∧ i = 2) ∨ ((k = 104 ∨ k = 107) ∧ i = 2) ∨ FM 21 k i
theorem c7_beginClock {G : Gm} {Q : Mem → Prop} {κ : Mem} (wf : WF κ) (hW : isW (wW κ)) (wc : WC κ) (q : ∀ κ', Off FBg κ κ' → (κ' 29 0 = 0 ∧ κ' 29 1 = 0 ∧ κ' 29 2 = 0) → (∀ i, 0 ≤ i → i < 8 → κ' 30 i = κ (wW κ + 2) i) → (κ' 94 3 = 0 ∧ κ' 98 3 = 0 ∧ κ' 31 2 = 0 ∧ κ' 104 2 = 0 ∧ κ' 107 2 = 0) → IM κ' → Q κ') : Cv G mX7_beginClock [(2, 0)] SHl κ (fun μ10 => Cv G mX7_reckonNow [(2, 0)] SHl μ10 Q) := by
  have hW' : wW κ = 3 ∨ wW κ = 12 := hW
  have so2 : So SHl (wW κ + 2) (.inr (0, 8)) := by rcases hW' with e | e <;> rw [e]; exact so_5; exact so_14
  refine eX7_beginClock (fun Φ hΦ hR => bX7_beginClock_0 hΦ hR ⟨so_0, ?_⟩)
  rw [wf_0_5 wf]
  refine ⟨so_29, ?_⟩
  rintro m3 e3
  rw [show m3 0 5 = 29 by rw [e3, mu_off2 (by omega)]; exact wf_0_5 wf]
  refine ⟨so_29, ?_⟩
  rintro m5 e5
  rw [show m5 0 5 = 29 by rw [e5, e3, mu_off2 (by omega), mu_off2 (by omega)]; exact wf_0_5 wf]
  refine ⟨so_29, ?_⟩
  rintro m7 e7
  have k7 : m7 = mu (mu (mu κ 29 0 0) 29 1 0) 29 2 0 := by rw [e7, e5, e3]
  have o7 : ∀ k i, ¬ (k = 29 ∧ 0 ≤ i ∧ i ≤ 2) → m7 k i = κ k i := fun k i c => by rw [k7, mu_off2 (by omega), mu_off2 (by omega), mu_off2 (by omega)]
  rw [show m7 0 5 = 29 from (o7 _ _ (by omega)).trans (wf_0_5 wf), show m7 0 1 = wW κ from o7 _ _ (by omega), show m7 (wW κ) 6 = wW κ + 2 from (o7 _ _ (by omega)).trans (wf_W6 wf hW), show m7 29 3 = 30 from (o7 _ _ (by omega)).trans (wf_29_3 wf)]
  refine ⟨so_W hW, so_29, ?_, ?_⟩
  · exact ⟨8, 8, so2, so_30, by decide, by decide, by decide, by decide, by decide, by decide, by decide⟩
  rintro m11 e11
  have o11 : ∀ k i, ¬ (k = 29 ∧ 0 ≤ i ∧ i ≤ 2) → k ≠ 30 → m11 k i = κ k i := fun k i c c2 => by
    rw [e11]; unfold mcpy; rw [if_neg (by omega)]; exact o7 k i c
  have p11 : ∀ i, 0 ≤ i → i < 8 → m11 30 i = κ (wW κ + 2) i := fun i i0 i1 => by
    rw [e11]; unfold mcpy; rw [if_pos (by omega), show 0 + (i - 0) = i by omega]; exact o7 _ _ (by omega)
  have d11 : ∀ i, 0 ≤ i → i ≤ 2 → m11 29 i = 0 := fun i i0 i1 => by
    rw [e11]; unfold mcpy; rw [if_neg (by omega), k7]
    have : i = 0 ∨ i = 1 ∨ i = 2 := by omega
    rcases this with rfl | rfl | rfl
    · rw [mu_off2 (by omega), mu_off2 (by omega), mu_same]
    · rw [mu_off2 (by omega), mu_same]
    · rw [mu_same]
  rw [show m11 0 8 = 94 from (o11 _ _ (by omega) (by decide)).trans (wf_0_8 wf)]
  refine ⟨so_94, ?_⟩
  rintro m13 e13
  rw [show m13 0 9 = 98 by rw [e13, mu_off2 (by omega)]; exact (o11 _ _ (by omega) (by decide)).trans (wf_0_9 wf)]
  refine ⟨so_98, ?_⟩
  rintro m15 e15
  rw [show m15 0 6 = 31 by rw [e15, e13, mu_off2 (by omega), mu_off2 (by omega)]; exact (o11 _ _ (by omega) (by decide)).trans (wf_0_6 wf)]
  refine ⟨so_31, ?_⟩
  rintro m17 e17
  have k17 : m17 = mu (mu (mu m11 94 3 0) 98 3 0) 31 2 0 := by rw [e17, e15, e13]
  have o17 : ∀ k i, ¬ ((k = 94 ∨ k = 98) ∧ i = 3) → ¬ (k = 31 ∧ i = 2) → m17 k i = m11 k i := fun k i c c2 => by rw [k17, mu_off2 c2, mu_off2 (by omega), mu_off2 (by omega)]
  have fin : ∀ m, m = mu (mu m17 104 2 0) 107 2 0 → Ex G Φ 2 71 [some (2, 0), some (0, 2)] [] SHl m 0 0 := fun m em => by
    have om : ∀ k i, ¬ FBg k i → m k i = κ k i := fun k i c => by
      rw [em, mu_off2 (fun z => c (by unfold FBg; omega)), mu_off2 (fun z => c (by unfold FBg; omega)), o17 k i (fun z => c (by unfold FBg; omega)) (fun z => c (by unfold FBg; omega)), o11 k i (fun z => c (by unfold FBg; omega)) (fun z => c (by unfold FBg; omega))]
    have hm : ∀ k i, k ≠ 94 → k ≠ 98 → k ≠ 31 → k ≠ 104 → k ≠ 107 → m k i = m11 k i := fun k i c1 c2 c3 c4 c5 => by
      rw [em, mu_off2 (by omega), mu_off2 (by omega), o17 k i (by omega) (by omega)]
    have wfm : WF m := wf_sm wf (fun k i d => om k i (by unfold dF at d; unfold FBg FM; omega))
    have ew : wW m = wW κ := om 0 1 (by unfold FBg FM; omega)
    have en : nW m = nW κ := by show m (wW m) 0 = _; rw [ew]; exact om _ _ (by unfold FBg FM; omega)
    have el : nL m = nL κ := by show m (wW m) 1 = _; rw [ew]; exact om _ _ (by unfold FBg FM; omega)
    have r : ∀ k i, 3 ≤ k → k ≤ 20 → m k i = κ k i := fun k i c1 c2 => om k i (by unfold FBg FM; omega)
    have wcm : WC m := by
      obtain ⟨w3, w4, w6, w7, w8, w9⟩ := wc
      refine ⟨by rw [en]; exact w3, by rw [el]; exact w4, ?_, ?_, fun i i0 i1 => ?_, fun l l0 l1 => ?_⟩
      · rw [ew, en, r _ _ (by omega) (by omega)]; exact w6
      · rw [ew, r _ _ (by omega) (by omega)]; exact w7
      · rw [en] at i1
        rw [ew, r _ _ (by omega) (by omega)]; exact w8 i i0 i1
      · rw [el] at l1
        rw [ew, en, r _ _ (by omega) (by omega), r _ _ (by omega) (by omega), r _ _ (by omega) (by omega)]; exact w9 l l0 l1
    refine bX7_beginClock_71 hΦ hR ⟨⟨by decide, by decide⟩, fun _ => c7_reckonNowC wfm (by rw [ew]; exact hW) wcm (by rw [hm 29 2 (by decide) (by decide) (by decide) (by decide) (by decide)]; exact d11 2 (by decide) (by decide)) (fun κ' of im => ?_), fun c => absurd (by decide) c⟩
    have n21 : ∀ k i, ¬ FM 21 k i → κ' k i = m k i := of
    refine q κ' (fun k i c => (n21 k i (fun z => c (Or.inr (Or.inr (Or.inr (Or.inr (Or.inr z))))))).trans (om k i c)) ⟨?_, ?_, ?_⟩ (fun i i0 i1 => ?_) ⟨?_, ?_, ?_, ?_, ?_⟩ im
    · rw [n21 _ _ (by unfold FM; omega), hm 29 0 (by decide) (by decide) (by decide) (by decide) (by decide)]; exact d11 0 (by decide) (by decide)
    · rw [n21 _ _ (by unfold FM; omega), hm 29 1 (by decide) (by decide) (by decide) (by decide) (by decide)]; exact d11 1 (by decide) (by decide)
    · rw [n21 _ _ (by unfold FM; omega), hm 29 2 (by decide) (by decide) (by decide) (by decide) (by decide)]; exact d11 2 (by decide) (by decide)
    · rw [n21 _ _ (by unfold FM; omega), hm 30 i (by decide) (by decide) (by decide) (by decide) (by decide)]; exact p11 i i0 i1
    · rw [n21 _ _ (by unfold FM; omega), em, mu_off2 (by omega), mu_off2 (by omega), k17, mu_off2 (by omega), mu_off2 (by omega), mu_same]
    · rw [n21 _ _ (by unfold FM; omega), em, mu_off2 (by omega), mu_off2 (by omega), k17, mu_off2 (by omega), mu_same]
    · rw [n21 _ _ (by unfold FM; omega), em, mu_off2 (by omega), mu_off2 (by omega), k17, mu_same]
    · rw [n21 _ _ (by unfold FM; omega), em, mu_off2 (by omega), mu_same]
    · rw [n21 _ _ (by unfold FM; omega), em, mu_same]
  have g7 : m17 0 7 = 93 := by rw [o17 _ _ (by omega) (by omega)]; exact (o11 _ _ (by omega) (by decide)).trans (wf_0_7 wf)
  have g93 : m17 93 0 = 104 := by rw [o17 _ _ (by omega) (by omega)]; exact (o11 _ _ (by omega) (by decide)).trans (wf_93_0 wf)
  have g94 : m17 93 1 = 107 := by rw [o17 _ _ (by omega) (by omega)]; exact (o11 _ _ (by omega) (by decide)).trans (wf_93_1 wf)
  refine bX7_beginClock_71 hΦ hR ⟨⟨by decide, by decide⟩, fun c => absurd c (by decide), fun _ => ⟨so_0, ?_⟩⟩
  rw [g7, g93]
  refine ⟨ai_93 (by decide) (by decide), so_104, ?_⟩
  rintro n7 f7
  refine bX7_beginClock_71 hΦ hR ⟨⟨by decide, by decide⟩, fun c => absurd c (by decide), fun _ => ⟨so_0, ?_⟩⟩
  rw [show n7 0 7 = 93 by rw [f7, mu_off2 (by omega)]; exact g7, show n7 93 (0 + 1) = 107 by rw [f7, mu_off2 (by omega)]; exact g94]
  refine ⟨ai_93 (by decide) (by decide), so_107, ?_⟩
  rintro n8 f8
  exact fin n8 (by rw [f8, f7])
