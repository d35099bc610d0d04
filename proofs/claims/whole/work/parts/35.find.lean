def TC (μ0 : Mem) (cut idl l : Int) (L : List Int) (μ : Mem) : Prop := (μ0 116 l ∈ L ↔ μ0 117 l ∈ L) ∧ (μ 110 29 = 0 → (μ0 116 l ∈ L → rr μ 121 (μ0 117 l) = stp (μ0 113) (kd8 μ0 idl l) (μ0 116 l) (μ0 117 l) (rr μ 121 (μ0 116 l))) ∧ (μ0 117 l ∈ L → rr μ 121 (μ0 116 l) = stp (μ0 113) (kd8 μ0 idl l) (μ0 117 l) (μ0 116 l) (rr μ 121 (μ0 117 l))))
def MQ8 (μ0 : Mem) (cut idl nw drv R l : Int) (L : List Int) (μ μ' : Mem) : Prop :=
  Off FR μ μ' ∧ ∃ t, Tree (μ0 113) (E8 μ0 cut idl) drv R nw (rr μ' 121) (L ++ t) ∧ (∀ z ∈ L, rr μ' 121 z = rr μ 121 z) ∧ BD8 μ0 cut idl drv R μ' ∧ (μ' 110 29 = 0 → μ 110 29 = 0) ∧ ((μ0 116 l ∈ L ↔ μ0 117 l ∈ L) → t = []) ∧ (t = [] → TC μ0 cut idl l L μ')
theorem c8_mesh {G : Gm} {Q : Mem → Prop} {μ0 μ : Mem} {cut idl nw drv R l : Int} {L : List Int} (rp : RP8 μ0 cut idl nw drv R) (of : Off FR μ0 μ) (mo : Tree (μ0 113) (E8 μ0 cut idl) drv R nw (rr μ 121) L) (bd : BD8 μ0 cut idl drv R μ) (h0 : 0 ≤ l) (h1 : l < 21) (ho : on8 μ0 cut l) (h : ∀ μ', MQ8 μ0 cut idl nw drv R l L μ μ' → Q μ') : Cv G mX8_mesh [(2, 110), (0, l), (0, idl)] SHl μ Q := by
  have rp' := rp
  obtain ⟨wf0, ⟨e2, e5, e6⟩, ⟨n0, n8⟩, hT, hE, hRR, hd, hc, hi, hl, hn⟩ := rp
  obtain ⟨ek, ea, eb, ene⟩ := hE l h0 h1 ho
  have hr : ∀ (μ : Mem) (L : List Int), Tree (μ0 113) (E8 μ0 cut idl) drv R nw (rr μ 121) L → ∀ w, 0 ≤ w → w < nw → R64 (μ 122 w) ∧ (w ∈ L ↔ μ 122 w ≠ 0) := fun μ L mo w w0 w1 => by
    obtain ⟨y1, y2, y3, y4, y5⟩ := mo.gd' n8 w0 w1
    have y4 : -24300000 ≤ μ 122 w := y4
    have y5 : μ 122 w ≤ 24300000 := y5
    exact ⟨⟨by omega, by omega⟩, mo.nz w0 w1⟩
  have w116 : ∀ μ, Off FR μ0 μ → μ 116 = μ0 116 := fun μ of => by funext i; exact of _ _ (by unfold FR; omega)
  have w117 : ∀ μ, Off FR μ0 μ → μ 117 = μ0 117 := fun μ of => by funext i; exact of _ _ (by unfold FR; omega)
  have le21 : l ≤ 20 := by omega
  refine eX8_mesh (fun Φ hΦ hR => bX8_mesh_0 hΦ hR ⟨so_110, ?_⟩)
  have wf := off_wf8 wf0 of
  rw [wf_110_16 wf, wf_110_27 wf, wf_110_17 wf, w116 μ of, w117 μ of]
  obtain ⟨ra, na⟩ := hr μ L mo _ ea.1 ea.2
  obtain ⟨rb, nb⟩ := hr μ L mo _ eb.1 eb.2
  refine ⟨ai_116 h0 (by omega), ai_122 ea.1 (by omega), ra, fun c => ?_, fun c => ⟨ai_117 h0 (by omega), ?_⟩⟩
  · have ha : μ0 116 l ∉ L := fun q => na.mp q c
    refine bX8_mesh_34 hΦ hR ⟨so_110, ?_⟩
    rw [wf_110_16 wf, wf_110_27 wf, wf_110_17 wf, w116 μ of, w117 μ of]
    refine ⟨ai_117 h0 (by omega), ai_122 eb.1 (by omega), rb, fun c2 => ?_, fun c2 => ⟨ai_116 h0 (by omega), ?_⟩⟩
    · have hb : μ0 117 l ∉ L := fun q => nb.mp q c2
      exact h _ ⟨Off.rf, [], by rw [List.append_nil]; exact mo, fun _ _ => rfl, bd, fun q => q, fun _ => rfl, fun _ => ⟨⟨fun q => absurd q ha, fun q => absurd q hb⟩, fun _ => ⟨fun q => absurd q ha, fun q => absurd q hb⟩⟩⟩
    · have hb : μ0 117 l ∈ L := nb.mpr c2
      refine c8_turn rp' of mo bd hb h0 h1 ho (Or.inr ⟨rfl, rfl⟩) (fun μ' tq => h _ ?_)
      obtain ⟨of2, t, mo2, ag, my, tn, bd2, fl⟩ := tq
      refine ⟨of2, t, mo2, ag, bd2, fun q => (fl q).1, fun q => absurd (q.mpr hb) ha, fun q => ?_⟩
      rw [q, List.append_nil] at my
      exact absurd my ha
  · have ha : μ0 116 l ∈ L := na.mpr c
    refine c8_turn rp' of mo bd ha h0 h1 ho (Or.inl ⟨rfl, rfl⟩) (fun μ1 tq => ?_)
    obtain ⟨of1, t, mo1, ag, my, tn, bd1, fl⟩ := tq
    have ofm := of.tr of1
    have wf1 := off_wf8 wf0 ofm
    obtain ⟨rb1, nb1⟩ := hr μ1 _ mo1 _ eb.1 eb.2
    refine bX8_mesh_34 hΦ hR ⟨so_110, ?_⟩
    rw [wf_110_16 wf1, wf_110_27 wf1, wf_110_17 wf1, w116 μ1 ofm, w117 μ1 ofm]
    refine ⟨ai_117 h0 (by omega), ai_122 eb.1 (by omega), rb1, fun c2 => absurd c2 (nb1.mp my), fun c2 => ⟨ai_116 h0 (by omega), ?_⟩⟩
    have ha1 : μ0 116 l ∈ L ++ t := List.mem_append_left _ ha
    refine c8_turn rp' ofm mo1 bd1 my h0 h1 ho (Or.inr ⟨rfl, rfl⟩) (fun μ2 tq => h _ ?_)
    obtain ⟨of2, t2, mo2, ag2, my2, tn2, bd2, fl2⟩ := tq
    have ht2 := tn2 ha1
    subst ht2
    rw [List.append_nil] at mo2
    refine ⟨of1.tr of2, t, mo2, fun z hz => by rw [ag2 z (List.mem_append_left _ hz)]; exact ag z hz, bd2, fun q => (fl (fl2 q).1).1, fun q => tn (q.mp ha), fun q => ?_⟩
    subst q
    rw [List.append_nil] at my ag2
    refine ⟨⟨fun _ => my, fun _ => ha⟩, fun q => ?_⟩
    obtain ⟨f1, f2⟩ := fl2 q
    obtain ⟨f3, f4⟩ := fl f1
    refine ⟨fun _ => ?_, fun _ => ?_⟩
    · rw [ag2 _ my, ag2 _ ha, f4, ag _ ha]
    · rw [f2, ag2 _ my]
def Pr8 (μ0 : Mem) (cut idl n : Int) (L : List Int) (μ : Mem) : Prop := ∀ l, 0 ≤ l → l < n → on8 μ0 cut l → TC μ0 cut idl l L μ
def CL8 (μ0 : Mem) (cut : Int) (L : List Int) : Prop := ∀ l, 0 ≤ l → l < 21 → on8 μ0 cut l → (μ0 116 l ∈ L ↔ μ0 117 l ∈ L)
def SW8 (μ0 : Mem) (cut idl nw drv R l : Int) (L : List Int) (μ : Mem) : Prop :=
  Off FR μ0 μ ∧ ∃ t, Tree (μ0 113) (E8 μ0 cut idl) drv R nw (rr μ 121) (L ++ t) ∧ BD8 μ0 cut idl drv R μ ∧ (CL8 μ0 cut L → t = []) ∧ (t = [] → Pr8 μ0 cut idl l L μ)
theorem off_on {μ0 μ : Mem} {cut l : Int} (of : Off FR μ0 μ) : on8 μ cut l ↔ on8 μ0 cut l := by
  unfold on8
  rw [of 110 30 (by unfold FR; omega), of 110 3 (by unfold FR; omega)]
theorem find67 {G : Gm} {Φ : Fr} {Q : Mem → Prop} (hΦ : St G Φ cX8_findRates RX8 5 4 103 0 0) (hR : Rt G Φ (Pv SHl Q) 0 0 none) {μ0 : Mem} {cut idl nw drv R x3 : Int} {L : List Int} (rp : RP8 μ0 cut idl nw drv R)
    (K : ∀ μ', SW8 μ0 cut idl nw drv R 21 L μ' → Ex G Φ 5 56 [some (2, 110), some (0, cut), some (0, idl), some (0, (x3 + 1)), none] [] SHl μ' 0 0) : ∀ (m : Nat) (l : Int) (μ : Mem), 0 ≤ l → l + m = 21 → SW8 μ0 cut idl nw drv R l L μ → Ex G Φ 5 67 [some (2, 110), some (0, cut), some (0, idl), some (0, x3), some (0, l)] [] SHl μ 0 0 := by
  intro m
  induction m with
  | zero =>
    intro l μ h0 hl s
    obtain rfl : l = 21 := by omega
    exact bX8_findRates_67 hΦ hR ⟨⟨by decide, by decide⟩, fun _ => K μ s, fun c => absurd (by decide) c⟩
  | succ m ih =>
    intro l μ h0 hl s
    have rp' := rp
    obtain ⟨wf0, ⟨e2, e5, e6⟩, ⟨n0, n8⟩, hT, hE, hRR, hd, hc, hi, hl3, hn⟩ := rp
    obtain ⟨of, t, mo, bd, cl, pr⟩ := s
    have g3 : μ 110 3 = μ0 110 3 := of 110 3 (by unfold FR; omega)
    have g30 : μ 110 30 = μ0 110 30 := of 110 30 (by unfold FR; omega)
    refine bX8_findRates_67 hΦ hR ⟨⟨by omega, by omega⟩, fun c => absurd c (by omega), fun _ => ⟨so_110, c8_isOn h0 (by omega) hc (by rw [g3]; exact hl3) (by rw [g30]; exact hn) (fun on => ?_) (fun off => ?_)⟩⟩
    · have on := (off_on of).mp on
      refine ⟨R32_1, fun c => absurd c (by decide), fun _ => c8_mesh rp' of mo bd h0 (by omega) on (fun μ' q => ih (l + 1) μ' (by omega) (by omega) ?_)⟩
      obtain ⟨of2, t2, mo2, ag2, bd2, fl, cl2, tc⟩ := q
      refine ⟨of.tr of2, t ++ t2, by rw [← List.append_assoc]; exact mo2, bd2, fun c => ?_, fun c => ?_⟩
      · have e := cl c
        subst e
        rw [List.append_nil] at cl2
        rw [cl2 (c l h0 (by omega) on)]; rfl
      · obtain ⟨e1, e2⟩ := List.append_eq_nil_iff.mp c
        subst e1 e2
        rw [List.append_nil] at tc ag2
        have tc := tc rfl
        have pr := pr rfl
        intro l' q0 q1 q2
        by_cases c' : l' = l
        · rw [c']; exact tc
        · obtain ⟨p1, p2⟩ := pr l' q0 (by omega) q2
          refine ⟨p1, fun f => ?_⟩
          obtain ⟨p3, p4⟩ := p2 (fl f)
          refine ⟨fun ha => ?_, fun hb => ?_⟩
          · rw [ag2 _ (p1.mp ha), ag2 _ ha]; exact p3 ha
          · rw [ag2 _ hb, ag2 _ (p1.mpr hb)]; exact p4 hb
    · refine ⟨R32_0, fun _ => ih (l + 1) μ (by omega) (by omega) ⟨of, t, mo, bd, cl, fun c l' q0 q1 q2 => ?_⟩, fun c => absurd rfl c⟩
      by_cases c' : l' = l
      · rw [c'] at q2; exact absurd ((off_on of).mpr q2) off
      · exact pr c l' q0 (by omega) q2
/-- what finding the rates leaves -/
def RFQ (μ0 : Mem) (cut idl nw drv R : Int) (μ : Mem) : Prop := Off FR μ0 μ ∧ RS (μ0 113) drv R nw (E8 μ0 cut idl) (rr μ 121) (μ 110 29)
theorem find105 {G : Gm} {Φ : Fr} {Q : Mem → Prop} (hΦ : St G Φ cX8_findRates RX8 5 4 103 0 0) (hR : Rt G Φ (Pv SHl Q) 0 0 none) {μ0 : Mem} {cut idl nw drv R : Int} (rp : RP8 μ0 cut idl nw drv R) (h : ∀ μ', RFQ μ0 cut idl nw drv R μ' → Q μ') (hf : ¬ ∃ ρ', Fit (μ0 113) drv R (E8 μ0 cut idl) ρ') : ∀ (m : Nat) (k : Int) (μ : Mem), 0 ≤ k → k + m = 8 → Off FR μ0 μ → μ 110 29 = 1 → (∀ w, 0 ≤ w → w < k → rr μ 121 w = (0, 1)) → Ex G Φ 5 105 [some (2, 110), some (0, cut), some (0, idl), some (0, k), none] [] SHl μ 0 0 := by
  intro m
  induction m with
  | zero =>
    intro k μ h0 hk of fl hz
    obtain rfl : k = 8 := by omega
    obtain ⟨wf0, ⟨e2, e5, e6⟩, ⟨n0, n8⟩, hT, hE, hRR, hd, hc, hi, hl3, hn⟩ := rp
    exact bX8_findRates_105 hΦ hR ⟨⟨by decide, by decide⟩, fun _ => h μ ⟨of, Or.inr ⟨fl, n0, hf, fun w w0 w1 => hz w w0 (by omega)⟩⟩, fun c => absurd (by decide) c⟩
  | succ m ih =>
    intro k μ h0 hk of fl hz
    have wf := off_wf8 rp.1 of
    refine bX8_findRates_105 hΦ hR ⟨⟨by omega, by omega⟩, fun c => absurd c (by omega), fun _ => ⟨so_110, by rw [fl]; exact R32_1, fun c => absurd (fl.symm.trans c) (by decide), fun _ => ?_⟩⟩
    rw [wf_110_27 wf]
    refine ⟨ai_122 h0 (by omega), ?_⟩
    rintro m5 e5'
    rw [show m5 110 28 = 123 by rw [e5', mu_off2 (by omega)]; exact wf_110_28 wf]
    refine ⟨ai_123 h0 (by omega), ?_⟩
    rintro m7 e7
    have k7 : m7 = mu (mu μ 122 k 0) 123 k 1 := by rw [e7, e5']
    refine ih (k + 1) m7 (by omega) (by omega) (by rw [k7]; exact Off.mu (Off.mu of (by unfold FR; omega)) (by unfold FR; omega)) (by rw [k7, mu_off2 (by omega), mu_off2 (by omega)]; exact fl) (fun w w0 w1 => ?_)
    by_cases c : w = k
    · subst c
      refine Prod.ext ?_ ?_
      · rw [rr1, k7, mu_off2 (by omega), mu_same]
      · rw [rr2, k7, mu_same]
    · have := hz w w0 (by omega)
      rw [← this]
      refine Prod.ext ?_ ?_
      · rw [rr1, k7, mu_off2 (by omega), mu_off2 (by omega), rr1]
      · rw [rr2, k7, mu_off2 (by omega), mu_off2 (by omega), rr2]
theorem find56 {G : Gm} {Φ : Fr} {Q : Mem → Prop} (hΦ : St G Φ cX8_findRates RX8 5 4 103 0 0) (hR : Rt G Φ (Pv SHl Q) 0 0 none) {μ0 : Mem} {cut idl nw drv R : Int} (rp : RP8 μ0 cut idl nw drv R) (h : ∀ μ', RFQ μ0 cut idl nw drv R μ' → Q μ') : ∀ (m : Nat) (k : Int) (μ : Mem) (L : List Int), 0 ≤ k → k + m = nw + 1 → Off FR μ0 μ → Tree (μ0 113) (E8 μ0 cut idl) drv R nw (rr μ 121) L → BD8 μ0 cut idl drv R μ → (k + 1 ≤ L.length ∨ Pr8 μ0 cut idl 21 L μ) → Ex G Φ 5 56 [some (2, 110), some (0, cut), some (0, idl), some (0, k), none] [] SHl μ 0 0 := by
  intro m
  induction m with
  | zero =>
    intro k μ L h0 hk of mo bd ss
    have rp' := rp
    obtain ⟨wf0, ⟨e2, e5, e6⟩, ⟨n0, n8⟩, hT, hE, hRR, hd, hc, hi, hl3, hn⟩ := rp
    have g2 : μ 110 2 = nw := (of 110 2 (by unfold FR; omega)).trans e2
    have len : (L.length : Int) ≤ nw := by
      have := nodup_len nw.toNat L mo.1 (fun x hx => by have := mo.2.2.2.1 x hx; omega)
      omega
    have pr : Pr8 μ0 cut idl 21 L μ := by
      rcases ss with c | c
      · omega
      · exact c
    refine bX8_findRates_56 hΦ hR ⟨so_110, ⟨by omega, by omega⟩, ⟨by omega, by omega⟩, fun _ => ?_, fun c => absurd (by omega) c⟩
    rcases bd with b | ⟨b, hf⟩
    · refine bX8_findRates_105 hΦ hR ⟨⟨by decide, by decide⟩, fun c => absurd c (by decide), fun _ => ⟨so_110, by rw [b]; exact R32_0, fun _ => h μ ⟨of, ?_⟩, fun c => absurd b c⟩⟩
      rw [b]
      refine mo.rs n8 ?_ ?_ ?_
      · rintro k x y ⟨l, l0, l1, l2, l3, l4, l5⟩
        obtain ⟨-, ea, eb, -⟩ := hE l l0 l1 l2
        rw [l4, l5]; exact ⟨ea, eb⟩
      · rintro k x y ⟨l, l0, l1, l2, l3, l4, l5⟩ hx
        rw [l3, l4, l5]
        exact ((pr l l0 l1 l2).2 b).1 (by rw [← l4]; exact hx)
      · rintro k x y ⟨l, l0, l1, l2, l3, l4, l5⟩ hy
        rw [l3, l4, l5]
        exact ((pr l l0 l1 l2).2 b).2 (by rw [← l5]; exact hy)
    · exact find105 hΦ hR rp' h hf 8 0 μ (by decide) (by decide) of b (fun w w0 w1 => by omega)
  | succ m ih =>
    intro k μ L h0 hk of mo bd ss
    have rp' := rp
    obtain ⟨wf0, ⟨e2, e5, e6⟩, ⟨n0, n8⟩, hT, hE, hRR, hd, hc, hi, hl3, hn⟩ := rp
    have g2 : μ 110 2 = nw := (of 110 2 (by unfold FR; omega)).trans e2
    refine bX8_findRates_56 hΦ hR ⟨so_110, ⟨by omega, by omega⟩, ⟨by omega, by omega⟩, fun c => absurd c (by omega), fun _ => ?_⟩
    refine find67 hΦ hR (L := L) rp' (fun μ' s => ?_) 21 0 μ (by decide) (by decide) ⟨of, [], by rw [List.append_nil]; exact mo, bd, fun _ => rfl, fun _ l' q0 q1 => by omega⟩
    obtain ⟨of2, t, mo2, bd2, cl, pr⟩ := s
    refine ih (k + 1) μ' (L ++ t) (by omega) (by omega) of2 mo2 bd2 ?_
    by_cases c : t = []
    · right
      rw [c, List.append_nil]
      exact pr c
    · left
      have l1 : 0 < t.length := List.length_pos_iff.mpr c
      have : k + 1 ≤ L.length := by
        rcases ss with q | q
        · exact q
        · exact absurd (cl (fun l q0 q1 q2 => (q l q0 q1 q2).1)) c
      rw [List.length_append]
      omega
theorem find7 {G : Gm} {Φ : Fr} {Q : Mem → Prop} (hΦ : St G Φ cX8_findRates RX8 5 4 103 0 0) (hR : Rt G Φ (Pv SHl Q) 0 0 none) {μ0 : Mem} {cut idl : Int} (wf0 : WF μ0)
    (K : ∀ μ', Off FR μ0 μ' → μ' 110 29 = 0 → (∀ w, 0 ≤ w → w < 8 → rr μ' 121 w = (0, 1)) → Ex G Φ 5 7 [some (2, 110), some (0, cut), some (0, idl), some (0, 8), none] [] SHl μ' 0 0) : ∀ (m : Nat) (k : Int) (μ : Mem), 0 ≤ k → k + m = 8 → Off FR μ0 μ → μ 110 29 = 0 → (∀ w, 0 ≤ w → w < k → rr μ 121 w = (0, 1)) → Ex G Φ 5 7 [some (2, 110), some (0, cut), some (0, idl), some (0, k), none] [] SHl μ 0 0 := by
  intro m
  induction m with
  | zero =>
    intro k μ h0 hk of fl hz
    obtain rfl : k = 8 := by omega
    exact K μ of fl hz
  | succ m ih =>
    intro k μ h0 hk of fl hz
    have wf := off_wf8 wf0 of
    refine bX8_findRates_7 hΦ hR ⟨⟨by omega, by omega⟩, fun c => absurd c (by omega), fun _ => ⟨so_110, ?_⟩⟩
    rw [wf_110_27 wf]
    refine ⟨ai_122 h0 (by omega), ?_⟩
    rintro m5 e5'
    rw [show m5 110 28 = 123 by rw [e5', mu_off2 (by omega)]; exact wf_110_28 wf]
    refine ⟨ai_123 h0 (by omega), ?_⟩
    rintro m7 e7
    have k7 : m7 = mu (mu μ 122 k 0) 123 k 1 := by rw [e7, e5']
    refine ih (k + 1) m7 (by omega) (by omega) (by rw [k7]; exact Off.mu (Off.mu of (by unfold FR; omega)) (by unfold FR; omega)) (by rw [k7, mu_off2 (by omega), mu_off2 (by omega)]; exact fl) (fun w w0 w1 => ?_)
    by_cases c : w = k
    · subst c
      refine Prod.ext ?_ ?_
      · rw [rr1, k7, mu_off2 (by omega), mu_same]
      · rw [rr2, k7, mu_same]
    · have := hz w w0 (by omega)
      rw [← this]
      refine Prod.ext ?_ ?_
      · rw [rr1, k7, mu_off2 (by omega), mu_off2 (by omega), rr1]
      · rw [rr2, k7, mu_off2 (by omega), mu_off2 (by omega), rr2]
theorem c8_find1 {G : Gm} {Q : Mem → Prop} {μ0 : Mem} {cut idl nw drv R : Int} (rp : RP8 μ0 cut idl nw drv R) (h : ∀ μ', RFQ μ0 cut idl nw drv R μ' → Q μ') : Cv G mX8_findRates [(2, 110), (0, cut), (0, idl)] SHl μ0 Q := by
  have rp' := rp
  obtain ⟨wf0, ⟨e2, e5, e6⟩, ⟨n0, n8⟩, hT, hE, hRR, hd, hc, hi, hl3, hn⟩ := rp
  refine eX8_findRates (fun Φ hΦ hR => bX8_findRates_0 hΦ hR ⟨so_110, ?_⟩)
  rintro m2 hm2
  refine find7 hΦ hR wf0 (fun μ of fl hz => ?_) 8 0 m2 (by decide) (by decide) (by rw [hm2]; exact Off.mu Off.rf (by unfold FR; omega)) (by rw [hm2, mu_same]) (fun w w0 w1 => by omega)
  have wf := off_wf8 wf0 of
  have g2 : μ 110 2 = nw := (of 110 2 (by unfold FR; omega)).trans e2
  have g5 : μ 110 5 = drv := (of 110 5 (by unfold FR; omega)).trans e5
  have g6 : μ 110 6 = R := (of 110 6 (by unfold FR; omega)).trans e6
  refine bX8_findRates_7 hΦ hR ⟨⟨by decide, by decide⟩, fun _ => ⟨so_110, by rw [g2]; exact ⟨by omega, by omega⟩, fun c => absurd c (by omega), fun _ => ?_⟩, fun c => absurd (by decide) c⟩
  rw [wf_110_27 wf, g5, g6]
  refine ⟨⟨by omega, by omega⟩, ai_122 hd.1 (by omega), ?_⟩
  rintro m6 hm6
  have er : rr m6 121 = ru (rr μ 121) drv (R, 1) := by
    funext z
    unfold ru
    by_cases cz : z = drv
    · subst cz
      rw [if_pos rfl]
      refine Prod.ext ?_ ?_
      · rw [rr1, hm6, mu_same]
      · rw [rr2, hm6, mu_off2 (by omega)]
        exact congrArg Prod.snd (hz z hd.1 (by omega))
    · rw [if_neg cz]
      refine Prod.ext ?_ ?_
      · rw [rr1, hm6, mu_off2 (by omega), rr1]
      · rw [rr2, hm6, mu_off2 (by omega), rr2]
  refine find56 hΦ hR rp' h (nw.toNat + 1) 0 m6 [drv] (by decide) (by omega) (by rw [hm6]; exact of.mu (by unfold FR; omega)) (by rw [er]; exact Tree.one hRR hd (fun w w0 w1 => hz w w0 (by omega))) (Or.inl (by rw [hm6, mu_off2 (by omega)]; exact fl)) (Or.inl (by simp))
/-- without a wheel -/
theorem c8_find0 {G : Gm} {Q : Mem → Prop} {μ0 : Mem} {cut idl drv R : Int} (wf0 : WF μ0) (e2 : μ0 110 2 = 0) (e3 : μ0 110 3 = 0) (e30 : μ0 110 30 = 0) (hc : R32 cut) (h : ∀ μ', RFQ μ0 cut idl 0 drv R μ' → Q μ') : Cv G mX8_findRates [(2, 110), (0, cut), (0, idl)] SHl μ0 Q := by
  refine eX8_findRates (fun Φ hΦ hR => bX8_findRates_0 hΦ hR ⟨so_110, ?_⟩)
  rintro m2 hm2
  refine find7 hΦ hR wf0 (fun μ of fl hz => ?_) 8 0 m2 (by decide) (by decide) (by rw [hm2]; exact Off.mu Off.rf (by unfold FR; omega)) (by rw [hm2, mu_same]) (fun w w0 w1 => by omega)
  have g2 : μ 110 2 = 0 := (of 110 2 (by unfold FR; omega)).trans e2
  have g3 : μ 110 3 = 0 := (of 110 3 (by unfold FR; omega)).trans e3
  have g30 : μ 110 30 = 0 := (of 110 30 (by unfold FR; omega)).trans e30
  have fin : Ex G Φ 5 56 [some (2, 110), some (0, cut), some (0, idl), some (0, 0 + 1), none] [] SHl μ 0 0 := by
    refine bX8_findRates_56 hΦ hR ⟨so_110, ⟨by decide, by decide⟩, by rw [g2]; exact R32_0, fun _ => ?_, fun c => absurd (by rw [g2]; decide) c⟩
    refine bX8_findRates_105 hΦ hR ⟨⟨by decide, by decide⟩, fun c => absurd c (by decide), fun _ => ⟨so_110, by rw [fl]; exact R32_0, fun _ => h μ ⟨of, ?_⟩, fun c => absurd fl c⟩⟩
    rw [fl]
    exact Or.inl ⟨rfl, fun c => absurd c (by decide), fun w w0 w1 => by omega, fun w w0 w1 => by omega⟩
  have loop : ∀ (m : Nat) (l : Int), 0 ≤ l → l + m = 21 → Ex G Φ 5 67 [some (2, 110), some (0, cut), some (0, idl), some (0, 0), some (0, l)] [] SHl μ 0 0 := by
    intro m
    induction m with
    | zero =>
      intro l h0 hl
      obtain rfl : l = 21 := by omega
      exact bX8_findRates_67 hΦ hR ⟨⟨by decide, by decide⟩, fun _ => fin, fun c => absurd (by decide) c⟩
    | succ m ih =>
      intro l h0 hl
      refine bX8_findRates_67 hΦ hR ⟨⟨by omega, by omega⟩, fun c => absurd c (by omega), fun _ => ⟨so_110, c8_isOn h0 (by omega) hc (by omega) (Or.inl g30) (fun on => ?_) (fun off => ⟨R32_0, fun _ => ih (l + 1) (by omega) (by omega), fun c => absurd rfl c⟩)⟩⟩
      unfold on8 at on
      omega
  refine bX8_findRates_7 hΦ hR ⟨⟨by decide, by decide⟩, fun _ => ⟨so_110, by rw [g2]; exact R32_0, fun _ => ?_, fun c => absurd (by rw [g2]; decide) c⟩, fun c => absurd (by decide) c⟩
  exact bX8_findRates_56 hΦ hR ⟨so_110, ⟨by decide, by decide⟩, by rw [g2]; exact R32_0, fun c => absurd c (by rw [g2]; decide), fun _ => loop 21 0 (by decide) (by decide)⟩
