/-! RATES as the reference finds them: sweep by sweep -/
def FR (k i : Int) : Prop := k = 122 ∨ k = 123 ∨ (k = 110 ∧ i = 29)
def on8 (μ : Mem) (cut l : Int) : Prop := (l = 20 ∧ μ 110 30 = 1) ∨ (l ≠ 20 ∧ l < μ 110 3 ∧ bt_ cut l = 0)
def kd8 (μ : Mem) (idl l : Int) : Int := if μ 115 l = 0 ∧ l < 20 ∧ bt_ idl l = 1 then 1 else μ 115 l
def E8 (μ : Mem) (cut idl : Int) : Int → Int → Int → Prop := Edg 21 (on8 μ cut) (kd8 μ idl) (μ 116) (μ 117)
def RP8 (μ : Mem) (cut idl nw drv R : Int) : Prop := WF μ ∧ (μ 110 2 = nw ∧ μ 110 5 = drv ∧ μ 110 6 = R) ∧ (0 < nw ∧ nw ≤ 8) ∧ (∀ w, 0 ≤ w → w < nw → 3 ≤ μ 113 w ∧ μ 113 w ≤ 30)
  ∧ (∀ l, 0 ≤ l → l < 21 → on8 μ cut l → (μ 115 l = 0 ∨ μ 115 l = 1 ∨ μ 115 l = 2) ∧ (0 ≤ μ 116 l ∧ μ 116 l < nw) ∧ (0 ≤ μ 117 l ∧ μ 117 l < nw) ∧ μ 116 l ≠ μ 117 l)
  ∧ (1 ≤ R ∧ R ≤ 30) ∧ (0 ≤ drv ∧ drv < nw) ∧ R32 cut ∧ R32 idl ∧ (0 ≤ μ 110 3 ∧ μ 110 3 ≤ 20) ∧ (μ 110 30 = 0 ∨ μ 110 30 = 1)
theorem off_wf8 {μ0 μ : Mem} (wf : WF μ0) (h : Off FR μ0 μ) : WF μ := wf_sm wf (fun k i d => h k i (by unfold dF at d; unfold FR; omega))
theorem c8_isOn {G : Gm} {μ : Mem} {Q : Int → Mem → Prop} {l cut : Int} (h0 : 0 ≤ l) (h1 : l < 21) (hc : R32 cut) (hl : 0 ≤ μ 110 3 ∧ μ 110 3 ≤ 20) (hn : μ 110 30 = 0 ∨ μ 110 30 = 1) (k1 : on8 μ cut l → Q 1 μ) (k0 : ¬ on8 μ cut l → Q 0 μ) : Ci G mX8_isOn [(2, 110), (0, l), (0, cut)] SHl μ Q := by
  refine eX8_isOn (fun Φ hΦ hR => bX8_isOn_0 hΦ hR ⟨⟨by omega, by omega⟩, fun c => ⟨so_110, ⟨by omega, by omega⟩, fun d => k0 (by unfold on8; omega), fun d => c_m_has hc h0 (by omega) ⟨R32_one (bt_rg _ _), fun e => k0 (by unfold on8; omega), fun e => k1 (by unfold on8; omega)⟩⟩, fun c => ⟨so_110, by omega, by omega, ?_⟩⟩)
  rcases hn with e | e
  · rw [e]; exact k0 (by unfold on8; omega)
  · rw [e]; exact k1 (by unfold on8; omega)
def BD8 (μ0 : Mem) (cut idl drv R : Int) (μ : Mem) : Prop := μ 110 29 = 0 ∨ (μ 110 29 = 1 ∧ ¬ ∃ ρ', Fit (μ0 113) drv R (E8 μ0 cut idl) ρ')
/-- what one turn of the reference leaves -/
def TQ (μ0 : Mem) (cut idl nw drv R k x y : Int) (L : List Int) (μ μ' : Mem) : Prop :=
  Off FR μ μ' ∧ ∃ t, Tree (μ0 113) (E8 μ0 cut idl) drv R nw (rr μ' 121) (L ++ t) ∧ (∀ z ∈ L, rr μ' 121 z = rr μ 121 z) ∧ y ∈ L ++ t ∧ (y ∈ L → t = []) ∧ BD8 μ0 cut idl drv R μ' ∧ (μ' 110 29 = 0 → μ 110 29 = 0 ∧ rr μ' 121 y = stp (μ0 113) k x y (rr μ 121 x))
theorem rr_flag {μ : Mem} {v : Int} : rr (mu μ 110 29 v) 121 = rr μ 121 := by funext z; unfold rr; rw [mu_off2 (by omega), mu_off2 (by omega)]
theorem rr1 {μ : Mem} {z : Int} : (rr μ 121 z).1 = μ 122 z := rfl
theorem rr2 {μ : Mem} {z : Int} : (rr μ 121 z).2 = μ 123 z := rfl
theorem c8_turn96 {G : Gm} {Φ : Fr} {Q : Mem → Prop} (hΦ : St G Φ cX8_turn RX8 12 2 50 0 0) (hR : Rt G Φ (Pv SHl Q) 0 0 none) {μ0 μ : Mem} {cut idl nw drv R k x y x1 x4 x5 x6 x8 : Int} {L : List Int} (rp : RP8 μ0 cut idl nw drv R) (of : Off FR μ0 μ) (mo : Tree (μ0 113) (E8 μ0 cut idl) drv R nw (rr μ 121) L) (bd : BD8 μ0 cut idl drv R μ) (hx : x ∈ L) (h0 : 0 ≤ y) (h1 : y < nw) (hk : k = 0 ∨ k = 1 ∨ k = 2) (he : E8 μ0 cut idl k x y ∨ E8 μ0 cut idl k y x)
    (b6 : -1000000000000 ≤ x6 ∧ x6 ≤ 1000000000000) (b8 : 1 ≤ x8 ∧ x8 ≤ 1000000000000) (q1 : Int.tdiv x6 (Int.gcd x8 x6 : Int) = (stp (μ0 113) k x y (rr μ 121 x)).1) (q2 : Int.tdiv x8 (Int.gcd x8 x6 : Int) = (stp (μ0 113) k x y (rr μ 121 x)).2) (h : ∀ μ', TQ μ0 cut idl nw drv R k x y L μ μ' → Q μ') :
    Ex G Φ 12 96 [some (2, 110), some (0, x1), some (0, x), some (0, y), some (0, x4), some (0, x5), some (1, x6), none, some (1, x8), none, none, none] [] SHl μ 0 0 := by
  have rp' := rp
  obtain ⟨wf0, ⟨e2, e5, e6⟩, ⟨n0, n8⟩, hT, hE, hRR, hd, hc, hi, hl, hn⟩ := rp
  have wf := off_wf8 wf0 of
  have gr := gcd_r (a := x8) (b := x6) (by omega) (B := 1000000000000) ⟨by omega, by omega⟩
  obtain ⟨g1, g2, g3, g4, g5⟩ := mo.st n8 hT hx h0 h1 hk he
  obtain ⟨y1, y2, y3, y4, y5⟩ := mo.gd' n8 h0 h1
  have y2 : 1 ≤ μ 123 y := y2
  have y3 : μ 123 y ≤ 810000 := y3
  have y4 : -24300000 ≤ μ 122 y := y4
  have y5 : μ 122 y ≤ 24300000 := y5
  have nzy : y ∈ L ↔ μ 122 y ≠ 0 := mo.nz h0 h1
  have bad : μ 122 y ≠ 0 → rr μ 121 y ≠ stp (μ0 113) k x y (rr μ 121 x) → Q (mu μ 110 29 1) := fun hy hne => h _ ⟨Off.mu Off.rf (by unfold FR; omega), [], by rw [List.append_nil, rr_flag]; exact mo, fun z _ => by rw [rr_flag], List.mem_append_left _ (nzy.mpr hy), fun _ => rfl, Or.inr ⟨mu_same, mo.bad hx (nzy.mpr hy) he hne⟩, fun c => by rw [mu_same] at c; omega⟩
  refine bX8_turn_96 hΦ hR (c_m_common ⟨by omega, by omega⟩ ⟨by omega, by omega⟩ ⟨⟨by omega, by omega⟩, ⟨by omega, by omega⟩, by omega, ⟨by omega, by omega⟩, so_110, ?_⟩)
  rw [q1, q2, wf_110_27 wf, wf_110_28 wf]
  refine ⟨ai_122 h0 (by omega), ⟨by omega, by omega⟩, fun c => ⟨?_, fun d => ?_, fun d => ⟨⟨by omega, by omega⟩, fun e => ?_, fun e => ⟨ai_123 h0 (by omega), ⟨by omega, by omega⟩, ⟨by omega, by omega⟩, fun f => ?_, fun f => ?_⟩⟩⟩, fun c => ?_⟩
  · rcases bd with e | ⟨e, _⟩ <;> rw [e] <;> exact ⟨by decide, by decide⟩
  · rintro _ rfl
    rcases bd with e | ⟨e, hf⟩
    · exact absurd e d
    · exact h _ ⟨Off.mu Off.rf (by unfold FR; omega), [], by rw [List.append_nil, rr_flag]; exact mo, fun z _ => by rw [rr_flag], List.mem_append_left _ (nzy.mpr c), fun _ => rfl, Or.inr ⟨mu_same, hf⟩, fun c => by rw [mu_same] at c; omega⟩
  · rintro _ rfl
    exact bad c (fun q => e (congrArg Prod.fst q))
  · rintro _ rfl
    exact h _ ⟨Off.mu Off.rf (by unfold FR; omega), [], by rw [List.append_nil, rr_flag]; exact mo, fun z _ => by rw [rr_flag], List.mem_append_left _ (nzy.mpr c), fun _ => rfl, Or.inl mu_same, fun _ => ⟨d, by rw [rr_flag]; exact Prod.ext e f⟩⟩
  · rintro _ rfl
    exact bad c (fun q => f (congrArg Prod.snd q))
  · rintro m18 e18
    have hy : y ∉ L := fun q => (nzy.mp q) c
    rw [show m18 110 28 = 123 by rw [e18, mu_off2 (by omega)]; exact wf_110_28 wf]
    refine ⟨ai_123 h0 (by omega), ?_⟩
    rintro m20 e20
    have er : rr m20 121 = ru (rr μ 121) y (stp (μ0 113) k x y (rr μ 121 x)) := by
      funext z
      rw [e20, e18]
      unfold ru
      by_cases cz : z = y
      · subst cz
        rw [if_pos rfl]
        refine Prod.ext ?_ ?_
        · rw [rr1, mu_off2 (by omega), mu_same]
        · rw [rr2, mu_same]
      · rw [if_neg cz]
        refine Prod.ext ?_ ?_
        · rw [rr1, mu_off2 (by omega), mu_off2 (by omega), rr1]
        · rw [rr2, mu_off2 (by omega), mu_off2 (by omega), rr2]
    have e29 : m20 110 29 = μ 110 29 := by rw [e20, e18, mu_off2 (by omega), mu_off2 (by omega)]
    refine h _ ⟨by rw [e20, e18]; exact Off.mu (Off.mu Off.rf (by unfold FR; omega)) (by unfold FR; omega), [y], by rw [er]; exact mo.add hT hx hy h0 h1 hk he, fun z hz => ?_, by simp, fun c => absurd c hy, ?_, fun c => ⟨by rw [← e29]; exact c, ?_⟩⟩
    · rw [er]; unfold ru; rw [if_neg (fun q : z = y => hy (q ▸ hz))]
    · unfold BD8; rw [e29]; exact bd
    · rw [er]; unfold ru; rw [if_pos rfl]
theorem gcd_1 {a b : Int} (h : Int.gcd a b = 1) : Int.tdiv a (Int.gcd b a : Int) = a ∧ Int.tdiv b (Int.gcd b a : Int) = b := by
  rw [Int.gcd_comm, h]
  exact ⟨Int.tdiv_one a, Int.tdiv_one b⟩
theorem c8_turn {G : Gm} {Q : Mem → Prop} {μ0 μ : Mem} {cut idl nw drv R l x y : Int} {L : List Int} (rp : RP8 μ0 cut idl nw drv R) (of : Off FR μ0 μ) (mo : Tree (μ0 113) (E8 μ0 cut idl) drv R nw (rr μ 121) L) (bd : BD8 μ0 cut idl drv R μ) (hx : x ∈ L) (h0 : 0 ≤ l) (h1 : l < 21) (ho : on8 μ0 cut l) (hy : (μ0 116 l = x ∧ μ0 117 l = y) ∨ (μ0 117 l = x ∧ μ0 116 l = y)) (h : ∀ μ', TQ μ0 cut idl nw drv R (kd8 μ0 idl l) x y L μ μ' → Q μ') : Cv G mX8_turn [(2, 110), (0, l), (0, x), (0, y), (0, idl)] SHl μ Q := by
  have rp' := rp
  obtain ⟨wf0, ⟨e2, e5, e6⟩, ⟨n0, n8⟩, hT, hE, hRR, hd, hc, hi, hl, hn⟩ := rp
  obtain ⟨ek, ea, eb, ene⟩ := hE l h0 h1 ho
  have wf := off_wf8 wf0 of
  have hyr : 0 ≤ y ∧ y < nw := by rcases hy with ⟨_, rfl⟩ | ⟨_, rfl⟩; exact eb; exact ea
  have he : E8 μ0 cut idl (kd8 μ0 idl l) x y ∨ E8 μ0 cut idl (kd8 μ0 idl l) y x := by
    rcases hy with ⟨rfl, rfl⟩ | ⟨rfl, rfl⟩
    · exact Or.inl ⟨l, h0, h1, ho, rfl, rfl, rfl⟩
    · exact Or.inr ⟨l, h0, h1, ho, rfl, rfl, rfl⟩
  obtain ⟨x0, x1, ⟨d, _, hdep⟩, _⟩ := mo.2.2.2.1 x hx
  have nz : μ 122 x ≠ 0 := hdep.2.1
  obtain ⟨g1, g2, g3, g4, g5⟩ := mo.gd n8 hx
  have g1 : Int.gcd (μ 122 x) (μ 123 x) = 1 := g1
  have g2 : 1 ≤ μ 123 x := g2
  have g3 : μ 123 x ≤ 810000 := g3
  have g4 : -24300000 ≤ μ 122 x := g4
  have g5 : μ 122 x ≤ 24300000 := g5
  have tx := hT x x0 x1
  have ty := hT y hyr.1 hyr.2
  have w115 : μ 115 = μ0 115 := by funext i; exact of _ _ (by unfold FR; omega)
  have w113 : μ 113 = μ0 113 := by funext i; exact of _ _ (by unfold FR; omega)
  have le21 : l ≤ 20 := by omega
  have at52 : ∀ (Φ : Fr), St G Φ cX8_turn RX8 12 2 50 0 0 → Rt G Φ (Pv SHl Q) 0 0 none → ∀ (x5 : Int), (μ0 115 l ≠ 0 ∨ kd8 μ0 idl l = 1) → Ex G Φ 12 52 [some (2, 110), some (0, l), some (0, x), some (0, y), some (0, idl), some (0, x5), none, none, none, none, none, none] [(1, μ 122 x)] SHl μ 0 0 := by
    intro Φ hΦ hR x5 hq
    refine bX8_turn_52 hΦ hR ⟨so_110, ?_⟩
    rw [wf_110_28 wf, wf_110_15 wf, wf_110_13 wf, w115, w113]
    refine ⟨ai_123 x0 (by omega), ai_115 h0 (by omega), ⟨by omega, by omega⟩, fun c => ?_, fun c => ⟨ai_113 hyr.1 (by omega), ⟨by omega, by omega⟩, ai_113 x0 (by omega), ⟨by omega, by omega⟩, ?_⟩⟩
    · have k1 : kd8 μ0 idl l = 1 := by
        unfold kd8 at hq ⊢
        split at hq <;> omega
      rw [k1] at he h
      have q := gcd_1 g1
      exact c8_turn96 (k := 1) hΦ hR rp' of mo bd hx hyr.1 hyr.2 (Or.inr (Or.inl rfl)) he ⟨by omega, by omega⟩ ⟨by omega, by omega⟩ q.1 q.2 h
    · have k2 : kd8 μ0 idl l = 2 := by unfold kd8; rw [if_neg (by omega)]; exact c
      rw [k2] at he h
      have b1 := bd_mul (a := μ 122 x) (b := μ0 113 y) (A := 24300000) (B := 30) ⟨g4, g5⟩ ⟨by omega, by omega⟩ (by decide)
      have b2 := bd_mul (a := μ 123 x) (b := μ0 113 x) (A := 810000) (B := 30) ⟨by omega, by omega⟩ ⟨by omega, by omega⟩ (by decide)
      have p2 : 0 < μ 123 x * μ0 113 x := Int.mul_pos (by omega) (by omega)
      have gp : 0 < Int.gcd (μ 123 x * μ0 113 x) (μ 122 x * μ0 113 y) := Int.gcd_pos_of_ne_zero_left _ (by omega)
      refine c8_turn96 (k := 2) hΦ hR rp' of mo bd hx hyr.1 hyr.2 (Or.inr (Or.inr rfl)) he ⟨by omega, by omega⟩ ⟨by omega, by omega⟩ ?_ ?_ h
      · rw [tdiv_dvd (Int.gcd_dvd_right ..) (by omega), Int.gcd_comm]; rfl
      · rw [tdiv_dvd (Int.gcd_dvd_left ..) (by omega), Int.gcd_comm]; rfl
  have at24 : ∀ (Φ : Fr), St G Φ cX8_turn RX8 12 2 50 0 0 → Rt G Φ (Pv SHl Q) 0 0 none → kd8 μ0 idl l = 0 → μ0 115 l = 0 → Ex G Φ 12 24 [some (2, 110), some (0, l), some (0, x), some (0, y), some (0, idl), none, none, none, none, none, none, none] [] SHl μ 0 0 := by
    intro Φ hΦ hR k0 k115
    refine bX8_turn_24 hΦ hR ⟨so_110, ?_⟩
    rw [wf_110_27 wf]
    refine ⟨ai_122 x0 (by omega), bX8_turn_52 hΦ hR ⟨so_110, ?_⟩⟩
    rw [wf_110_28 wf, wf_110_15 wf, w115]
    refine ⟨ai_123 x0 (by omega), ai_115 h0 (by omega), ⟨by omega, by omega⟩, fun c => ?_, fun c => absurd (k115.symm.trans c) (by decide)⟩
    rw [k0] at he h
    have q := gcd_1 (a := -(μ 122 x)) (b := μ 123 x) (by rw [Int.neg_gcd]; exact g1)
    exact c8_turn96 (k := 0) hΦ hR rp' of mo bd hx hyr.1 hyr.2 (Or.inl rfl) he ⟨by omega, by omega⟩ ⟨by omega, by omega⟩ q.1 q.2 h
  refine eX8_turn (fun Φ hΦ hR => bX8_turn_0 hΦ hR ⟨so_110, ?_⟩)
  rw [wf_110_15 wf, w115]
  refine ⟨ai_115 h0 (by omega), ⟨by omega, by omega⟩, fun c => ?_, fun c => ⟨⟨by omega, by omega⟩, fun c1 => ?_, fun c1 => ?_⟩⟩
  · rw [wf_110_27 wf]
    exact ⟨ai_122 x0 (by omega), at52 Φ hΦ hR 0 (Or.inl c)⟩
  · exact at24 Φ hΦ hR (by unfold kd8; rw [if_neg (by omega)]; exact c) c
  · refine c_m_has hi h0 (by omega) ⟨R32_one (bt_rg _ _), fun c2 => ?_, fun c2 => ?_⟩
    · rw [wf_110_27 wf]
      have := bt_rg idl l
      exact ⟨ai_122 x0 (by omega), at52 Φ hΦ hR 0 (Or.inr (by unfold kd8; rw [if_pos (by omega)]))⟩
    · exact at24 Φ hΦ hR (by unfold kd8; rw [if_neg (by omega)]; exact c) c
