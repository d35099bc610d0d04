/-! A PLACE in so many days -/
theorem ediv_bd {x y B : Int} (hy : 1 ≤ y) (h : -B ≤ x ∧ x ≤ B) (hB : 0 ≤ B) : -B ≤ x / y ∧ x / y ≤ B := by
  have h1 : x / y * y ≤ x := Int.ediv_mul_le x (by omega)
  have h2 : x < (x / y + 1) * y := Int.lt_ediv_add_one_mul_self x (by omega)
  generalize x / y = q at *
  constructor
  · rcases Int.lt_or_le q (-B) with c | c
    · have : (q + 1) * y ≤ (q + 1) * 1 := Int.mul_le_mul_of_nonpos_left (by omega) hy
      omega
    · exact c
  · rcases Int.lt_or_le B q with c | c
    · have : q * 1 ≤ q * y := Int.mul_le_mul_of_nonneg_left hy (by omega)
      omega
    · exact c
def plc (μ : Mem) (w n : Int) : Int := (μ 30 w + (μ 22 w * (μ 29 0 - μ 29 1 + n)) / μ 23 w) % μ (wW μ + 1) w
def plc8 (μ : Mem) (w n : Int) : Int := (μ 111 w + (μ 122 w * (μ 111 8 - μ 111 9 + n)) / μ 123 w) % μ 113 w
theorem rate_bd {a b n : Int} (g : Gd (a, b)) (hn : 0 ≤ n ∧ n ≤ 1100000) : (-26730000000000 ≤ a * n ∧ a * n ≤ 26730000000000) ∧ -26730000000000 ≤ a * n / b ∧ a * n / b ≤ 26730000000000 := by
  obtain ⟨-, g2, g3, g4, g5⟩ := g
  have b1 := bd_mul (a := a) (b := n) (A := 24300000) (B := 1100000) ⟨g4, g5⟩ hn (by decide)
  have b1 : -26730000000000 ≤ a * n ∧ a * n ≤ 26730000000000 := ⟨by omega, by omega⟩
  exact ⟨b1, ediv_bd g2 b1 (by decide)⟩
theorem c7_turnedIn {G : Gm} {Q : Int → Mem → Prop} {μ : Mem} {w n : Int} (wf : WF μ) (h0 : 0 ≤ w) (h1 : w < 8) (hg : Gd (μ 22 w, μ 23 w)) (hn : 0 ≤ n ∧ n ≤ 1100000) (h : Q (μ 22 w * n / μ 23 w) μ) : Cj G mX7_turnedIn [(2, 0), (0, w), (1, n)] SHl μ Q := by
  have r := rate_bd hg hn
  obtain ⟨-, g2, g3, g4, g5⟩ := hg
  have g2 : 1 ≤ μ 23 w := g2
  have g3 : μ 23 w ≤ 810000 := g3
  refine eX7_turnedIn (fun Φ hΦ hR => bX7_turnedIn_0 hΦ hR ⟨so_0, ?_⟩)
  rw [wf_0_3 wf, wf_21_0 wf, wf_21_1 wf]
  exact ⟨so_21, ai_22 h0 h1, ai_23 h0 h1, c_floorPart ⟨by omega, by omega⟩ (by omega) (by omega) h⟩
theorem c7_placeR {G : Gm} {Q : Int → Mem → Prop} {μ : Mem} {w n : Int} (wf : WF μ) (hW : isW (wW μ)) (h0 : 0 ≤ w) (h1 : w < 8) (hT : 3 ≤ μ (wW μ + 1) w ∧ μ (wW μ + 1) w ≤ 30) (hg : Gd (μ 22 w, μ 23 w)) (hp : 0 ≤ μ 30 w ∧ μ 30 w ≤ 1000) (hd : 0 ≤ μ 29 1 ∧ μ 29 1 ≤ μ 29 0 ∧ μ 29 0 ≤ 1000000) (hn : 0 ≤ n ∧ n ≤ 100000) (h : Q (plc μ w n) μ) : Ci G mX7_placeIn [(2, 0), (0, w), (0, n)] SHl μ Q := by
  have r := rate_bd (n := μ 29 0 - μ 29 1 + n) hg ⟨by omega, by omega⟩
  refine eX7_placeIn (fun Φ hΦ hR => bX7_placeIn_0 hΦ hR ⟨so_0, ?_⟩)
  rw [wf_0_5 wf, wf_29_3 wf]
  refine ⟨so_29, ⟨by omega, by omega⟩, ⟨by omega, by omega⟩, ⟨by omega, by omega⟩, ai_30 h0 h1, ⟨by omega, by omega⟩, c7_turnedIn wf h0 h1 hg ⟨by omega, by omega⟩ ⟨so_W hW, ?_⟩⟩
  rw [wf_W5 wf hW]
  exact ⟨ai_W1 hW h0 h1, ⟨by omega, by omega⟩, c_leftOver ⟨by omega, by omega⟩ (by omega) (by omega) h⟩
theorem c8_placeR {G : Gm} {Q : Int → Mem → Prop} {μ : Mem} {w n : Int} (wf : WF μ) (h0 : 0 ≤ w) (h1 : w < 8) (hT : 3 ≤ μ 113 w ∧ μ 113 w ≤ 30) (hg : Gd (μ 122 w, μ 123 w)) (hp : 0 ≤ μ 111 w ∧ μ 111 w ≤ 1000) (hd : 0 ≤ μ 111 9 ∧ μ 111 9 ≤ μ 111 8 ∧ μ 111 8 ≤ 1000000) (hn : 0 ≤ n ∧ n ≤ 100000) (h : Q (plc8 μ w n) μ) : Ci G mX8_placeIn [(2, 110), (0, w), (1, n)] SHl μ Q := by
  have r := rate_bd (n := μ 111 8 - μ 111 9 + n) hg ⟨by omega, by omega⟩
  obtain ⟨-, g2, g3, g4, g5⟩ := hg
  have g2 : 1 ≤ μ 123 w := g2
  have g3 : μ 123 w ≤ 810000 := g3
  refine eX8_placeIn (fun Φ hΦ hR => bX8_placeIn_0 hΦ hR ⟨so_110, ?_⟩)
  rw [wf_110_0 wf, wf_110_27 wf, wf_110_28 wf]
  refine ⟨ai_111 h0 (by omega), ⟨by omega, by omega⟩, ai_122 h0 h1, ai_111 (by decide) (by decide), ai_111 (by decide) (by decide), ⟨by omega, by omega⟩, ai_123 h0 h1, c_m_down ⟨by omega, by omega⟩ (by omega) (by omega) ?_⟩
  rw [wf_110_13 wf]
  exact ⟨ai_113 h0 (by omega), c_m_over ⟨by omega, by omega⟩ (by omega) (by omega) h⟩
theorem Inv.T {μ : Mem} (h : Inv μ) {w : Int} (h0 : 0 ≤ w) (h1 : w < nW μ) : μ (wW μ + 1) w = μ 113 w ∧ 3 ≤ μ (wW μ + 1) w ∧ μ (wW μ + 1) w ≤ 30 := h.2.1.2.2.2.2.2.2.2.1 w h0 h1
theorem Inv.G {μ : Mem} (h : Inv μ) {w : Int} (h0 : 0 ≤ w) (h1 : w < nW μ) : Gd (μ 22 w, μ 23 w) ∧ (μ 22 w = 0 → μ 23 w = 1) := by
  have := RS_gd h.2.2.2.2.2.2.2.1 w h0 h1
  exact ⟨this.1, fun c => congrArg Prod.snd (this.2 c)⟩
theorem IN.N {μ : Mem} (h : IN μ) : (μ 29 0 = μ 111 8 ∧ μ 29 1 = μ 111 9 ∧ μ 29 2 = μ 111 10) ∧ (0 ≤ μ 29 1 ∧ μ 29 1 ≤ μ 29 0 ∧ μ 29 0 ≤ 910000) ∧ ∀ i, 0 ≤ i → i < nW μ → μ 30 i = μ 111 i ∧ 0 ≤ μ 30 i ∧ μ 30 i < μ (wW μ + 1) i := by
  obtain ⟨⟨⟨d0, d1, d2⟩, n2, n3, n4⟩, _⟩ := h
  refine ⟨⟨d0, d1, d2⟩, n2, fun i h0 h1 => ?_⟩
  have := n4 i h0 h1
  rw [Int.zero_add] at this
  exact this
theorem plc_rg {μ : Mem} (h : Inv μ) {w n : Int} (h0 : 0 ≤ w) (h1 : w < nW μ) : 0 ≤ plc μ w n ∧ plc μ w n < μ (wW μ + 1) w := by
  have := h.T h0 h1
  exact ⟨Int.emod_nonneg _ (by omega), Int.emod_lt_of_pos _ (by omega)⟩
theorem c7_place {G : Gm} {Q : Int → Mem → Prop} {μ : Mem} {w n : Int} (h : Inv μ) (h0 : 0 ≤ w) (h1 : w < nW μ) (hn : 0 ≤ n ∧ n ≤ 100000) (k : Q (plc μ w n) μ) : Ci G mX7_placeIn [(2, 0), (0, w), (0, n)] SHl μ Q := by
  have hT := h.T h0 h1
  have hg := (h.G h0 h1).1
  obtain ⟨wf, iw, ir, inn, idd, ii, il, im⟩ := h; have hW : wW μ = 3 ∨ wW μ = 12 := iw.1; have hnW := iw.2.2.1; have hnL := iw.2.2.2.1; have hnF := iw.2.2.2.2.1
  obtain ⟨-, n2, n4⟩ := inn.N
  have := n4 w h0 h1
  exact c7_placeR wf iw.1 h0 (by omega) hT.2 hg ⟨by omega, by omega⟩ ⟨by omega, by omega, by omega⟩ hn k
theorem plc8_eq {μ μ' : Mem} (h : Inv μ) (r : RN μ μ') {w n : Int} (h0 : 0 ≤ w) (h1 : w < nW μ) : plc8 μ' w n = plc μ w n := by
  have hT := h.T h0 h1
  obtain ⟨wf, iw, ir, inn, idd, ii, il, im⟩ := h; have hW : wW μ = 3 ∨ wW μ = 12 := iw.1; have hnW := iw.2.2.1; have hnL := iw.2.2.2.1; have hnF := iw.2.2.2.2.1
  obtain ⟨⟨d0, d1, d2⟩, n2, n4⟩ := inn.N
  have p := (n4 w h0 h1).1
  obtain ⟨of, rt, fl⟩ := r
  unfold plc8 plc
  rw [(rt w h0 h1).1, (rt w h0 h1).2, of 111 w (by unfold FR' FR; omega), of 111 8 (by unfold FR' FR; omega), of 111 9 (by unfold FR' FR; omega), of 113 w (by unfold FR' FR; omega), ← hT.1, p, d0, d1]
theorem c8_place {G : Gm} {Q : Int → Mem → Prop} {μ μ' : Mem} {w n : Int} (h : Inv μ) (r : RN μ μ') (h0 : 0 ≤ w) (h1 : w < nW μ) (hn : 0 ≤ n ∧ n ≤ 100000) (k : Q (plc μ w n) μ') : Ci G mX8_placeIn [(2, 110), (0, w), (1, n)] SHl μ' Q := by
  have hT := h.T h0 h1
  have hg := (h.G h0 h1).1
  rw [← plc8_eq h r h0 h1] at k
  have h' := RN_inv h r
  obtain ⟨wf, iw, ir, inn, idd, ii, il, im⟩ := h; have hW : wW μ = 3 ∨ wW μ = 12 := iw.1; have hnW := iw.2.2.1; have hnL := iw.2.2.2.1; have hnF := iw.2.2.2.2.1
  obtain ⟨⟨d0, d1, d2⟩, n2, n4⟩ := inn.N
  have p := n4 w h0 h1
  obtain ⟨of, rt, fl⟩ := r
  have e1 : μ' 111 w = μ 30 w := by rw [of 111 w (by unfold FR' FR; omega), p.1]
  have e2 : μ' 111 8 = μ 29 0 := by rw [of 111 8 (by unfold FR' FR; omega)]; exact d0.symm
  have e3 : μ' 111 9 = μ 29 1 := by rw [of 111 9 (by unfold FR' FR; omega)]; exact d1.symm
  have e4 : μ' 113 w = μ (wW μ + 1) w := by rw [of 113 w (by unfold FR' FR; omega)]; exact hT.1.symm
  exact c8_placeR h'.1 h0 (by omega) (by rw [e4]; exact hT.2) (by rw [(rt w h0 h1).1, (rt w h0 h1).2]; exact hg) (by rw [e1]; omega) (by rw [e2, e3]; omega) hn k
theorem c8_rates {G : Gm} {Q : Mem → Prop} {μ : Mem} (h : Inv μ) (k : ∀ μ', RN μ μ' → Q μ') : Cv G mX8_ratesNow [(2, 110)] SHl μ Q := c8_ratesNow h.1 h.2.1 h.2.2.2.1.c h.2.2.2.2.2.2.2 k
theorem Inv.nw {μ : Mem} (h : Inv μ) : nW μ = μ 110 2 ∧ 0 ≤ nW μ ∧ nW μ ≤ 8 := h.2.1.2.2.1
theorem c8_isW {G : Gm} {μ : Mem} {Q : Int → Mem → Prop} {x : Int} (h : Inv μ) (hx : R32 x) (h1 : 0 ≤ x → x < nW μ → Q 1 μ) (h0 : ¬ (0 ≤ x ∧ x < nW μ) → Q 0 μ) : Ci G mX8_isWheel [(2, 110), (0, x)] SHl μ Q := by
  have := h.nw
  exact c8_isWheel (by omega) hx (fun a b => h1 a (by omega)) (fun c => h0 (by omega))
theorem c7_hasW {G : Gm} {μ : Mem} {Q : Int → Mem → Prop} {x : Int} (h : Inv μ) (hx : R32 x) (h1 : 0 ≤ x → x < nW μ → Q 1 μ) (h0 : ¬ (0 ≤ x ∧ x < nW μ) → Q 0 μ) : Ci G mX7_hasWheel [(2, 0), (0, x)] SHl μ Q := c7_hasWheel h.1 h.2.1 hx h1 h0
theorem st_stands {G : Gm} {μ : Mem} {a0 a1 : Int} (h : Inv μ) (ha0 : R32 a0) (ha1 : R32 a1) : Both G mX7_stands mX8_stands [(0, a0), (0, a1)] μ := by
  have out : 0 ≤ a0 → a0 < nW μ → ¬ (0 ≤ a1 ∧ a1 ≤ 99999) → Ci G mX8_stands [(2, 110), (0, a0), (0, a1)] SHl μ (fun r' μ2 => -1000000002 = r' ∧ R32 (-1000000002) ∧ Inv μ2) := fun c1 c2 c =>
    eX8_stands (fun Φ hΦ hR => bX8_stands_0 hΦ hR ⟨so_110, c8_isW h ha0 (fun _ _ => yes_ ⟨ha1, c_m_in (r64 ha1) ⟨by decide, by decide⟩ ⟨by decide, by decide⟩ (fun d1 d2 => absurd ⟨d1, d2⟩ c) (fun _ => no_ ⟨rfl, by decide, h⟩)⟩) (fun d => absurd ⟨c1, c2⟩ d)⟩)
  refine eX7_stands (fun Φ hΦ hR => bX7_stands_0 hΦ hR ⟨so_0, c7_hasW h ha0 (fun c1 c2 => yes_ ⟨ha1, fun c => out c1 c2 (by omega), fun k1 => ⟨fun k2 => c7_place h c1 c2 ⟨by omega, by omega⟩ ?_, fun k2 => out c1 c2 (by omega)⟩⟩) (fun c => no_ (eX8_stands (fun Φ hΦ hR => bX8_stands_0 hΦ hR ⟨so_110, c8_isW h ha0 (fun c1 c2 => absurd ⟨c1, c2⟩ c) (fun _ => no_ ⟨rfl, by decide, h⟩)⟩)))⟩)
  have hT := h.T c1 c2
  have rg := plc_rg h c1 c2 (n := a1)
  exact eX8_stands (fun Φ hΦ hR => bX8_stands_0 hΦ hR ⟨so_110, c8_isW h ha0 (fun _ _ => yes_ ⟨ha1, c_m_in (r64 ha1) ⟨by decide, by decide⟩ ⟨by decide, by decide⟩ (fun d1 d2 => yes_ (c8_rates h (fun μ' r => c8_place h r c1 c2 ⟨by omega, by omega⟩ ⟨rfl, ⟨by omega, by omega⟩, RN_inv h r⟩))) (fun d => absurd ⟨by omega, k2⟩ d)⟩) (fun d => absurd ⟨c1, c2⟩ d)⟩)
theorem st_wheel {G : Gm} {μ : Mem} {a0 a1 : Int} (h : Inv μ) (ha0 : R32 a0) (ha1 : R32 a1) : Both G mX7_wheel mX8_wheel [(0, a0), (0, a1)] μ := by
  refine eX7_wheel (fun Φ hΦ hR => bX7_wheel_0 hΦ hR ⟨so_0, c7_hasW h ha0 (fun c1 c2 => yes_ ⟨ha1, ?_⟩) (fun c => no_ (eX8_wheel (fun Φ hΦ hR => bX8_wheel_0 hΦ hR ⟨so_110, c8_isW h ha0 (fun c1 c2 => absurd ⟨c1, c2⟩ c) (fun _ => no_ ⟨rfl, by decide, h⟩)⟩)))⟩)
  have hT := h.T c1 c2
  have hg := h.G c1 c2
  obtain ⟨⟨-, g2, g3, g4, g5⟩, -⟩ := hg
  have g2 : 1 ≤ μ 23 a0 := g2
  have g3 : μ 23 a0 ≤ 810000 := g3
  have g4 : -24300000 ≤ μ 22 a0 := g4
  have g5 : μ 22 a0 ≤ 24300000 := g5
  have hn := h.nw
  have wf := h.1
  have ref : ∀ {r : Int} {K : Int → Mem → Prop}, (∀ μ', RN μ μ' → R32 a1 ∧ ((a1 ≠ 0 → (a1 ≠ 1 → (a1 ≠ 2 → (a1 ≠ 3 → K (-1000000002) μ') ∧ (a1 = 3 → Ai SHl (μ' 110 28) 1 a0 ∧ K (μ' (μ' 110 28) a0) μ')) ∧ (a1 = 2 → Ai SHl (μ' 110 27) 1 a0 ∧ K (μ' (μ' 110 27) a0) μ')) ∧ (a1 = 1 → Ci G mX8_placeIn [(2, 110), (0, a0), (1, 0)] SHl μ' (fun r8 μ8 => K r8 μ8))) ∧ (a1 = 0 → Ai SHl (μ' 110 13) 0 a0 ∧ K (μ' (μ' 110 13) a0) μ'))) → Ci G mX8_wheel [(2, 110), (0, a0), (0, a1)] SHl μ K := fun hk =>
    eX8_wheel (fun Φ hΦ hR => bX8_wheel_0 hΦ hR ⟨so_110, c8_isW h ha0 (fun _ _ => yes_ (c8_rates h hk)) (fun d => absurd ⟨c1, c2⟩ d)⟩)
  refine ⟨fun d => ref (r := 0) (fun μ' r => ⟨ha1, fun _ => ⟨fun _ => ⟨fun _ => ⟨fun _ => ⟨rfl, by decide, RN_inv h r⟩, fun e => absurd e (by omega)⟩, fun e => absurd e (by omega)⟩, fun e => absurd e (by omega)⟩, fun e => absurd e (by omega)⟩), fun d => ?_, fun d => c7_place h c1 c2 ⟨by decide, by decide⟩ ?_, fun d => ?_, fun d => ?_⟩
  · rw [wf_W5 wf h.2.1.1]
    refine ⟨so_W h.2.1.1, ai_W1 h.2.1.1 c1 (by omega), ref (r := 0) (fun μ' r => ⟨ha1, fun e => absurd d e, fun _ => ?_⟩)⟩
    rw [wf_110_13 (RN_inv h r).1, r.1 113 a0 (by unfold FR' FR; omega)]
    exact ⟨ai_113 c1 (by omega), hT.1, ⟨by omega, by omega⟩, RN_inv h r⟩
  · have rg := plc_rg h c1 c2 (n := 0)
    exact ref (r := 0) (fun μ' r => ⟨ha1, fun _ => ⟨fun e => absurd d e, fun _ => c8_place h r c1 c2 ⟨by decide, by decide⟩ ⟨rfl, ⟨by omega, by omega⟩, RN_inv h r⟩⟩, fun e => absurd e (by omega)⟩)
  · rw [wf_0_3 wf, wf_21_0 wf]
    refine ⟨so_21, ai_22 c1 (by omega), ref (r := 0) (fun μ' r => ⟨ha1, fun _ => ⟨fun _ => ⟨fun e => absurd d e, fun _ => ?_⟩, fun e => absurd e (by omega)⟩, fun e => absurd e (by omega)⟩)⟩
    rw [wf_110_27 (RN_inv h r).1, (r.2.1 a0 c1 c2).1]
    exact ⟨ai_122 c1 (by omega), rfl, ⟨by omega, by omega⟩, RN_inv h r⟩
  · rw [wf_0_3 wf, wf_21_1 wf]
    refine ⟨so_21, ai_23 c1 (by omega), ref (r := 0) (fun μ' r => ⟨ha1, fun _ => ⟨fun _ => ⟨fun _ => ⟨fun e => absurd d e, fun _ => ?_⟩, fun e => absurd e (by omega)⟩, fun e => absurd e (by omega)⟩, fun e => absurd e (by omega)⟩)⟩
    rw [wf_110_28 (RN_inv h r).1, (r.2.1 a0 c1 c2).2]
    exact ⟨ai_123 c1 (by omega), rfl, ⟨by omega, by omega⟩, RN_inv h r⟩
