/-! A LINK'S CLAUSE, the reference -/
theorem linkE_0 {T : Int → Int} {n : Int} {g : Mem} {p c : Int} (h : (linkE T n g p c).1 = 0) : linkE T n g p c = (0, c) := by
  unfold linkE at h ⊢
  by_cases z : numV T n (linkA T n p) = numV T n (linkB T n g p)
  · rw [if_pos z] at h; exact absurd h (show ¬ (4 : Int) = 0 by decide)
  · rw [if_neg z]
theorem feaE_0 {T : Int → Int} {n : Int} {g : Mem} {p c : Int} (h : (feaE T n g p c).1 = 0) : feaE T n g p c = (0, c) := by
  unfold feaE at h ⊢
  by_cases z : g 1 (numV T n (p + 1)) ≤ numV T n (drvA T n g p)
  · rw [if_pos z] at h; exact absurd h (show ¬ (4 : Int) = 0 by decide)
  · rw [if_neg z]
def A1 (T : Int → Int) (n : Int) (g : Mem) (p : Int) : Int × Int := bnd (wrd (10 ≤ g 0 1) p) (pkind T n)
def A2 (T : Int → Int) (n : Int) (g : Mem) (p : Int) : Int × Int := bnd (A1 T n g p) (pnum T n 0 (g 0 0 - 1))
def A3 (T : Int → Int) (n : Int) (g : Mem) (p : Int) : Int × Int := bnd (A2 T n g p) (pnum T n 0 (g 0 0 - 1))
def A4 (T : Int → Int) (n : Int) (g : Mem) (p : Int) : Int × Int := bnd (A3 T n g p) (linkE T n g p)
theorem linkP_4 {T : Int → Int} {n : Int} {g : Mem} {p : Int} : linkP T n g p = bnd (A4 T n g p) (pnum T n 0 999) := rfl
theorem bd_A {T : Int → Int} {n : Int} {g : Mem} {p : Int} (p0 : 0 ≤ p) (p1 : p < n) : Bd (p + 1) n (A1 T n g p) ∧ Bd (p + 1) n (A2 T n g p) ∧ Bd (p + 1) n (A3 T n g p) ∧ ((A4 T n g p).1 = 0 → (A4 T n g p).2 = (A3 T n g p).2) := by
  have b1 : Bd (p + 1) n (A1 T n g p) := bd_bnd (bd_wrd p0 p1) (fun q q0 q1 => bd_pkind (by omega) q0 q1)
  have b2 : Bd (p + 1) n (A2 T n g p) := bd_bnd b1 (fun q q0 q1 => bd_pnum (by omega) q0 q1)
  have b3 : Bd (p + 1) n (A3 T n g p) := bd_bnd b2 (fun q q0 q1 => bd_pnum (by omega) q0 q1)
  refine ⟨b1, b2, b3, fun z => ?_⟩
  obtain ⟨z1, z2⟩ := bnd_z (show (bnd (A3 T n g p) (linkE T n g p)).1 = 0 from z)
  show (bnd (A3 T n g p) (linkE T n g p)).2 = _
  rw [bnd_0 z1, linkE_0 z2]
/-- behind the check of both wheels -/
theorem c8_linkTail {G : Gm} {T : Int → Int} {n p kk va vb : Int} {g κ κ3 : Mem} {Q : Mem → Prop} (gr : GR g) (rg : G8 g κ) (p0 : 0 ≤ p) (p1 : p < n) (fr : ∀ k i, ¬ FR2 k i → ¬ (115 ≤ k ∧ k ≤ 117 ∧ i = 10 + g 0 1) → κ3 k i = κ k i) (c10 : g 0 1 < 10)
    (h3 : R8s T n (A4 T n g p) κ3) (s4 : κ3 115 (10 + g 0 1) = kk) (s5 : κ3 116 (10 + g 0 1) = va) (s6 : κ3 117 (10 + g 0 1) = vb) (vals : (A4 T n g p).1 = 0 → kk = kd (T (skp T n (p + 1))) ∧ va = numV T n (linkA T n p) ∧ vb = numV T n (linkB T n g p))
    (q : ∀ κ', Off FN κ κ' → R8s T n (linkP T n g p) κ' → ((linkP T n g p).1 = 0 → G8 (linkG T n g p) κ') → Q κ') : Ci G mX8_takeNumber [(2, 110), (0, 0), (0, 999)] SHl κ3 (fun r4 μ4 => Ai SHl (κ3 110 18) 0 (10 + g 0 1) ∧ (∀ m6 : Mem, m6 = mu μ4 (κ3 110 18) (10 + g 0 1) r4 → ∀ m7 : Mem, m7 = mu m6 110 8 ((m6 110 8) + 1) → Q m7)) := by
  obtain ⟨b1, b2, b3, b4⟩ := bd_A (T := T) (g := g) p0 p1
  have g2 := gr.2.1
  have hn := h3.1.2.2.1
  refine c8_takeNumber h3 (fun z => ⟨by rw [b4 z]; exact b3.2.1, by rw [b4 z]; have := b3.2.2; omega⟩) ⟨by decide, by decide⟩ ⟨by decide, by decide⟩ (fun vo κ4 o4 h4 vor voe _ => ?_)
  rw [wf_110_18 h3.1.1]
  refine ⟨ai_118 (by omega) (by omega), ?_⟩
  rintro m6 e6 m7 e7
  have r : ∀ k i, ¬ FR2 k i → κ4 k i = κ3 k i := o4
  rw [show m6 110 8 = g 0 1 by rw [e6, mu_off2 (by omega), r _ _ (by unfold FR2; omega), fr _ _ (by unfold FR2; omega) (by omega)]; exact rg.1.2.1] at e7
  have of : ∀ k i, ¬ (k = 118 ∧ i = 10 + g 0 1) → ¬ (k = 110 ∧ i = 8) → m7 k i = κ4 k i := fun k i d1 d2 => by rw [e7, mu_off2 d2, e6, mu_off2 d1]
  refine q m7 (fun k i c => ?_) (by rw [linkP_4]; exact h4.w (fun k i c => of k i (by omega) (by omega))) (fun z => ?_)
  · rw [of k i (by unfold FN at c; omega) (by unfold FN at c; omega), r k i (by unfold FN at c; unfold FR2; omega), fr k i (by unfold FN at c; unfold FR2; omega) (by unfold FN at c; omega)]
  · obtain ⟨za, -, -, he⟩ := link_0 (g := g) z
    rw [linkP_4] at z
    obtain ⟨y1, y2, y3⟩ := vals (bnd_z z).1
    have y4 : vo = numV T n (linkC T n g p) := by
      have := voe z
      rw [show A4 T n g p = (0, linkC T n g p) from he] at this
      exact this
    refine g8_link rg gr (kk := kk) (va := va) (vb := vb) (vo := vo) ⟨fun k i d => ?_, ?_, ?_, ?_, ?_, ?_⟩ y1 y2 y3 y4
    · rw [of k i (by omega) (by omega), r k i (by unfold FR2; omega), fr k i (by unfold FR2; omega) (by omega)]
    · rw [e7, mu_same]
    · rw [of _ _ (by omega) (by omega), r _ _ (by unfold FR2; omega)]; exact s4
    · rw [of _ _ (by omega) (by omega), r _ _ (by unfold FR2; omega)]; exact s5
    · rw [of _ _ (by omega) (by omega), r _ _ (by unfold FR2; omega)]; exact s6
    · rw [e7, mu_off2 (by omega), e6, mu_same]
theorem c8_takeLink {G : Gm} {T : Int → Int} {n p : Int} {g κ : Mem} {Q : Mem → Prop} (h : R8s T n (0, p + 1) κ) (rg : G8 g κ) (gr : GR g) (p0 : 0 ≤ p) (p1 : p < n) (q : ∀ κ', Off FN κ κ' → R8s T n (linkP T n g p) κ' → ((linkP T n g p).1 = 0 → G8 (linkG T n g p) κ') → Q κ') : Cv G mX8_takeLink [(2, 110), (0, p)] SHl κ Q := by
  have hn := h.1.2.2.1
  have g1 := gr.1
  have g2 := gr.2.1
  have wf := h.1.1
  obtain ⟨b1, b2, b3, b4⟩ := bd_A (T := T) (g := g) p0 p1
  refine eX8_takeLink (fun Φ hΦ hR => bX8_takeLink_0 hΦ hR ⟨so_110, ?_⟩)
  rw [rg.1.2.1]
  refine ⟨⟨by omega, by omega⟩, fun c => bX8_takeLink_15 hΦ hR ⟨so_110, c8_wantN h ⟨by decide, by decide⟩ (fun κ2 o2 _ h2 => ⟨R32_0, fun _ => ?_, fun e => absurd rfl e⟩)⟩, fun c => bX8_takeLink_15 hΦ hR ⟨so_110, c8_wantY h R32_1 (by decide) (fun _ => ⟨R32_1, fun e => absurd e (by decide), fun _ => ⟨so_110, ?_⟩⟩) (fun e => absurd rfl e)⟩⟩
  · have e : linkP T n g p = (3, p) := by
      have n3 : ((3 : Int), p).1 ≠ 0 := show (3 : Int) ≠ 0 by decide
      unfold linkP wrd
      rw [if_pos c, bnd_1 (r := (3, p)) n3, bnd_1 (r := (3, p)) n3, bnd_1 (r := (3, p)) n3, bnd_1 (r := (3, p)) n3, bnd_1 (r := (3, p)) n3]
    rw [bnd_0 rfl] at h2
    exact q κ2 o2.fn (by rw [e]; exact h2) (fun z => by rw [e] at z; exact absurd z (show ¬ (3 : Int) = 0 by decide))
  · have at_ : κ 110 23 = p + 1 := (h.2.1 rfl).2.1
    have sp := skp_p (T := T) (n := n) (p := p + 1)
    have wr : wrd (10 ≤ g 0 1) p = (0, p + 1) := by unfold wrd; rw [if_neg c]
    refine c8_here h.1 ⟨by omega, by omega⟩ ?_
    obtain ⟨a5, o5⟩ := r8_at (x := skp T n (κ 110 23)) (y := skp T n (p + 1)) h (fun _ => by rw [at_])
    rw [at_] at a5 o5 ⊢
    rw [bnd_0 rfl] at a5
    have f5 : mu κ 110 23 (skp T n (p + 1)) 110 23 = skp T n (p + 1) := mu_same
    generalize mu κ 110 23 (skp T n (p + 1)) = κ5 at *
    have ea1 : A1 T n g p = pkind T n (p + 1) := by unfold A1; rw [wr, bnd_0 rfl]
    generalize hs : skp T n (p + 1) = s at *
    have cr : R32 (if s < n then T s else -1) := by
      split
      · rename_i lt; have := (h.1.2.2.2 s (by omega) lt).2; exact ⟨by omega, by omega⟩
      · decide
    refine c8_kindOf cr ?_
    have kr := kd_r (if s < n then T s else -1)
    have pk : pkind T n (p + 1) = if kd (if s < n then T s else -1) = -1 then (1, s) else (0, s + 1) := by
      unfold pkind
      rw [hs]
      by_cases lt : s < n
      · rw [if_pos lt]
        by_cases k1 : kd (T s) = -1
        · rw [if_neg (fun z => z.2 k1), if_pos k1]
        · rw [if_pos ⟨lt, k1⟩, if_neg k1]
      · rw [if_neg lt, if_neg (fun z => lt z.1), if_pos (by decide)]
    generalize hkk : kd (if s < n then T s else -1) = kk at *
    rw [wf_110_15 wf, rg.1.2.1]
    refine ⟨ai_115 (by omega) (by omega), ?_⟩
    rintro m8 e8
    have r8 : R8s T n (0, s) m8 := a5.w (fun k i c => by rw [e8, mu_off2 (by omega)])
    have wf8 := r8.1.1
    have v8 : m8 115 (10 + g 0 1) = kk := by rw [e8, mu_same]
    have f8 : m8 110 23 = s := by rw [e8, mu_off2 (by omega)]; exact f5
    have fr8 : ∀ k i, ¬ FR2 k i → ¬ (115 ≤ k ∧ k ≤ 117 ∧ i = 10 + g 0 1) → m8 k i = κ k i := fun k i d1 d2 => by rw [e8, mu_off2 (by omega)]; exact o5 k i d1
    rw [wf_110_15 wf8, v8]
    refine ⟨ai_115 (by omega) (by omega), ⟨by omega, by omega⟩, fun neg => ?_, fun neg => ?_⟩
    · -- no kind
      have e : linkP T n g p = (1, s) := by
        have n1 : ((1 : Int), s).1 ≠ 0 := show (1 : Int) ≠ 0 by decide
        have : A1 T n g p = (1, s) := by rw [ea1, pk, if_pos (by omega)]
        rw [linkP_4]
        unfold A4 A3 A2
        rw [this, bnd_1 (r := (1, s)) n1, bnd_1 (r := (1, s)) n1, bnd_1 (r := (1, s)) n1, bnd_1 (r := (1, s)) n1]
      refine bX8_takeLink_59 hΦ hR ⟨so_110, so_110, ?_⟩
      rw [f8]
      refine c8_wantN r8 ⟨by decide, by decide⟩ (fun κ9 o9 _ h9 => ⟨R32_0, fun _ => ?_, fun x => absurd rfl x⟩)
      rintro m5 e5'
      rw [bnd_0 rfl] at h9
      refine q m5 (fun k i c => ?_) (by rw [e]; exact h9.w (fun k i c => by rw [e5', mu_off2 (by omega)])) (fun z => by rw [e] at z; exact absurd z (show ¬ (1 : Int) = 0 by decide))
      rw [e5', mu_off2 (by unfold FN at c; omega), o9 k i (by unfold FN at c; unfold FR2; omega), fr8 k i (by unfold FN at c; unfold FR2; omega) (by unfold FN at c; omega)]
    · have pk0 : A1 T n g p = (0, s + 1) := by rw [ea1, pk, if_neg (by omega)]
      have sn : s < n := Classical.byContradiction fun lt => by
        rw [if_neg lt] at hkk
        have : kd (-1) = -1 := by decide
        omega
      rw [if_pos sn] at hkk
      refine bX8_takeLink_59 hΦ hR ⟨so_110, so_110, ?_⟩
      rw [f8]
      refine c8_wantY r8 R32_1 (by decide) (fun _ => ⟨R32_1, fun x => absurd x (by decide), fun _ => ?_⟩) (fun x => absurd rfl x)
      rw [f8]
      rintro m6 e6
      obtain ⟨a6, o6⟩ := r8_at (x := s + 1) (y := s + 1) r8 (fun _ => rfl)
      rw [← e6, bnd_0 rfl, ← pk0] at a6
      rw [← e6] at o6
      have fr6 : ∀ k i, ¬ FR2 k i → ¬ (115 ≤ k ∧ k ≤ 117 ∧ i = 10 + g 0 1) → m6 k i = κ k i := fun k i d1 d2 => by rw [o6 k i d1]; exact fr8 k i d1 d2
      rw [show m6 110 7 = g 0 0 from (fr6 _ _ (by unfold FR2; omega) (by omega)).trans rg.1.1]
      refine c8_takeNumber a6 (fun z => ⟨b1.2.1, by have := b1.2.2; omega⟩) ⟨by decide, by decide⟩ ⟨by omega, by omega⟩ (fun va κ7 o7 h7 var vae _ => ?_)
      rw [wf_110_16 a6.1.1]
      refine ⟨ai_116 (by omega) (by omega), ?_⟩
      rintro m9 e9
      have h9 : R8s T n (A2 T n g p) m9 := R8s.w h7 (fun k i c => by rw [e9, mu_off2 (by omega)])
      have fr9 : ∀ k i, ¬ FR2 k i → ¬ (115 ≤ k ∧ k ≤ 117 ∧ i = 10 + g 0 1) → m9 k i = κ k i := fun k i d1 d2 => by rw [e9, mu_off2 (by omega), o7 k i d1]; exact fr6 k i d1 d2
      have v94 : m9 115 (10 + g 0 1) = kk := by rw [e9, mu_off2 (by omega), o7 _ _ (by unfold FR2; omega), o6 _ _ (by unfold FR2; omega)]; exact v8
      have v95 : m9 116 (10 + g 0 1) = va := by rw [e9, mu_same]
      rw [show m9 110 7 = g 0 0 from (fr9 _ _ (by unfold FR2; omega) (by omega)).trans rg.1.1]
      refine c8_takeNumber h9 (fun z => ⟨b2.2.1, by have := b2.2.2; omega⟩) ⟨by decide, by decide⟩ ⟨by omega, by omega⟩ (fun vb κ10 o10 h10 vbr vbe vb4 => ?_)
      rw [wf_110_17 h9.1.1]
      refine ⟨ai_117 (by omega) (by omega), ?_⟩
      rintro m12 e12
      have h12 : R8s T n (A3 T n g p) m12 := R8s.w h10 (fun k i c => by rw [e12, mu_off2 (by omega)])
      have fr12 : ∀ k i, ¬ FR2 k i → ¬ (115 ≤ k ∧ k ≤ 117 ∧ i = 10 + g 0 1) → m12 k i = κ k i := fun k i d1 d2 => by rw [e12, mu_off2 (by omega), o10 k i d1]; exact fr9 k i d1 d2
      have w4 : m12 115 (10 + g 0 1) = kk := by rw [e12, mu_off2 (by omega), o10 _ _ (by unfold FR2; omega)]; exact v94
      have w5 : m12 116 (10 + g 0 1) = va := by rw [e12, mu_off2 (by omega), o10 _ _ (by unfold FR2; omega)]; exact v95
      have w6 : m12 117 (10 + g 0 1) = vb := by rw [e12, mu_same]
      have vals3 : (A3 T n g p).1 = 0 → kk = kd (T (skp T n (p + 1))) ∧ va = numV T n (linkA T n p) ∧ vb = numV T n (linkB T n g p) ∧ m12 110 24 = skp T n (linkB T n g p) := fun z => by
        obtain ⟨c1, -, -, -, e1, e2, e3⟩ := link_1 (g := g) (show (bnd (bnd (bnd (wrd (10 ≤ g 0 1) p) (pkind T n)) (pnum T n 0 (g 0 0 - 1))) (pnum T n 0 (g 0 0 - 1))).1 = 0 from z)
        have x2 := vae (by show (A2 T n g p).1 = 0; rw [show A2 T n g p = (0, linkB T n g p) from e2])
        rw [show A1 T n g p = (0, linkA T n p) from e1] at x2
        have x3 := vbe z
        rw [show A2 T n g p = (0, linkB T n g p) from e2] at x3
        have x4 := vb4 (by rw [show A2 T n g p = (0, linkB T n g p) from e2])
        rw [show A2 T n g p = (0, linkB T n g p) from e2] at x4
        exact ⟨by rw [hs]; exact hkk.symm, x2, x3, by rw [e12, mu_off2 (by omega)]; exact x4⟩
      have vals4 : (A4 T n g p).1 = 0 → kk = kd (T (skp T n (p + 1))) ∧ va = numV T n (linkA T n p) ∧ vb = numV T n (linkB T n g p) := fun z => by
        obtain ⟨y1, y2, y3, -⟩ := vals3 (bnd_z (show (bnd (A3 T n g p) (linkE T n g p)).1 = 0 from z)).1
        exact ⟨y1, y2, y3⟩
      have r12 := h12.r5
      rw [wf_110_16 h12.1.1, wf_110_17 h12.1.1, w5, w6]
      have goY : ((A3 T n g p).1 = 0 → va ≠ vb) → Ex G Φ 4 142 [some (2, 110), some (0, p), some (0, 10 + g 0 1), none] [(0, 1), (2, 110)] SHl m12 0 0 := fun nev => by
        have h4 : R8s T n (A4 T n g p) m12 := by
          have : A4 T n g p = A3 T n g p := by
            unfold A4
            rw [bnd_cong (g := fun c => (0, c)) (fun z => ?_), bnd_eta]
            obtain ⟨y1, y2, y3, -⟩ := vals3 z
            unfold linkE
            rw [if_neg (by rw [← y2, ← y3]; exact nev z)]
          rw [this]; exact h12
        have tl := c8_linkTail (G := G) gr rg p0 p1 fr12 (by omega) h4 w4 w5 w6 vals4 q
        exact bX8_takeLink_142 hΦ hR ⟨so_110, so_110, c8_wantY h12 R32_1 (by decide) (fun _ => tl) (fun _ => tl)⟩
      refine ⟨⟨by omega, by omega⟩, fun pos => goY (fun z => by have := r12.2.2.mpr z; omega), fun pos => ⟨ai_116 (by omega) (by omega), ai_117 (by omega) (by omega), ⟨by omega, by omega⟩, ⟨by omega, by omega⟩, fun eq => ?_, fun ne => goY (fun _ => ne)⟩⟩
      have z3 := r12.2.2.mp (by omega)
      obtain ⟨y1, y2, y3, y4⟩ := vals3 z3
      refine bX8_takeLink_142 hΦ hR ⟨so_110, so_110, ?_⟩
      rw [y4]
      refine c8_wantN h12 ⟨by decide, by decide⟩ (fun κ13 o13 _ h13 => ?_)
      have h4 : R8s T n (A4 T n g p) κ13 := by
        have : A4 T n g p = bnd (A3 T n g p) (fun _ => (4, skp T n (linkB T n g p))) := by
          unfold A4
          refine bnd_cong (fun _ => ?_)
          unfold linkE
          rw [if_pos (by rw [← y2, ← y3]; exact eq)]
        rw [this]; exact h13
      exact c8_linkTail (G := G) gr rg p0 p1 (fun k i d1 d2 => by rw [o13 k i d1]; exact fr12 k i d1 d2) (by omega) h4 (by rw [o13 _ _ (by unfold FR2; omega)]; exact w4) (by rw [o13 _ _ (by unfold FR2; omega)]; exact w5) (by rw [o13 _ _ (by unfold FR2; omega)]; exact w6) vals4 q
