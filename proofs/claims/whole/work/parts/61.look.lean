/-! THE NEXT DAY to look -/
/-- how many of the first n teeth (from 3 on) that may be stand at k -/
def ctp (p : Int → Bool) (pl : Int → Int) : Nat → Int → Int
  | 0, _ => 0
  | n + 1, k => ctp p pl n k + if p (3 + n) = true ∧ pl (3 + n) = k then 1 else 0
def grp (p : Int → Bool) (pl : Int → Int) : Nat → Int
  | 0 => 0
  | n + 1 => if p (3 + n) = true then (if grp p pl n < ctp p pl (n + 1) (pl (3 + n)) then ctp p pl (n + 1) (pl (3 + n)) else grp p pl n) else grp p pl n
theorem ctp_r {p : Int → Bool} {pl : Int → Int} : ∀ (n : Nat) (k : Int), 0 ≤ ctp p pl n k ∧ ctp p pl n k ≤ n
  | 0, _ => ⟨Int.le_refl _, Int.le_refl _⟩
  | n + 1, k => by
    have := ctp_r n k (p := p) (pl := pl)
    show 0 ≤ ctp p pl n k + (if p (3 + n) = true ∧ pl (3 + n) = k then 1 else 0) ∧ ctp p pl n k + (if p (3 + n) = true ∧ pl (3 + n) = k then 1 else 0) ≤ ((n + 1 : Nat) : Int)
    split <;> omega
theorem grp_r {p : Int → Bool} {pl : Int → Int} : ∀ (n : Nat), 0 ≤ grp p pl n ∧ grp p pl n ≤ n
  | 0 => ⟨Int.le_refl _, Int.le_refl _⟩
  | n + 1 => by
    have := grp_r n (p := p) (pl := pl)
    have c := ctp_r (n + 1) (pl (3 + n)) (p := p) (pl := pl)
    show 0 ≤ (if p (3 + n) = true then (if grp p pl n < ctp p pl (n + 1) (pl (3 + n)) then ctp p pl (n + 1) (pl (3 + n)) else grp p pl n) else grp p pl n) ∧ (if p (3 + n) = true then (if grp p pl n < ctp p pl (n + 1) (pl (3 + n)) then ctp p pl (n + 1) (pl (3 + n)) else grp p pl n) else grp p pl n) ≤ ((n + 1 : Nat) : Int)
    split
    · split <;> omega
    · omega
theorem ctp_n {p : Int → Bool} {pl : Int → Int} {n : Nat} (h : ¬ p (3 + n) = true) (k : Int) : ctp p pl (n + 1) k = ctp p pl n k := by
  show ctp p pl n k + (if p (3 + n) = true ∧ pl (3 + n) = k then 1 else 0) = _
  rw [if_neg (fun q => h q.1)]; omega
theorem ctp_y {p : Int → Bool} {pl : Int → Int} {n : Nat} (h : p (3 + n) = true) (k : Int) : ctp p pl (n + 1) k = if k = pl (3 + n) then ctp p pl n k + 1 else ctp p pl n k := by
  show ctp p pl n k + (if p (3 + n) = true ∧ pl (3 + n) = k then 1 else 0) = _
  by_cases c : k = pl (3 + n)
  · rw [if_pos c, if_pos ⟨h, c.symm⟩]
  · rw [if_neg c, if_neg (fun q => c q.2.symm)]; omega
theorem grp_n {p : Int → Bool} {pl : Int → Int} {n : Nat} (h : ¬ p (3 + n) = true) : grp p pl (n + 1) = grp p pl n := by
  show (if p (3 + n) = true then _ else grp p pl n) = _
  rw [if_neg h]
theorem grp_y {p : Int → Bool} {pl : Int → Int} {n : Nat} (h : p (3 + n) = true) : grp p pl (n + 1) = if grp p pl n < ctp p pl n (pl (3 + n)) + 1 then ctp p pl n (pl (3 + n)) + 1 else grp p pl n := by
  show (if p (3 + n) = true then (if grp p pl n < ctp p pl (n + 1) (pl (3 + n)) then ctp p pl (n + 1) (pl (3 + n)) else grp p pl n) else grp p pl n) = _
  rw [if_pos h, ctp_y h, if_pos rfl]
/-- least and best of the first n days -/
def lkd (g : Int → Int) (l0 : Int) : Nat → Int × Int
  | 0 => (l0, -1)
  | n + 1 => if (lkd g l0 n).1 ≤ g (n + 1) then lkd g l0 n else (g (n + 1), n + 1)
theorem lkd_r {g : Int → Int} {l0 : Int} (hl : 0 ≤ l0 ∧ l0 ≤ 31) (hg : ∀ d, 0 ≤ g d ∧ g d ≤ 31) : ∀ n : Nat, n ≤ 30 → (0 ≤ (lkd g l0 n).1 ∧ (lkd g l0 n).1 ≤ 31) ∧ -1 ≤ (lkd g l0 n).2 ∧ (lkd g l0 n).2 ≤ 30
  | 0, _ => ⟨hl, by show (-1 : Int) ≤ -1; decide, by show (-1 : Int) ≤ 30; decide⟩
  | n + 1, h => by
    have := lkd_r hl hg n (by omega)
    show (0 ≤ (if (lkd g l0 n).1 ≤ g (n + 1) then lkd g l0 n else (g (n + 1), n + 1)).1 ∧ (if (lkd g l0 n).1 ≤ g (n + 1) then lkd g l0 n else (g (n + 1), n + 1)).1 ≤ 31) ∧ -1 ≤ (if (lkd g l0 n).1 ≤ g (n + 1) then lkd g l0 n else (g (n + 1), n + 1)).2 ∧ (if (lkd g l0 n).1 ≤ g (n + 1) then lkd g l0 n else (g (n + 1), n + 1)).2 ≤ 30
    split
    · exact this
    · exact ⟨hg _, by show (-1 : Int) ≤ n + 1; omega, by show (n : Int) + 1 ≤ 30; omega⟩
theorem lkd_k {g : Int → Int} {l0 : Int} {n : Nat} (h : (lkd g l0 n).1 ≤ g (n + 1)) : lkd g l0 (n + 1) = lkd g l0 n := by
  show (if (lkd g l0 n).1 ≤ g (n + 1) then lkd g l0 n else _) = _
  rw [if_pos h]
theorem lkd_c {g : Int → Int} {l0 : Int} {n : Nat} (h : ¬ (lkd g l0 n).1 ≤ g (n + 1)) : lkd g l0 (n + 1) = (g (n + 1), (n : Int) + 1) := by
  show (if (lkd g l0 n).1 ≤ g (n + 1) then _ else (g (n + 1), (n : Int) + 1)) = _
  rw [if_neg h]
def grd (μ : Mem) (p : Int → Bool) (w d : Int) : Int := grp p (fun t => pwt μ w t d) 28
theorem c7_greatest {G : Gm} {Q : Int → Mem → Prop} {μ κ : Mem} {p : Int → Bool} {w d : Int} (h : Inv μ) (of : Off (FT μ) μ κ) (w0 : 0 ≤ w) (w1 : w < nW μ) (hd : 0 ≤ d ∧ d ≤ 100000) (k : ∀ κ', Off (FT μ) μ κ' → Q (grd μ p w d) κ') : Ci G mX7_greatestPart [(2, 0), (0, w), (0, d), (0, fs (p3 p) 31)] SHl κ Q := by
  have wk := (FT_inv h of).1
  have rg := fs_rg (p := p3 p) (n := 31) (by decide)
  rw [show (2 : Int) ^ 31 = 2147483648 by decide] at rg
  have so103 : So SHl 103 (.inr (0, 30)) := so_103
  refine eX7_greatestPart (fun Φ hΦ hR => bX7_greatestPart_0 hΦ hR ⟨so_0, ?_⟩)
  rw [wf_0_11 wk]
  refine c_fillI so103 (by decide) ?_
  have loop : ∀ (m n : Nat) (κ : Mem), n + m = 28 → Off (FT μ) μ κ → (∀ i, 0 ≤ i → i < 30 → κ 103 i = ctp p (fun t => pwt μ w t d) n i) → Ex G Φ 7 14 [some (2, 0), some (0, w), some (0, d), some (0, fs (p3 p) 31), some (0, grp p (fun t => pwt μ w t d) n), some (0, 3 + (n : Int)), none] [] SHl κ 0 0 := by
    intro m
    induction m with
    | zero =>
      intro n κ hn of hc
      obtain rfl : n = 28 := by omega
      exact bX7_greatestPart_14 hΦ hR ⟨⟨by decide, by decide⟩, fun _ => k κ of, fun c => absurd (by decide) c⟩
    | succ m ih =>
      intro n κ hn of hc
      have wk := (FT_inv h of).1
      have bb := fs_bt (p := p3 p) 31 (by decide) (3 + n) (by omega)
      have q3 : p3 p ((3 + n : Nat) : Int) = true ↔ p ((3 + n : Nat) : Int) = true := q3_ (by omega)
      rw [show ((3 + n : Nat) : Int) = 3 + (n : Int) by omega] at bb q3
      have nx : ∀ κ', Off (FT μ) μ κ' → (∀ i, 0 ≤ i → i < 30 → κ' 103 i = ctp p (fun t => pwt μ w t d) (n + 1) i) → Ex G Φ 7 14 [some (2, 0), some (0, w), some (0, d), some (0, fs (p3 p) 31), some (0, grp p (fun t => pwt μ w t d) (n + 1)), some (0, 3 + (n : Int) + 1), none] [] SHl κ' 0 0 := fun κ' o' c' => by
        have := ih (n + 1) κ' (by omega) o' c'
        rw [show 3 + ((n + 1 : Nat) : Int) = 3 + (n : Int) + 1 by omega] at this
        exact this
      have pr := pwt_rg (μ := μ) (w := w) (t := 3 + (n : Int)) (n := d) (by omega)
      have g1 := grp_r n (p := p) (pl := fun t => pwt μ w t d)
      have c1 := ctp_r n (pwt μ w (3 + (n : Int)) d) (p := p) (pl := fun t => pwt μ w t d)
      refine bX7_greatestPart_14 hΦ hR ⟨⟨by omega, by omega⟩, fun c => absurd c (by omega), fun _ => ⟨⟨by omega, by omega⟩, by omega, by omega, R32_one (bt_rg _ _), fun c => ?_, fun c => ⟨so_0, c7_placeWith h of w0 w1 ⟨by omega, by omega⟩ hd ?_⟩⟩⟩
      · have c : ¬ bt_ (fs (p3 p) 31) (3 + (n : Int)) = 1 := c
        have np : ¬ p (3 + (n : Int)) = true := fun q => c (by rw [bb, if_pos ⟨by omega, q3.mpr q⟩])
        have := nx κ of (fun i i0 i1 => by rw [ctp_n np]; exact hc i i0 i1)
        rw [grp_n np] at this; exact this
      · have c : bt_ (fs (p3 p) 31) (3 + (n : Int)) = 1 := c
        have yp : p (3 + (n : Int)) = true := by
          refine Classical.byContradiction fun q => ?_
          rw [bb, if_neg (fun z => q (q3.mp z.2))] at c
          exact absurd c (by decide)
        rw [wf_0_11 wk]
        refine ⟨ai_103 pr.1 (by omega), ?_⟩
        rintro m9 e9
        have o9 : Off (FT μ) μ m9 := by rw [e9]; exact Off.mu of (by unfold FT; omega)
        have w9 : m9 0 11 = 103 := wf_0_11 (FT_inv h o9).1
        have v9 : m9 103 (pwt μ w (3 + (n : Int)) d) = ctp p (fun t => pwt μ w t d) n (pwt μ w (3 + (n : Int)) d) + 1 := by rw [e9, mu_same, hc _ pr.1 (by omega)]
        have := nx m9 o9 (fun i i0 i1 => by
          rw [ctp_y yp, e9]
          by_cases q : i = pwt μ w (3 + (n : Int)) d
          · rw [if_pos q, q, mu_same, hc _ pr.1 (by omega)]
          · rw [if_neg q, mu_off2 (by omega)]; exact hc i i0 i1)
        rw [grp_y yp] at this
        rw [w9, v9]
        exact ⟨ai_103 pr.1 (by omega), ⟨by omega, by omega⟩, ⟨by omega, by omega⟩, this⟩
  refine loop 28 0 _ (by decide) (fun j i q => ?_) (fun i i0 i1 => ?_)
  · rw [mfill_off (fun c => q (by unfold FT; omega))]; exact of j i q
  · rw [mfill_on ⟨i0, by omega⟩]; rfl
theorem st_look {G : Gm} {μ : Mem} {a0 : Int} (h : Inv μ) (ha0 : R32 a0) : Both G mX7_look mX8_look [(0, a0)] μ := by
  have hW := h.W
  have nw := h.nw
  refine eX7_look (fun Φ hΦ hR => bX7_look_0 hΦ hR ⟨so_0, c7_hasW h ha0 (fun x0 x1 => yes_ (c7_teethThatFit h x0 x1 ?_)) (fun c => no_ (eX8_look (fun Φ hΦ hR => bX8_look_0 hΦ hR ⟨so_110, c8_isW h ha0 (fun x0 x1 => absurd ⟨x0, x1⟩ c) (fun _ => no_ ⟨rfl, by decide, h⟩)⟩)))⟩)
  have rg := fs_rg (p := p3 (seb μ a0)) (n := 31) (by decide)
  rw [show (2 : Int) ^ 31 = 2147483648 by decide] at rg
  refine c_bitCount rg.1 (by omega) ?_
  have l0e : pc (fs (p3 (seb μ a0)) 31) 31 = hs (seb μ a0) (-1) 3 28 0 := by
    have e := hs_m1 (p := p3 (seb μ a0)) (x := fs (p3 (seb μ a0)) 31) (fun k hk => by
      rw [fs_bt 31 (by decide) k (by omega)]
      by_cases c : p3 (seb μ a0) k = true
      · rw [if_pos ⟨hk, c⟩]; simp [c]
      · rw [if_neg (fun q => c q.2)]; simp [c]) 31 0 0 (by decide) (by decide)
    rw [← hs_p3]
    rw [show ((0 : Nat) : Int) = 0 from rfl, show (0 : Nat) + 31 = 31 from rfl, show pc (fs (p3 (seb μ a0)) 31) 0 = 0 from rfl] at e
    rw [e]; omega
  rw [l0e]
  have rr := hs_r (p := seb μ a0) (i := -1) 28 3 0 (by decide) (by decide) (by decide) (by decide)
  have rr0 : 0 ≤ hs (seb μ a0) (-1) 3 28 0 := by rw [← l0e]; exact (pc_rg _ 31).1
  let g : Int → Int := fun d => grd μ (seb μ a0) a0 d
  have hg : ∀ d, 0 ≤ g d ∧ g d ≤ 31 := fun d => by
    have := grp_r 28 (p := seb μ a0) (pl := fun t => pwt μ a0 t d)
    show 0 ≤ grp (seb μ a0) (fun t => pwt μ a0 t d) 28 ∧ grp (seb μ a0) (fun t => pwt μ a0 t d) 28 ≤ 31
    omega
  have lr := lkd_r (g := g) ⟨rr0, rr.2⟩ hg
  have ref : ∀ κ, Off (FT μ) μ κ → Ci G mX8_look [(2, 110), (0, a0)] SHl κ (fun r' μ2 => (lkd g (hs (seb μ a0) (-1) 3 28 0) 30).2 = r' ∧ R32 (lkd g (hs (seb μ a0) (-1) 3 28 0) 30).2 ∧ Inv μ2) := by
    intro ν of
    obtain ⟨hi, en, el⟩ := off8 h of
    have se : ∀ t, sees ν a0 t ↔ sees μ a0 t := fun t => by
      have r : ∀ k i, 94 ≤ k ∧ k ≤ 101 ∨ k = 22 ∨ k = 23 → ν k i = μ k i := fun k i c => of k i (by unfold FT FM FR' FR; omega)
      unfold sees pwt
      rw [r 94 3 (by omega)]
      simp only [r 95 _ (Or.inl (by decide)), r 96 _ (Or.inl (by decide)), r 97 _ (Or.inl (by decide)), r 22 _ (Or.inr (Or.inl rfl)), r 23 _ (Or.inr (Or.inr rfl)), plc_FT h of]
    have sb : seb ν a0 = seb μ a0 := by
      funext t
      rw [Bool.eq_iff_iff, seb_t, seb_t, se]
    have pe : ∀ t d, pwt ν a0 t d = pwt μ a0 t d := fun t d => by
      have r : ∀ k i, k = 22 ∨ k = 23 → ν k i = μ k i := fun k i c => of k i (by unfold FT FM FR' FR; omega)
      unfold pwt
      rw [plc_FT h of, r 22 a0 (by omega), r 23 a0 (by omega)]
    refine eX8_look (fun Φ hΦ hR => bX8_look_0 hΦ hR ⟨so_110, c8_isW hi ha0 (fun _ _ => yes_ (c8_teeth (κ0 := ν) hi ha0 (by decide) x0 (by omega) (fun κ rx => ?_))) (fun d => absurd ⟨x0, by omega⟩ d)⟩)
    rw [sb]
    have x1' : a0 < nW ν := by omega
    have outer : ∀ (m n : Nat) (κ : Mem), n + m = 30 → RX ν κ → Ex G Φ 8 23 [some (2, 110), some (0, a0), some (0, (lkd g (hs (seb μ a0) (-1) 3 28 0) n).2), some (0, (lkd g (hs (seb μ a0) (-1) 3 28 0) n).1), some (0, (n : Int) + 1), none, none, none] [] SHl κ 0 0 := by
      intro m
      induction m with
      | zero =>
        intro n κ hn rx
        obtain rfl : n = 30 := by omega
        have := lr 30 (by decide)
        exact bX8_look_23 hΦ hR ⟨⟨by decide, by decide⟩, fun _ => ⟨rfl, ⟨by omega, by omega⟩, FT_inv hi rx.1⟩, fun c => absurd (by decide) c⟩
      | succ m ih =>
        intro n κ hn rx
        have ln := lr n (by omega)
        have gn := hg ((n : Int) + 1)
        generalize hs (seb μ a0) (-1) 3 28 0 = l0 at *
        have nx : ∀ κ', RX ν κ' → Ex G Φ 8 23 [some (2, 110), some (0, a0), some (0, (lkd g l0 (n + 1)).2), some (0, (lkd g l0 (n + 1)).1), some (0, (n : Int) + 1 + 1), none, none, none] [] SHl κ' 0 0 := fun κ' rx' => by
          have := ih (n + 1) κ' (by omega) rx'
          rw [show (((n + 1 : Nat)) : Int) + 1 = (n : Int) + 1 + 1 by omega] at this
          exact this
        have fin : ∀ κ', RX ν κ' → Ex G Φ 8 60 [some (2, 110), some (0, a0), some (0, (lkd g l0 n).2), some (0, (lkd g l0 n).1), some (0, (n : Int) + 1), some (0, g ((n : Int) + 1)), some (0, 31), none] [] SHl κ' 0 0 := fun κ' rx' => by
          have nn := nx κ' rx'
          refine bX8_look_60 hΦ hR ⟨⟨by decide, by decide⟩, fun _ => ⟨⟨by omega, by omega⟩, ⟨by omega, by omega⟩, fun c => ?_, fun c => ?_⟩, fun c => absurd (by decide) c⟩
          · rw [lkd_k c] at nn; exact nn
          · rw [lkd_c c] at nn; exact nn
        have inner : ∀ (q j : Nat) (κ : Mem), j + q = 28 → RX ν κ → (∀ i, 0 ≤ i → i < 30 → κ 129 i = ctp (seb μ a0) (fun t => pwt μ a0 t ((n : Int) + 1)) j i) → Ex G Φ 8 60 [some (2, 110), some (0, a0), some (0, (lkd g l0 n).2), some (0, (lkd g l0 n).1), some (0, (n : Int) + 1), some (0, grp (seb μ a0) (fun t => pwt μ a0 t ((n : Int) + 1)) j), some (0, 3 + (j : Int)), none] [] SHl κ 0 0 := by
          intro q
          induction q with
          | zero =>
            intro j κ hj rx hc
            obtain rfl : j = 28 := by omega
            exact fin κ rx
          | succ q ihq =>
            intro j κ hj rx hc
            have wk := (FT_inv hi rx.1).1
            have nxt : ∀ κ', RX ν κ' → (∀ i, 0 ≤ i → i < 30 → κ' 129 i = ctp (seb μ a0) (fun t => pwt μ a0 t ((n : Int) + 1)) (j + 1) i) → Ex G Φ 8 60 [some (2, 110), some (0, a0), some (0, (lkd g l0 n).2), some (0, (lkd g l0 n).1), some (0, (n : Int) + 1), some (0, grp (seb μ a0) (fun t => pwt μ a0 t ((n : Int) + 1)) (j + 1)), some (0, 3 + (j : Int) + 1), none] [] SHl κ' 0 0 := fun κ' rx' c' => by
              have := ihq (j + 1) κ' (by omega) rx' c'
              rw [show 3 + ((j + 1 : Nat) : Int) = 3 + (j : Int) + 1 by omega] at this
              exact this
            have pr := pwt_rg (μ := μ) (w := a0) (t := 3 + (j : Int)) (n := (n : Int) + 1) (by omega)
            have g1 := grp_r j (p := seb μ a0) (pl := fun t => pwt μ a0 t ((n : Int) + 1))
            have c1 := ctp_r j (pwt μ a0 (3 + (j : Int)) ((n : Int) + 1)) (p := seb μ a0) (pl := fun t => pwt μ a0 t ((n : Int) + 1))
            refine bX8_look_60 hΦ hR ⟨⟨by omega, by omega⟩, fun c => absurd c (by omega), fun _ => ⟨so_110, c8_mayHave hi rx x0 x1' ⟨by omega, by omega⟩ (fun s => ⟨R32_1, fun c => absurd c (by decide), fun _ => c8_placeBy hi rx x0 x1' ⟨by omega, by omega⟩ ⟨by omega, by omega⟩ ?_⟩) (fun s => ⟨R32_0, fun _ => ?_, fun c => absurd rfl c⟩)⟩⟩
            · have yp : seb μ a0 (3 + (j : Int)) = true := seb_t.mpr ((se _).mp s)
              rw [wf_110_38 wk, pe]
              refine ⟨ai_129 pr.1 (by omega), ?_⟩
              rintro m9 e9
              have o9 : RX ν m9 := ⟨by rw [e9]; exact Off.mu rx.1 (by unfold FT; omega), fun w' q0 q1 => by rw [e9, mu_off2 (by omega), mu_off2 (by omega)]; exact rx.2 w' q0 q1⟩
              have w9 : m9 110 38 = 129 := wf_110_38 (FT_inv hi o9.1).1
              have v9 : m9 129 (pwt μ a0 (3 + (j : Int)) ((n : Int) + 1)) = ctp (seb μ a0) (fun t => pwt μ a0 t ((n : Int) + 1)) j (pwt μ a0 (3 + (j : Int)) ((n : Int) + 1)) + 1 := by rw [e9, mu_same, hc _ pr.1 (by omega)]
              have := nxt m9 o9 (fun i i0 i1 => by
                rw [ctp_y yp, e9]
                by_cases z : i = pwt μ a0 (3 + (j : Int)) ((n : Int) + 1)
                · rw [if_pos z, z, mu_same, hc _ pr.1 (by omega)]
                · rw [if_neg z, mu_off2 (by omega)]; exact hc i i0 i1)
              rw [grp_y yp] at this
              rw [w9, v9]
              refine ⟨ai_129 pr.1 (by omega), ⟨by omega, by omega⟩, ⟨by omega, by omega⟩, fun c => ?_, fun c => ?_⟩
              · rw [if_neg (by omega)] at this; exact this
              · rw [if_pos (by omega)] at this; exact this
            · have np : ¬ seb μ a0 (3 + (j : Int)) = true := fun z => s ((se _).mpr (seb_t.mp z))
              have := nxt κ rx (fun i i0 i1 => by rw [ctp_n np]; exact hc i i0 i1)
              rw [grp_n np] at this; exact this
        have clear : ∀ (q : Nat) (j : Int) (κ : Mem), 0 ≤ j → j + q = 30 → RX ν κ → (∀ i, 0 ≤ i → i < j → κ 129 i = 0) → Ex G Φ 8 36 [some (2, 110), some (0, a0), some (0, (lkd g l0 n).2), some (0, (lkd g l0 n).1), some (0, (n : Int) + 1), some (0, 0), some (0, j), none] [] SHl κ 0 0 := by
          intro q
          induction q with
          | zero =>
            intro j κ j0 hj rx hc
            obtain rfl : j = 30 := by omega
            exact bX8_look_36 hΦ hR ⟨⟨by decide, by decide⟩, fun _ => inner 28 0 κ (by decide) rx hc, fun c => absurd (by decide) c⟩
          | succ q ihq =>
            intro j κ j0 hj rx hc
            have wk := (FT_inv hi rx.1).1
            refine bX8_look_36 hΦ hR ⟨⟨by omega, by omega⟩, fun c => absurd c (by omega), fun _ => ⟨so_110, ?_⟩⟩
            rw [wf_110_38 wk]
            refine ⟨ai_129 j0 (by omega), ?_⟩
            rintro m4 e4
            refine ihq (j + 1) m4 (by omega) (by omega) ⟨by rw [e4]; exact Off.mu rx.1 (by unfold FT; omega), fun w' q0 q1 => by rw [e4, mu_off2 (by omega), mu_off2 (by omega)]; exact rx.2 w' q0 q1⟩ (fun i i0 i1 => ?_)
            rw [e4]
            by_cases z : i = j
            · rw [z, mu_same]
            · rw [mu_off2 (by omega)]; exact hc i i0 (by omega)
        exact bX8_look_23 hΦ hR ⟨⟨by omega, by omega⟩, fun c => absurd c (by omega), fun _ => clear 30 0 κ (by decide) (by decide) rx (fun i i0 i1 => by omega)⟩
    exact outer 30 0 κ (by decide) rx
  have loop : ∀ (m n : Nat) (κ : Mem), n + m = 30 → Off (FT μ) μ κ → Ex G Φ 7 28 [some (2, 0), some (0, a0), some (0, fs (p3 (seb μ a0)) 31), some (0, (lkd g (hs (seb μ a0) (-1) 3 28 0) n).1), some (0, (lkd g (hs (seb μ a0) (-1) 3 28 0) n).2), some (0, (n : Int) + 1), none] [] SHl κ 0 0 := by
    intro m
    induction m with
    | zero =>
      intro n κ hn of
      obtain rfl : n = 30 := by omega
      exact bX7_look_28 hΦ hR ⟨⟨by decide, by decide⟩, fun _ => ref κ of, fun c => absurd (by decide) c⟩
    | succ m ih =>
      intro n κ hn of
      have ln := lr n (by omega)
      have gn := hg ((n : Int) + 1)
      refine bX7_look_28 hΦ hR ⟨⟨by omega, by omega⟩, fun c => absurd c (by omega), fun _ => ⟨so_0, c7_greatest (p := seb μ a0) h of x0 x1 ⟨by omega, by omega⟩ (fun κ' o' => ?_)⟩⟩
      have nx := ih (n + 1) κ' (by omega) o'
      rw [show (((n + 1 : Nat)) : Int) + 1 = (n : Int) + 1 + 1 by omega] at nx
      have gn' : R32 (grd μ (seb μ a0) a0 ((n : Int) + 1)) := by have : 0 ≤ grd μ (seb μ a0) a0 ((n : Int) + 1) ∧ grd μ (seb μ a0) a0 ((n : Int) + 1) ≤ 31 := gn; exact ⟨by omega, by omega⟩
      refine ⟨gn', ⟨by omega, by omega⟩, fun c => ?_, fun c => ?_⟩
      · rw [lkd_k (g := g) c] at nx; exact nx
      · rw [lkd_c (g := g) c] at nx; exact nx
  exact loop 30 0 μ (by decide) Off.rf
