/-! ODDS of no slip, the reference: how far each wheel is -/
def FI (μ : Mem) (d : Int) (k : Nat) (κ : Mem) : Prop := ∀ x, 0 ≤ x → x < nW μ → (0 ≤ κ 124 x ∧ κ 124 x ≤ 99) ∧ (κ 124 x < 99 → ∃ p : List Int, (p.length : Int) = κ 124 x ∧ Wl μ d p x) ∧ ∀ p, p.length ≤ k → Wl μ d p x → κ 124 x ≤ p.length
def FJ (μ : Mem) (d : Int) (k : Nat) (l : Int) (κ : Mem) : Prop := FI μ d k κ ∧ ∀ j x y p, j < l → adj μ j x y → p.length ≤ k → Wl μ d p y → κ 124 x ≤ p.length + 1
def FE (μ : Mem) (d : Int) (κ : Mem) : Prop := ∀ x, 0 ≤ x → x < nW μ → (0 ≤ κ 124 x ∧ κ 124 x ≤ 99) ∧ (∀ n, Dt μ d n x → κ 124 x = n) ∧ ∀ n : Nat, n ≤ 98 → κ 124 x = n → Dt μ d n x
theorem fe_of {μ κ : Mem} (h : Inv μ) {d : Int} (fi : FI μ d 8 κ) : FE μ d κ := fun x x0 x1 => by
  obtain ⟨r, w, b⟩ := fi x x0 x1
  have dn : ∀ n, Dt μ d n x → κ 124 x = n := fun n hn => by
    have n7 := dt_7 h hn x0 x1
    obtain ⟨⟨p, p1, p2⟩, p3⟩ := hn
    have := b p (by omega) p2
    obtain ⟨q, q1, q2⟩ := w (by omega)
    have := p3 q q2
    omega
  refine ⟨r, dn, fun n hn e => ?_⟩
  obtain ⟨q, q1, q2⟩ := w (by omega)
  obtain ⟨m, m1, m2⟩ := dt_ex q.length q x (Nat.le_refl _) q2
  have := dn m m2
  rw [show n = m by omega]; exact m2
theorem fj_end {μ κ : Mem} {d : Int} {k : Nat} (h : Inv μ) (fj : FJ μ d k (nL μ) κ) : FI μ d (k + 1) κ := fun x x0 x1 => by
  obtain ⟨r, w, b⟩ := fj.1 x x0 x1
  refine ⟨r, w, fun p hp hw => ?_⟩
  by_cases c : p.length ≤ k
  · exact b p c hw
  · cases p with
    | nil => simp at c
    | cons j q =>
      obtain ⟨y, a, hw'⟩ := hw
      have e : (j :: q).length = q.length + 1 := rfl
      rw [e] at c hp ⊢
      have := fj.2 j x y q a.1.2.1 a (by omega) hw'
      omega
theorem fj_off {μ κ κ' : Mem} {d l : Int} {k : Nat} (fj : FJ μ d k l κ) (e : ∀ x, κ' 124 x = κ 124 x) (off : bt_ (μ 29 2) l ≠ 0) : FJ μ d k (l + 1) κ' := by
  refine ⟨fun x x0 x1 => by rw [e]; exact fj.1 x x0 x1, fun j x y p hj a hp hw => ?_⟩
  rw [e]
  by_cases c : j = l
  · rw [c] at a; exact absurd a.1.2.2 off
  · exact fj.2 j x y p (by omega) a hp hw
theorem fj_on {μ κ κ' : Mem} (h : Inv μ) {d l a b : Int} {k : Nat} (fj : FJ μ d k l κ) (ab : adj μ l a b) (hb : κ' 124 b = if κ 124 b ≤ κ 124 a + 1 then κ 124 b else κ 124 a + 1) (ha : κ' 124 a = if κ 124 a ≤ κ 124 b + 1 then κ 124 a else κ 124 b + 1) (ho : ∀ x, x ≠ a → x ≠ b → κ' 124 x = κ 124 x) : FJ μ d k (l + 1) κ' := by
  obtain ⟨⟨a0, a1⟩, ⟨b0, b1⟩, ne⟩ := adj_rg h ab
  obtain ⟨ra, wa, ba⟩ := fj.1 a a0 a1
  obtain ⟨rb, wb, bb⟩ := fj.1 b b0 b1
  have dec : ∀ x, 0 ≤ x → x < nW μ → κ' 124 x ≤ κ 124 x := fun x x0 x1 => by
    by_cases c : x = a
    · rw [c, ha]; split <;> omega
    · by_cases c2 : x = b
      · rw [c2, hb]; split <;> omega
      · rw [ho x c c2]; exact Int.le_refl _
  refine ⟨fun x x0 x1 => ?_, fun j x y p hj aj hp hw => ?_⟩
  · obtain ⟨rx, wx, bx⟩ := fj.1 x x0 x1
    have dx := dec x x0 x1
    refine ⟨?_, fun lt => ?_, fun p hp hw => Int.le_trans dx (bx p hp hw)⟩
    · by_cases c : x = a
      · rw [c, ha]; split <;> omega
      · by_cases c2 : x = b
        · rw [c2, hb]; split <;> omega
        · rw [ho x c c2]; exact rx
    · by_cases c : x = a
      · rw [c] at lt ⊢
        rw [ha] at lt ⊢
        split at lt
        · rename_i q; rw [if_pos q]; exact wa lt
        · rename_i q; rw [if_neg q]
          obtain ⟨p, p1, p2⟩ := wb (by omega)
          exact ⟨l :: p, by simp [p1], b, ab, p2⟩
      · by_cases c2 : x = b
        · rw [c2] at lt ⊢
          rw [hb] at lt ⊢
          split at lt
          · rename_i q; rw [if_pos q]; exact wb lt
          · rename_i q; rw [if_neg q]
            obtain ⟨p, p1, p2⟩ := wa (by omega)
            exact ⟨l :: p, by simp [p1], a, adj_sym ab, p2⟩
        · rw [ho x c c2] at lt ⊢; exact wx lt
  · have rx := adj_rg h aj
    by_cases c : j = l
    · rw [c] at aj
      by_cases cx : x = a
      · rw [cx] at aj ⊢
        have := adj_fun h ab aj
        rw [← this] at hw
        have := bb p hp hw
        rw [ha]; split <;> omega
      · have xb : x = b := by
          rcases ab.2 with ⟨c1, c2⟩ | ⟨c1, c2⟩ <;> rcases aj.2 with ⟨d1, d2⟩ | ⟨d1, d2⟩ <;> omega
        rw [xb] at aj ⊢
        have := adj_fun h (adj_sym ab) aj
        rw [← this] at hw
        have := ba p hp hw
        rw [hb]; split <;> omega
    · have := fj.2 j x y p (by omega) aj hp hw
      have := dec x rx.1.1 rx.1.2
      omega
theorem c8_findFar {G : Gm} {Q : Mem → Prop} {μ κ0 : Mem} (h : Inv μ) (hn : 0 < nW μ) (of0 : Off (FT μ) μ κ0) (q : ∀ κ, Off (FT μ) μ κ → FE μ (μ (wW μ) 3) κ → Q κ) : Cv G mX8_findFar [(2, 110)] SHl κ0 Q := by
  have hW := h.W
  have nw := h.nw
  have hl := h.nl
  have hd := h.dr
  have d1 := hd.2.2.1 hn
  have ic := h.2.2.2.1.c
  have icr := ic.r h.2.1
  have cr : R32 (μ 29 2) := ⟨by omega, by omega⟩
  have rc : ∀ κ, Off (FT μ) μ κ → κ 110 5 = μ (wW μ) 3 ∧ κ 110 3 = nL μ ∧ κ 111 10 = μ 29 2 ∧ WF κ := fun κ of => ⟨(of _ _ (by unfold FT FM FR' FR; omega)).trans hd.1.symm, (of _ _ (by unfold FT FM FR' FR; omega)).trans hl.1.symm, (of _ _ (by unfold FT FM FR' FR; omega)).trans ic.1, (FT_inv h of).1⟩
  have rl : ∀ κ, Off (FT μ) μ κ → ∀ l, 0 ≤ l → l < nL μ → κ 116 l = μ (wW μ + 5) l ∧ κ 117 l = μ (wW μ + 6) l := fun κ of l l0 l1 => by
    obtain ⟨-, ⟨k2, -⟩, ⟨k3, -⟩, -⟩ := h.L l0 l1
    exact ⟨(of _ _ (by unfold FT FM FR' FR; omega)).trans k2.symm, (of _ _ (by unfold FT FM FR' FR; omega)).trans k3.symm⟩
  generalize hdr : μ (wW μ) 3 = d at *
  refine eX8_findFar (fun Φ hΦ hR => bX8_findFar_0 hΦ hR ?_)
  have sweep : ∀ (m k : Nat) (κ : Mem), k + m = 8 → Off (FT μ) μ κ → FI μ d k κ → Ex G Φ 5 36 [some (2, 110), some (0, (k : Int)), none, none, none] [] SHl κ 0 0 := by
    intro m
    induction m with
    | zero =>
      intro k κ hk of fi
      obtain rfl : k = 8 := by omega
      exact bX8_findFar_36 hΦ hR ⟨⟨by decide, by decide⟩, fun _ => q κ of (fe_of h fi), fun c => absurd (by decide) c⟩
    | succ m ih =>
      intro k κ hk of fi
      have nx : ∀ κ', Off (FT μ) μ κ' → FI μ d (k + 1) κ' → Ex G Φ 5 36 [some (2, 110), some (0, (k : Int) + 1), none, none, none] [] SHl κ' 0 0 := fun κ' o' b' => by
        have := ih (k + 1) κ' (by omega) o' b'
        rw [show (((k + 1 : Nat)) : Int) = (k : Int) + 1 by omega] at this
        exact this
      have inner : ∀ (m : Nat) (l : Int) (κ : Mem), 0 ≤ l → l + m = nL μ → Off (FT μ) μ κ → FJ μ d k l κ → Ex G Φ 5 44 [some (2, 110), some (0, (k : Int)), some (0, l), none, none] [] SHl κ 0 0 := by
        intro m
        induction m with
        | zero =>
          intro l κ l0 hm of fj
          obtain ⟨r5, r3, r10, wk⟩ := rc κ of
          refine bX8_findFar_44 hΦ hR ⟨so_110, ⟨by omega, by omega⟩, ?_⟩
          rw [r3]
          refine ⟨⟨by omega, by omega⟩, fun _ => nx κ of (fj_end h (by rw [show nL μ = l by omega]; exact fj)), fun c => absurd (by omega) c⟩
        | succ m ihm =>
          intro l κ l0 hm of fj
          have l1 : l < nL μ := by omega
          obtain ⟨r5, r3, r10, wk⟩ := rc κ of
          obtain ⟨k16, k17⟩ := rl κ of l l0 l1
          obtain ⟨-, ⟨-, p0, p1⟩, ⟨-, q0, q1⟩, ne, -⟩ := h.L l0 l1
          obtain ⟨ra, -, -⟩ := fj.1 _ p0 p1
          obtain ⟨rb, -, -⟩ := fj.1 _ q0 q1
          generalize ea : μ (wW μ + 5) l = a at *
          generalize eb : μ (wW μ + 6) l = b at *
          -- what both minima leave
          have last : ∀ (A B : Int), 0 ≤ A → A ≤ 100 → 0 ≤ B → B ≤ 100 → (∀ κ', Off (FT μ) μ κ' → κ' 124 b = (if κ 124 b ≤ A then κ 124 b else A) → κ' 124 a = (if κ 124 a ≤ B then κ 124 a else B) → (∀ x, x ≠ a → x ≠ b → κ' 124 x = κ 124 x) → FJ μ d k (l + 1) κ') → Ex G Φ 5 117 [some (2, 110), some (0, (k : Int)), some (0, l), some (0, A), none] [(0, B)] SHl κ 0 0 := fun A B hA0 hA1 hB0 hB1 K => by
            have end_ : ∀ v, v = (if κ 124 b ≤ A then κ 124 b else A) → Ex G Φ 5 159 [some (2, 110), some (0, (k : Int)), some (0, l), some (0, A), some (0, B)] [(0, v), (0, b), (2, 124)] SHl κ 0 0 := fun v hv => by
              refine bX8_findFar_159 hΦ hR ⟨ai_124 q0 (by omega), ?_⟩
              rintro m2 e2
              have o2 : Off (FT μ) μ m2 := by rw [e2]; exact Off.mu of (by unfold FT; omega)
              obtain ⟨-, -, -, w2⟩ := rc m2 o2
              obtain ⟨i16, -⟩ := rl m2 o2 l l0 l1
              rw [ea] at i16
              have va : m2 124 a = κ 124 a := by rw [e2, mu_off2 (by omega)]
              rw [wf_110_16 w2, wf_110_32 w2, i16, va]
              have kk : ∀ u, u = (if κ 124 a ≤ B then κ 124 a else B) → ∀ m8, m8 = mu m2 124 a u → Ex G Φ 5 44 [some (2, 110), some (0, (k : Int)), some (0, l + 1), none, none] [] SHl m8 0 0 := fun u hu m8 e8 => by
                have o8 : Off (FT μ) μ m8 := by rw [e8]; exact Off.mu o2 (by unfold FT; omega)
                refine ihm (l + 1) m8 (by omega) (by omega) o8 (K m8 o8 ?_ ?_ (fun x c1 c2 => ?_))
                · rw [e8, e2, mu_off2 (by omega), mu_same]; exact hv
                · rw [e8, mu_same]; exact hu
                · rw [e8, e2, mu_off2 (by omega), mu_off2 (by omega)]
              exact ⟨so_110, ai_116 l0 (by omega), ai_124 p0 (by omega), ⟨by omega, by omega⟩, ⟨by omega, by omega⟩, fun c => kk _ (by rw [if_pos c]), fun c => kk _ (by rw [if_neg c])⟩
            refine bX8_findFar_117 hΦ hR ⟨so_110, ?_⟩
            rw [wf_110_17 wk, wf_110_32 wk, k17]
            exact ⟨ai_117 l0 (by omega), ai_124 q0 (by omega), ⟨by omega, by omega⟩, ⟨by omega, by omega⟩, fun c => end_ _ (by rw [if_pos c]), fun c => end_ _ (by rw [if_neg c])⟩
          refine bX8_findFar_44 hΦ hR ⟨so_110, ⟨by omega, by omega⟩, ?_⟩
          rw [r3, wf_110_0 wk, r10]
          refine ⟨⟨by omega, by omega⟩, fun c => absurd c (by omega), fun _ => ⟨ai_111 (by decide) (by decide), c_m_has cr l0 (by omega) ⟨R32_one (bt_rg _ _), fun on => ?_, fun on => ?_⟩⟩⟩
          · rw [wf_110_16 wk, wf_110_32 wk, k16]
            refine ⟨ai_116 l0 (by omega), ai_124 p0 (by omega), bX8_findFar_84 hΦ hR ⟨so_110, ?_⟩⟩
            rw [wf_110_0 wk, r10]
            refine ⟨ai_111 (by decide) (by decide), c_m_has cr l0 (by omega) ⟨R32_one (bt_rg _ _), fun _ => ?_, fun c => absurd on c⟩⟩
            rw [wf_110_17 wk, wf_110_32 wk, k17]
            refine ⟨ai_117 l0 (by omega), ai_124 q0 (by omega), last (κ 124 a + 1) (κ 124 b + 1) (by omega) (by omega) (by omega) (by omega) (fun κ' o' hb ha ho => ?_)⟩
            exact fj_on h fj ⟨⟨l0, l1, on⟩, Or.inl ⟨ea, eb⟩⟩ hb ha ho
          · refine bX8_findFar_84 hΦ hR ⟨so_110, ?_⟩
            rw [wf_110_0 wk, r10]
            refine ⟨ai_111 (by decide) (by decide), c_m_has cr l0 (by omega) ⟨R32_one (bt_rg _ _), fun c => absurd c on, fun _ => ?_⟩⟩
            refine last 99 99 (by decide) (by decide) (by decide) (by decide) (fun κ' o' hb ha ho => fj_off fj (fun x => ?_) on)
            by_cases c1 : x = a
            · rw [c1, ha, if_pos ra.2]
            · by_cases c2 : x = b
              · rw [c2, hb, if_pos rb.2]
              · exact ho x c1 c2
      exact bX8_findFar_36 hΦ hR ⟨⟨by omega, by omega⟩, fun c => absurd c (by omega), fun _ => inner (nL μ).toNat 0 κ (by decide) (by omega) of ⟨fi, fun j x y p hj a hp hw => by have := a.1.1; omega⟩⟩
  have init : ∀ (m : Nat) (i : Int) (κ : Mem), 0 ≤ i → i + m = 8 → Off (FT μ) μ κ → (∀ x, 0 ≤ x → x < i → κ 124 x = if x = d then 0 else 99) → Ex G Φ 5 2 [some (2, 110), some (0, i), none, none, none] [] SHl κ 0 0 := by
    intro m
    induction m with
    | zero =>
      intro i κ i0 hm of hc
      obtain rfl : i = 8 := by omega
      refine bX8_findFar_2 hΦ hR ⟨⟨by decide, by decide⟩, fun _ => sweep 8 0 κ (by decide) of (fun x x0 x1 => ?_), fun c => absurd (by decide) c⟩
      have e := hc x x0 (by omega)
      by_cases c : x = d
      · rw [if_pos c] at e
        rw [e]
        exact ⟨by decide, fun _ => ⟨[], rfl, c⟩, fun p _ _ => by omega⟩
      · rw [if_neg c] at e
        rw [e]
        refine ⟨by decide, fun z => absurd z (by decide), fun p hp hw => ?_⟩
        cases p with
        | nil => exact absurd hw c
        | cons a b => simp at hp
    | succ m ih =>
      intro i κ i0 hm of hc
      obtain ⟨r5, r3, r10, wk⟩ := rc κ of
      refine bX8_findFar_2 hΦ hR ⟨⟨by omega, by omega⟩, fun c => absurd c (by omega), fun _ => ⟨so_110, ?_⟩⟩
      rw [r5, wf_110_32 wk]
      have kk : ∀ v, v = (if i = d then 0 else 99) → ∀ m5, m5 = mu κ 124 i v → Ex G Φ 5 2 [some (2, 110), some (0, i + 1), none, none, none] [] SHl m5 0 0 := fun v hv m5 e5 => by
        refine ih (i + 1) m5 (by omega) (by omega) (by rw [e5]; exact Off.mu of (by unfold FT; omega)) (fun x x0 x1 => ?_)
        by_cases c : x = i
        · rw [c, e5, mu_same]; exact hv
        · rw [e5, mu_off2 (by omega)]; exact hc x x0 (by omega)
      exact ⟨⟨by omega, by omega⟩, fun c => ⟨ai_124 i0 (by omega), kk 99 (by rw [if_neg c])⟩, fun c => ⟨ai_124 i0 (by omega), kk 0 (by rw [if_pos c])⟩⟩
  exact init 8 0 κ0 (by decide) (by decide) of0 (fun x x0 x1 => by omega)
