/-! A WHOLE TEXT, the reference -/
def hd (T : Int → Int) (n : Int) : Nat → Int × Int
  | 0 => (0, 0)
  | j + 1 => bnd (clP T n (itr T n j).1 (itr T n j).2.2) (pend T n)
theorem itr_hd {T : Int → Int} {n : Int} : ∀ j : Nat, (itr T n j).2 = bnd (hd T n j) (fun q => (0, skp T n q))
  | 0 => by
    show (0, skp T n 0) = bnd (0, 0) (fun q => (0, skp T n q))
    rw [bnd_0 rfl]
  | j + 1 => rfl
theorem hd_z {T : Int → Int} {n : Int} {j : Nat} : (itr T n j).2.1 = 0 ↔ (hd T n j).1 = 0 := by
  rw [itr_hd]
  constructor
  · intro z; exact (bnd_z z).1
  · intro z; rw [bnd_0 z]
theorem hd_0 {T : Int → Int} {n : Int} {j : Nat} (z : (hd T n j).1 = 0) : (itr T n j).2 = (0, skp T n (hd T n j).2) := by rw [itr_hd, bnd_0 z]
theorem hd_1 {T : Int → Int} {n : Int} {j : Nat} (z : (hd T n j).1 ≠ 0) : (itr T n j).2 = hd T n j := by rw [itr_hd, bnd_1 z]
theorem hd_bd {T : Int → Int} {n : Int} (hn : 0 ≤ n) : ∀ j : Nat, (∀ i, i < j → act T n i) → 0 ≤ (hd T n j).2 ∧ (hd T n j).2 ≤ n
  | 0, _ => by show (0 : Int) ≤ 0 ∧ (0 : Int) ≤ n; omega
  | j + 1, h => by
    obtain ⟨gr, bd⟩ := itr_p (T := T) hn j (fun i hi => h i (by omega))
    obtain ⟨a1, a2⟩ := h j (by omega)
    have b0 := bd.1 a1
    have bc := bd_cl (T := T) (g := (itr T n j).1) (show 0 ≤ (itr T n j).2.2 by omega) a2
    have be : Bd ((itr T n j).2.2 + 1) n (bnd (clP T n (itr T n j).1 (itr T n j).2.2) (pend T n)) := bd_bnd bc (fun q q0 q1 => bd_pend (by omega) q0 q1)
    exact be.2
theorem c8_clockLoop {G : Gm} {Φ : Fr} {Q : Int → Mem → Prop} (hΦ : St G Φ cX8_clock RX8 2 4 95 0 0) (hR : Rt G Φ (Pi SHl Q) 0 0 (some .int)) {T : Int → Int} {n : Int} {κ0 : Mem} {N : Nat} (hn : 0 ≤ n ∧ n ≤ 250) (na : ¬ act T n N) (pre : ∀ j, j < N → act T n j)
    (K : ∀ κ', R8s T n (itr T n N).2 κ' → ((itr T n N).2.1 = 0 → G8 (itr T n N).1 κ') → Off FN κ0 κ' → Ex G Φ 2 109 [some (2, 110), none] [] SHl κ' 0 0) : ∀ (m j : Nat) (κ : Mem), j + m = N → R8s T n (hd T n j) κ → ((hd T n j).1 = 0 → G8 (itr T n j).1 κ) → Off FN κ0 κ → Ex G Φ 2 45 [some (2, 110), none] [] SHl κ 0 0 := by
  intro m
  have last : ∀ j, j ≤ N → ¬ act T n j → j = N := fun j h1 h2 => Classical.byContradiction fun h3 => h2 (pre j (by omega))
  have body : ∀ (j : Nat) (κ : Mem), j ≤ N → R8s T n (hd T n j) κ → ((hd T n j).1 = 0 → G8 (itr T n j).1 κ) → Off FN κ0 κ → (j < N → ∀ κ', R8s T n (hd T n (j + 1)) κ' → ((hd T n (j + 1)).1 = 0 → G8 (itr T n (j + 1)).1 κ') → Off FN κ0 κ' → Ex G Φ 2 45 [some (2, 110), none] [] SHl κ' 0 0) → Ex G Φ 2 45 [some (2, 110), none] [] SHl κ 0 0 := by
    intro j κ hj h hg of nx
    have r5 := h.r5
    have pj : ∀ i, i < j → act T n i := fun i hi => pre i (by omega)
    have hb := hd_bd (T := T) hn.1 j pj
    obtain ⟨gr, -⟩ := itr_p (T := T) hn.1 j pj
    refine bX8_clock_45 hΦ hR ⟨so_110, ⟨by omega, by omega⟩, fun c => ?_, fun c => ?_⟩
    · have z : (hd T n j).1 ≠ 0 := fun z => c (r5.2.2.mpr z)
      have e : j = N := last j hj (fun a => z (hd_z.mp a.1))
      subst e
      exact K κ (by rw [hd_1 z]; exact h) (fun y => absurd (hd_z.mp y) z) of
    · have z := r5.2.2.mp c
      have at_ := (h.2.1 z).2.1
      have ei := hd_0 z
      have e1 : (itr T n j).2.1 = 0 := hd_z.mpr z
      have e2 : (itr T n j).2.2 = skp T n (hd T n j).2 := by rw [ei]
      refine c8_here h.1 ⟨by omega, by omega⟩ ?_
      rw [at_]
      obtain ⟨a1, o1⟩ := r8_at (x := skp T n (hd T n j).2) (y := skp T n (hd T n j).2) h (fun _ => rfl)
      rw [bnd_0 z] at a1
      have sid : skp T n (skp T n (hd T n j).2) = skp T n (hd T n j).2 := skp_id
      have sp := skp_p (T := T) (n := n) (p := (hd T n j).2)
      generalize hs : skp T n (hd T n j).2 = s at *
      generalize hκ3 : mu κ 110 23 s = κ3 at *
      have g3 := (hg z).off o1
      have of3 : Off FN κ0 κ3 := of.tr o1.fn
      by_cases lt : s < n
      · have a : act T n j := ⟨e1, by rw [e2]; exact lt⟩
        have jn : j < N := by
          rcases Nat.lt_or_eq_of_le hj with y | y
          · exact y
          · rw [y] at a; exact absurd a na
        have tr := (h.1.2.2.2 s (by omega) lt).2
        rw [if_pos lt]
        have step := nx jn
        refine ⟨⟨by omega, by omega⟩, fun y => absurd y (by omega), fun _ => c8_takeClause a1 g3 gr (by omega) lt sid (fun κ5 o5 h5 g5 => ?_)⟩
        have hdj : hd T n (j + 1) = bnd (clP T n (itr T n j).1 s) (pend T n) := by
          show bnd (clP T n (itr T n j).1 (itr T n j).2.2) (pend T n) = _
          rw [e2]
        have itj : (hd T n (j + 1)).1 = 0 → (itr T n (j + 1)).1 = clG T n (itr T n j).1 s := fun y => by
          show (if (bnd (clP T n (itr T n j).1 (itr T n j).2.2) (pend T n)).1 = 0 then clG T n (itr T n j).1 (itr T n j).2.2 else (itr T n j).1) = _
          rw [e2, if_pos (by rw [← hdj]; exact y)]
        have r55 := h5.r5
        have bc := bd_cl (T := T) (g := (itr T n j).1) (show 0 ≤ s by omega) lt
        have bc1 := bc.2.1
        have bc2 := bc.2.2
        refine ⟨⟨by omega, by omega⟩, fun y => ?_, fun y => ?_⟩
        · have z5 : (clP T n (itr T n j).1 s).1 ≠ 0 := fun x => y (r55.2.2.mpr x)
          rw [bnd_1 z5] at hdj
          exact step κ5 (by rw [hdj]; exact h5) (fun x => absurd (by rw [hdj] at x; exact x) z5) (of3.tr o5)
        · have z5 := r55.2.2.mp y
          have at5 := (h5.2.1 z5).2.1
          rw [bnd_0 z5] at hdj
          refine c8_here h5.1 ⟨by omega, by omega⟩ ?_
          rw [at5]
          obtain ⟨a7, o7⟩ := r8_at (x := skp T n (clP T n (itr T n j).1 s).2) (y := skp T n (clP T n (itr T n j).1 s).2) h5 (fun _ => rfl)
          rw [bnd_0 z5] at a7
          have sp2 := skp_p (T := T) (n := n) (p := (clP T n (itr T n j).1 s).2)
          have g7 := (g5 z5).off o7
          unfold pend at hdj
          generalize skp T n (clP T n (itr T n j).1 s).2 = s2 at *
          have at7 : mu κ5 110 23 s2 110 23 = s2 := mu_same
          generalize mu κ5 110 23 s2 = κ7 at *
          have of7 : Off FN κ0 κ7 := (of3.tr o5).tr o7.fn
          rw [at7]
          have rr : R32 (if s2 < n then T s2 else -1) := by
            split
            · rename_i lt2
              have := (h.1.2.2.2 s2 (by omega) lt2).2
              exact ⟨by omega, by omega⟩
            · decide
          refine ⟨rr, fun d => ?_, fun d => ?_⟩
          · have nd : ¬ (s2 < n ∧ T s2 = 59) := fun x => d (by rw [if_pos x.1]; exact x.2)
            rw [if_neg nd] at hdj
            refine c8_wantN a7 ⟨by decide, by decide⟩ (fun κ9 o9 _ h9 => ⟨R32_0, fun _ => ?_, fun x => absurd rfl x⟩)
            rw [bnd_0 rfl] at h9
            exact step κ9 (by rw [hdj]; exact h9) (fun x => by rw [hdj] at x; exact absurd x (show ¬ (1 : Int) = 0 by decide)) (of7.tr o9.fn)
          · have yd : s2 < n ∧ T s2 = 59 := by
              by_cases lt2 : s2 < n
              · rw [if_pos lt2] at d; exact ⟨lt2, d⟩
              · rw [if_neg lt2] at d; exact absurd d (by decide)
            rw [if_pos yd] at hdj
            refine c8_wantY a7 R32_1 (by decide) (fun _ => ⟨R32_1, fun x => absurd x (by decide), fun _ => ?_⟩) (fun x => absurd rfl x)
            rintro m14 e14
            rw [at7] at e14
            obtain ⟨a9, o9⟩ := r8_at (x := s2 + 1) (y := s2 + 1) a7 (fun _ => rfl)
            rw [bnd_0 rfl, ← e14] at a9
            rw [← e14] at o9
            exact step m14 (by rw [hdj]; exact a9) (fun x => by rw [itj x]; exact g7.off o9) (of7.tr o9.fn)
      · have e : j = N := last j hj (fun a => lt (by rw [← e2]; exact a.2))
        subst e
        rw [if_neg lt]
        exact ⟨by decide, fun _ => K κ3 (by rw [ei]; exact a1) (fun _ => g3) of3, fun y => absurd (by decide) y⟩
  induction m with
  | zero =>
    intro j κ hj h hg of
    exact body j κ (by omega) h hg of (fun y => absurd hj (by omega))
  | succ m ih =>
    intro j κ hj h hg of
    exact body j κ (by omega) h hg of (fun _ κ' h' g' of' => ih (j + 1) κ' (by omega) h' g' of')
