theorem c7_draw {G : Gm} {Q : Int → Mem → Prop} {κ ν : Mem} {n : Int} (e : EqC κ ν) (hn : 1 ≤ n ∧ n ≤ 30) (k : ∀ κ', EqC κ' (SD ν (dr (ν 0 12))) → (∀ a i, 110 ≤ a → κ' a i = κ a i) → Q (dr (ν 0 12) / 65536 % n) κ') : Ci G mX7_draw [(2, 0), (0, n)] SHl κ Q := by
  have rg := dr_rg (ν 0 12)
  refine eX7_draw (fun Φ hΦ hR => bX7_draw_0 hΦ hR ⟨so_0, ?_⟩)
  rintro m2 e2
  have g : m2 0 12 = dr (ν 0 12) := by rw [e2, mu_same, mand_31, e 0 12 (by decide)]; rfl
  have t : Int.tdiv (dr (ν 0 12)) 65536 = dr (ν 0 12) / 65536 := by rw [tdiv_pos (by decide), if_pos (Or.inl rg.1)]
  rw [g, t]
  refine ⟨⟨by omega, by omega⟩, ⟨by omega, by omega⟩, ⟨by omega, by omega⟩, c_leftOver ⟨by omega, by omega⟩ (by omega) (by omega) (k m2 (fun a i ha => ?_) (fun a i ha => by rw [e2, mu_off2 (by omega)]))⟩
  unfold SD
  rw [mu_off2 (k := 111) (by omega)]
  by_cases c : a = 0 ∧ i = 12
  · rw [mu_on2 c.1 c.2, c.1, c.2]; exact g
  · rw [mu_off2 c, e2, mu_off2 c]; exact e a i ha
theorem c8_draw {G : Gm} {Q : Int → Mem → Prop} {κ ν : Mem} {n : Int} (wf : WF κ) (e : EqR κ ν) (h : Inv ν) (hn : 1 ≤ n ∧ n ≤ 30) (k : ∀ κ', EqR κ' (SD ν (dr (ν 0 12))) → (∀ a i, a < 110 → κ' a i = κ a i) → Q (dr (ν 0 12) / 65536 % n) κ') : Ci G mX8_draw [(2, 110), (0, n)] SHl κ Q := by
  have rg := dr_rg (ν 0 12)
  obtain ⟨s1, s2, s3⟩ := h.2.2.2.1.2
  have g0 : κ 111 11 = ν 0 12 := (e 111 11 (by decide) (by unfold FR' FR; omega)).trans s1.symm
  refine eX8_draw (fun Φ hΦ hR => bX8_draw_0 hΦ hR ⟨so_110, ?_⟩)
  rw [wf_110_0 wf, g0]
  refine ⟨ai_111 (by decide) (by decide), ⟨by omega, by omega⟩, ⟨by omega, by omega⟩, ?_⟩
  rintro m5 e5
  have tm : Int.tmod (ν 0 12 * 1103515245 + 12345) 2147483648 = dr (ν 0 12) := by rw [tmod_pos (by decide), if_pos (Or.inl (by omega))]; rfl
  rw [tm] at e5
  have g : m5 111 11 = dr (ν 0 12) := by rw [e5, mu_same]
  have gp : m5 110 0 = 111 := by rw [e5, mu_off2 (by omega)]; exact wf_110_0 wf
  have t : Int.tdiv (dr (ν 0 12)) 65536 = dr (ν 0 12) / 65536 := by rw [tdiv_pos (by decide), if_pos (Or.inl rg.1)]
  have t2 : Int.tmod (dr (ν 0 12) / 65536) n = dr (ν 0 12) / 65536 % n := by rw [tmod_pos (by omega), if_pos (Or.inl (by omega))]
  rw [gp, g, t, t2]
  refine ⟨ai_111 (by decide) (by decide), ⟨by omega, by omega⟩, ⟨by omega, by omega⟩, ⟨by omega, by omega⟩, by omega, k m5 (fun a i ha hf => ?_) (fun a i ha => by rw [e5, mu_off2 (by omega)])⟩
  unfold SD
  by_cases c : a = 111 ∧ i = 11
  · rw [mu_on2 c.1 c.2, c.1, c.2]; exact g
  · rw [mu_off2 c, mu_off2 (by omega), e5, mu_off2 c]; exact e a i ha hf
/-- one day of drift -/
def S1 (ν : Mem) : Mem := SD ν (dr (ν 0 12))
def stp1 (ν : Mem) : Mem := if dr (ν 0 12) / 65536 % 8 = 0 then DY (PS (S1 (S1 ν)) (dr (S1 ν 0 12) / 65536 % nW ν) 1) else DY (S1 ν)
theorem S1_f {ν : Mem} {k i : Int} (h : ¬ (k = 0 ∧ i = 12)) (h' : ¬ (k = 111 ∧ i = 11)) : S1 ν k i = ν k i := by unfold S1 SD; rw [mu_off2 h', mu_off2 h]
theorem S1_inv {ν : Mem} (h : Inv ν) : Inv (S1 ν) ∧ nW (S1 ν) = nW ν ∧ S1 ν 29 0 = ν 29 0 := by
  have hW0 : ν 0 1 = 3 ∨ ν 0 1 = 12 := h.2.1.1
  refine ⟨SD_inv h (dr_rg _), ?_, S1_f (by omega) (by omega)⟩
  show S1 ν (S1 ν 0 1) 0 = ν (ν 0 1) 0
  rw [S1_f (by omega) (by omega), S1_f (by omega) (by omega)]
theorem PS_f {ν : Mem} {w n : Int} (h : Inv ν) : nW (PS ν w n) = nW ν ∧ PS ν w n 29 0 = ν 29 0 := by
  have hW0 : ν 0 1 = 3 ∨ ν 0 1 = 12 := h.2.1.1
  have o : ∀ k i, k < 29 ∨ (k = 29 ∧ i = 0) → PS ν w n k i = ν k i := fun k i c => by unfold PS; rw [mu_off2 (by omega), mu_off2 (by omega), MK_off h.nw.2.2 (by omega)]
  refine ⟨?_, o _ _ (Or.inr ⟨rfl, rfl⟩)⟩
  show PS ν w n (PS ν w n 0 1) 0 = ν (ν 0 1) 0
  rw [o 0 1 (by omega), o _ _ (by omega)]
theorem DY_f {ν : Mem} (h : Inv ν) : nW (DY ν) = nW ν ∧ DY ν 29 0 = ν 29 0 + 1 := by
  have hW0 : ν 0 1 = 3 ∨ ν 0 1 = 12 := h.2.1.1
  have o : ∀ k i, k < 29 → DY ν k i = ν k i := fun k i c => by unfold DY; rw [mu_off2 (by omega), mu_off2 (by omega)]
  refine ⟨?_, by unfold DY; rw [mu_off2 (by omega), mu_same]⟩
  show DY ν (DY ν 0 1) 0 = ν (ν 0 1) 0
  rw [o 0 1 (by omega), o _ _ (by omega)]
theorem stp1_inv {ν : Mem} (h : Inv ν) (hn : 0 < nW ν) (hd : ν 29 0 < 910000) : Inv (stp1 ν) ∧ nW (stp1 ν) = nW ν ∧ stp1 ν 29 0 = ν 29 0 + 1 := by
  obtain ⟨h1, n1, d1⟩ := S1_inv h
  obtain ⟨h2, n2, d2⟩ := S1_inv h1
  have hw := h.nw
  unfold stp1
  split
  · have r0 := Int.emod_nonneg (dr (S1 ν 0 12) / 65536) (show nW ν ≠ 0 by omega)
    have r1 := Int.emod_lt_of_pos (dr (S1 ν 0 12) / 65536) hn
    have hp := PS_inv (w := dr (S1 ν 0 12) / 65536 % nW ν) (n := 1) h2 r0 (by omega)
    obtain ⟨pn, pd⟩ := PS_f (w := dr (S1 ν 0 12) / 65536 % nW ν) (n := 1) h2
    have hy := DY_inv hp (by omega)
    obtain ⟨yn, yd⟩ := DY_f hp
    exact ⟨hy, by omega, by omega⟩
  · have hy := DY_inv h1 (by omega)
    obtain ⟨yn, yd⟩ := DY_f h1
    exact ⟨hy, by omega, by omega⟩
def stN (ν : Mem) : Nat → Mem
  | 0 => ν
  | k + 1 => stp1 (stN ν k)
theorem stN_inv {ν : Mem} (h : Inv ν) (hn : 0 < nW ν) (hd : ν 29 0 ≤ 900000) : ∀ k : Nat, k ≤ 99 → Inv (stN ν k) ∧ nW (stN ν k) = nW ν ∧ stN ν k 29 0 = ν 29 0 + k
  | 0, _ => ⟨h, rfl, by show ν 29 0 = _; omega⟩
  | k + 1, hk => by
    obtain ⟨a, b, c⟩ := stN_inv h hn hd k (by omega)
    obtain ⟨a', b', c'⟩ := stp1_inv a (by omega) (by omega)
    exact ⟨a', b'.trans b, by show stp1 (stN ν k) 29 0 = _; omega⟩
