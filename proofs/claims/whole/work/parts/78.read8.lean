/-! READING, the reference -/
def RT (T : Int → Int) (n : Int) (κ : Mem) : Prop := WF κ ∧ κ 110 22 = n ∧ (0 ≤ n ∧ n ≤ 250) ∧ ∀ i, 0 ≤ i → i < n → κ 121 i = T i ∧ 0 ≤ T i ∧ T i ≤ 255
def FR2 (k i : Int) : Prop := k = 110 ∧ 23 ≤ i ∧ i ≤ 26
theorem RT.off {T : Int → Int} {n : Int} {κ κ' : Mem} (h : RT T n κ) (o : ∀ k i, dF k i ∨ (k = 110 ∧ i = 22) ∨ k = 121 → κ' k i = κ k i) : RT T n κ' := by
  obtain ⟨a, b, c, d⟩ := h
  refine ⟨wf_sm a (fun k i q => o k i (Or.inl q)), (o _ _ (Or.inr (Or.inl ⟨rfl, rfl⟩))).trans b, c, fun i i0 i1 => ?_⟩
  rw [o _ _ (Or.inr (Or.inr rfl))]; exact d i i0 i1
theorem fr2_o {κ κ' : Mem} (o : Off FR2 κ κ') : ∀ k i, dF k i ∨ (k = 110 ∧ i = 22) ∨ k = 121 → κ' k i = κ k i := fun k i c => o k i (by unfold dF at c; unfold FR2; omega)
def R8s (T : Int → Int) (n : Int) (r : Int × Int) (κ : Mem) : Prop := RT T n κ ∧ (r.1 = 0 → κ 110 25 = 0 ∧ κ 110 23 = r.2 ∧ κ 110 26 = -1) ∧ (r.1 ≠ 0 → κ 110 25 = r.1 ∧ κ 110 26 = r.2) ∧ (0 ≤ r.1 ∧ r.1 ≤ 4)
theorem R8s.r5 {T : Int → Int} {n : Int} {r : Int × Int} {κ : Mem} (h : R8s T n r κ) : 0 ≤ κ 110 25 ∧ κ 110 25 ≤ 4 ∧ (κ 110 25 = 0 ↔ r.1 = 0) := by
  obtain ⟨-, a, b, c⟩ := h
  by_cases z : r.1 = 0
  · have := (a z).1
    exact ⟨by omega, by omega, by omega⟩
  · have := (b z).1
    exact ⟨by omega, by omega, by omega⟩
theorem R8s.off {T : Int → Int} {n : Int} {r : Int × Int} {κ κ' : Mem} (h : R8s T n r κ) (o : ∀ k i, dF k i ∨ (k = 110 ∧ (i = 22 ∨ i = 23 ∨ i = 25 ∨ i = 26)) ∨ k = 121 → κ' k i = κ k i) : R8s T n r κ' := by
  refine ⟨h.1.off (fun k i c => o k i (c.imp id (fun z => z.imp (fun y => ⟨y.1, Or.inl y.2⟩) id))), fun e => ?_, fun e => ?_, h.2.2.2⟩
  · rw [o 110 25 (by omega), o 110 23 (by omega), o 110 26 (by omega)]; exact h.2.1 e
  · rw [o 110 25 (by omega), o 110 26 (by omega)]; exact h.2.2.1 e
theorem r8_at {T : Int → Int} {n x y : Int} {r : Int × Int} {κ : Mem} (h : R8s T n r κ) (he : r.1 = 0 → x = y) : R8s T n (bnd r (fun _ => (0, y))) (mu κ 110 23 x) ∧ Off FR2 κ (mu κ 110 23 x) := by
  have o : Off FR2 κ (mu κ 110 23 x) := Off.mu Off.rf (by unfold FR2; omega)
  refine ⟨⟨h.1.off (fr2_o o), fun e => ?_, fun e => ?_, ?_⟩, o⟩
  · have z : r.1 = 0 := Classical.byContradiction fun z => by rw [bnd_1 z] at e; exact z e
    rw [bnd_0 z, mu_off2 (by omega), mu_same, mu_off2 (by omega)]
    have := h.2.1 z
    exact ⟨this.1, he z, this.2.2⟩
  · have z : r.1 ≠ 0 := fun z => by rw [bnd_0 z] at e; exact e rfl
    rw [bnd_1 z, mu_off2 (by omega), mu_off2 (by omega)]
    exact h.2.2.1 z
  · by_cases z : r.1 = 0
    · rw [bnd_0 z]; show (0 : Int) ≤ 0 ∧ (0 : Int) ≤ 4; decide
    · rw [bnd_1 z]; exact h.2.2.2
theorem r8_24 {T : Int → Int} {n x : Int} {r : Int × Int} {κ : Mem} (h : R8s T n r κ) : R8s T n r (mu κ 110 24 x) ∧ Off FR2 κ (mu κ 110 24 x) :=
  ⟨h.off (fun k i c => by unfold dF at c; rw [mu_off2 (by omega)]), Off.mu Off.rf (by unfold FR2; omega)⟩
theorem c8_here {G : Gm} {T : Int → Int} {n : Int} {κ : Mem} {Q : Int → Mem → Prop} (rt : RT T n κ) (hp : 0 ≤ κ 110 23 ∧ κ 110 23 ≤ 300) (q : Q (if skp T n (κ 110 23) < n then T (skp T n (κ 110 23)) else -1) (mu κ 110 23 (skp T n (κ 110 23)))) : Ci G mX8_here [(2, 110)] SHl κ Q := by
  refine eX8_here (fun Φ hΦ hR => ?_)
  have loop : ∀ (m : Nat) (p : Int), 0 ≤ p → p ≤ 300 → n - p ≤ m → Q (if skp T n p < n then T (skp T n p) else -1) (mu κ 110 23 (skp T n p)) → Ex G Φ 1 0 [some (2, 110)] [] SHl (mu κ 110 23 p) 0 0 := by
    intro m
    have body : ∀ p, 0 ≤ p → p ≤ 300 → (p < n → T p = 32 → Ex G Φ 1 0 [some (2, 110)] [] SHl (mu κ 110 23 (p + 1)) 0 0) → (¬ (p < n ∧ T p = 32) → Q (if p < n then T p else -1) (mu κ 110 23 p)) → Ex G Φ 1 0 [some (2, 110)] [] SHl (mu κ 110 23 p) 0 0 := fun p p0 p1 nx fin => by
      have rt' : RT T n (mu κ 110 23 p) := rt.off (fr2_o (Off.mu Off.rf (by unfold FR2; omega)))
      obtain ⟨wf, e2, en, et⟩ := rt'
      refine bX8_here_0 hΦ hR ⟨so_110, ?_⟩
      rw [e2, mu_same, wf_110_21 wf]
      refine ⟨⟨by omega, by omega⟩, ⟨by omega, by omega⟩, fun c => ⟨fun _ => ?_, fun d => absurd c d⟩, fun c => ?_⟩
      · have := fin (fun z => by omega)
        rw [if_neg (by omega)] at this; exact this
      · obtain ⟨t1, t2⟩ := et p p0 (by omega)
        rw [t1]
        refine ⟨ai_121 p0 (by omega), ⟨by omega, by omega⟩, fun d => ⟨fun c' => absurd c' c, fun _ => ?_⟩, fun d => ?_⟩
        · have := fin (fun z => d z.2)
          rw [if_pos (by omega)] at this; exact this
        · rintro m6 e6
          rw [e6, mu_mu]
          exact nx (by omega) d
    induction m with
    | zero =>
      intro p p0 p1 hm K
      exact body p p0 p1 (fun c _ => by omega) (fun z => by rw [skp_n z] at K; exact K)
    | succ m ih =>
      intro p p0 p1 hm K
      refine body p p0 p1 (fun c d => ih (p + 1) (by omega) (by have := rt.2.2.1; omega) (by omega) ?_) (fun z => by rw [skp_n z] at K; exact K)
      rw [skp_y c d] at K; exact K
  have := loop (n - κ 110 23).toNat (κ 110 23) hp.1 hp.2 (by omega) q
  rw [mu_id] at this
  exact this
/-- a wish that is good, or not -/
theorem c8_wantY {G : Gm} {T : Int → Int} {n g m p : Int} {r : Int × Int} {κ : Mem} {Q : Int → Mem → Prop} (h : R8s T n r κ) (hg : R32 g) (g1 : g ≠ 0) (k1 : r.1 = 0 → Q 1 κ) (k0 : r.1 ≠ 0 → Q 0 κ) : Ci G mX8_want [(2, 110), (0, g), (0, m), (0, p)] SHl κ Q := by
  have r5 := h.r5
  refine eX8_want (fun Φ hΦ hR => bX8_want_0 hΦ hR ⟨hg, fun _ => ⟨so_110, ⟨by omega, by omega⟩, fun d => k0 (fun z => d (r5.2.2.mpr z)), fun d => k1 (r5.2.2.mp d)⟩, fun c => absurd c g1⟩)
theorem c8_wantN {G : Gm} {T : Int → Int} {n m p : Int} {r : Int × Int} {κ : Mem} {Q : Int → Mem → Prop} (h : R8s T n r κ) (hm : 1 ≤ m ∧ m ≤ 4) (k : ∀ κ', Off FR2 κ κ' → κ' 110 24 = κ 110 24 → R8s T n (bnd r (fun _ => (m, p))) κ' → Q 0 κ') : Ci G mX8_want [(2, 110), (0, 0), (0, m), (0, p)] SHl κ Q := by
  have r5 := h.r5
  refine eX8_want (fun Φ hΦ hR => bX8_want_0 hΦ hR ⟨R32_0, fun c => absurd rfl c, fun _ => ⟨so_110, ⟨by omega, by omega⟩, fun d => ⟨fun _ => ?_, fun e => absurd e d⟩, fun d => ?_⟩⟩)
  · have z : r.1 ≠ 0 := fun z => d (r5.2.2.mpr z)
    exact k κ Off.rf rfl (by rw [bnd_1 z]; exact h)
  · rintro m6 e6 m7 e7
    have z := r5.2.2.mp d
    have o : Off FR2 κ m7 := by rw [e7, e6]; exact Off.mu (Off.mu Off.rf (by unfold FR2; omega)) (by unfold FR2; omega)
    have v : m7 110 25 = m := by rw [e7, e6, mu_off2 (by omega), mu_same]
    have res : R8s T n (bnd r (fun _ => (m, p))) m7 := by
      rw [bnd_0 z]
      refine ⟨h.1.off (fr2_o o), fun e => ?_, fun _ => ⟨v, by rw [e7, mu_same]⟩, ?_⟩
      · have : m = 0 := e
        omega
      · show 0 ≤ m ∧ m ≤ 4; omega
    rw [v]
    exact ⟨⟨by omega, by omega⟩, fun _ => k m7 o (by rw [e7, e6, mu_off2 (by omega), mu_off2 (by omega)]) res, fun e => by omega⟩
theorem c8_takeNumber {G : Gm} {T : Int → Int} {n lo hi : Int} {r : Int × Int} {κ : Mem} {Q : Int → Mem → Prop} (h : R8s T n r κ) (hb : r.1 = 0 → 0 ≤ r.2 ∧ r.2 ≤ 300) (rlo : R32 lo) (rhi : R32 hi) (q : ∀ v κ', Off FR2 κ κ' → R8s T n (bnd r (pnum T n lo hi)) κ' → 0 ≤ v ∧ v ≤ 999999 → ((bnd r (pnum T n lo hi)).1 = 0 → v = numV T n r.2) → (r.1 = 0 → κ' 110 24 = skp T n r.2) → Q v κ') : Ci G mX8_takeNumber [(2, 110), (0, lo), (0, hi)] SHl κ Q := by
  have r5 := h.r5
  have hn := h.1.2.2.1
  refine eX8_takeNumber (fun Φ hΦ hR => bX8_takeNumber_0 hΦ hR ⟨so_110, ⟨by omega, by omega⟩, fun c => ?_, fun c => ?_⟩)
  · have z := r5.2.2.mp (by omega)
    have at_ := (h.2.1 z).2.1
    have b3 := hb z
    have sp := skp_p (T := T) (n := n) (p := r.2)
    refine c8_here h.1 ⟨by omega, by omega⟩ ?_
    obtain ⟨a1, o1⟩ := r8_at (x := skp T n (κ 110 23)) (y := skp T n r.2) h (fun _ => by rw [at_])
    rw [at_] at a1 o1 ⊢
    rw [bnd_0 z] at a1
    generalize hs : skp T n r.2 = s at *
    rintro m4 e4
    rw [mu_same] at e4
    obtain ⟨a2, o2⟩ := r8_24 (x := s) a1
    rw [← e4] at a2 o2
    have f3 : m4 110 23 = s := (a2.2.1 rfl).2.1
    have f4 : m4 110 24 = s := by rw [e4, mu_same]
    have o12 : Off FR2 κ m4 := o1.tr o2
    have dp := dge_p (T := T) (n := n) (p := s)
    have de := dge_e (T := T) (n := n) (p := s)
    generalize hde : dge T n s = e at *
    have ts : s < n → 0 ≤ T s ∧ T s ≤ 255 := fun lt => (h.1.2.2.2 s (by omega) lt).2
    have cr : R32 (if s < n then T s else -1) := by
      split
      · rename_i lt; have := ts lt; exact ⟨by omega, by omega⟩
      · decide
    have pn : pnum T n lo hi r.2 = (if e = s then (1, s) else if 3 < e - s ∨ numV T n r.2 < lo ∨ hi < numV T n r.2 then (2, s) else (0, e)) := by
      unfold pnum
      rw [hs, hde]
    refine ⟨cr, c_m_in (r64 cr) ⟨by decide, by decide⟩ ⟨by decide, by decide⟩ (fun d1 d2 => ?_) (fun d => ?_)⟩
    · -- a figure
      have lt : s < n := Classical.byContradiction fun y => by rw [if_neg y] at d1; omega
      rw [if_pos lt] at d1 d2 ⊢
      have es : s < e := by
        rcases Int.lt_or_eq_of_le dp.1 with y | y
        · exact y
        · rw [← y] at de; exact absurd ⟨lt, d1, d2⟩ de
      refine c8_wantY a2 R32_1 (by decide) (fun _ => ⟨R32_1, fun _ => ?_, fun y => absurd y (by decide)⟩) (fun y => absurd rfl y)
      have fin : ∀ v, 0 ≤ v ∧ v ≤ 999999 → (e - s ≤ 6 → v = nv T s (e - s).toNat) → Ex G Φ 6 128 [some (2, 110), some (0, lo), some (0, hi), some (0, T s), some (0, v), none] [] SHl (mu m4 110 23 e) 0 0 := fun v v0 ve => by
        obtain ⟨a3, o3⟩ := r8_at (x := e) (y := e) a2 (fun _ => rfl)
        rw [bnd_0 rfl] at a3
        have c3 : mu m4 110 23 e 110 23 = e := mu_same
        have c4 : mu m4 110 23 e 110 24 = s := by rw [mu_off2 (by omega)]; exact f4
        generalize mu m4 110 23 e = κ4 at *
        have nvz : e - s ≤ 3 → v = numV T n r.2 := fun y => by
          unfold numV; rw [hs, hde]; exact ve (by omega)
        have bad : pnum T n lo hi r.2 = (2, s) → Ci G mX8_want [(2, 110), (0, 0), (0, 2), (0, s)] SHl κ4 (fun r3 μ3 => Q v μ3) := fun y =>
          c8_wantN a3 ⟨by decide, by decide⟩ (fun κ' o' f' a' => q v κ' ((o12.tr o3).tr o') (by rw [bnd_0 z, y]; rw [bnd_0 rfl] at a'; exact a') v0 (fun x => by rw [bnd_0 z, y] at x; exact absurd x (show ¬ (2 : Int) = 0 by decide)) (fun _ => by rw [f', c4]))
        refine bX8_takeNumber_128 hΦ hR ⟨so_110, ?_⟩
        rw [c3, c4]
        refine ⟨⟨by omega, by omega⟩, fun y => bad (by rw [pn, if_neg (by omega), if_pos (Or.inl (by omega))]), fun y => ⟨⟨by omega, by omega⟩, rlo, rhi, c_m_in ⟨by omega, by omega⟩ (r64 rlo) (r64 rhi) (fun y1 y2 => ?_) (fun y1 => ?_)⟩⟩
        · have hok : pnum T n lo hi r.2 = (0, e) := by rw [pn, if_neg (by omega), if_neg (by rw [← nvz (by omega)]; omega)]
          refine ⟨R32_1, fun x => absurd x (by decide), fun _ => ?_⟩
          rw [c4]
          exact c8_wantY a3 R32_1 (by decide) (fun _ => q v κ4 (o12.tr o3) (by rw [bnd_0 z, hok]; exact a3) v0 (fun _ => nvz (by omega)) (fun _ => c4)) (fun x => absurd rfl x)
        · refine ⟨R32_0, fun _ => ?_, fun x => absurd rfl x⟩
          rw [c4]
          exact bad (by rw [pn, if_neg (by omega), if_pos (Or.inr (by rw [← nvz (by omega)]; omega))])
      have loop : ∀ (m k : Nat) (v : Int), s + k + m = e → 0 ≤ v ∧ v ≤ 999999 → (k ≤ 6 → v = nv T s k) → Ex G Φ 6 50 [some (2, 110), some (0, lo), some (0, hi), some (0, T s), some (0, v), none] [] SHl (mu m4 110 23 (s + k)) 0 0 := by
        intro m
        induction m with
        | zero =>
          intro k v hk v0 ve
          rw [show s + (k : Int) = e by omega]
          obtain ⟨wf, e2, en, et⟩ := a2.1.off (κ' := mu m4 110 23 e) (fr2_o (Off.mu Off.rf (by unfold FR2; omega)))
          have done := fin v v0 (fun y => by rw [show (e - s).toNat = k by omega]; exact ve (by omega))
          refine bX8_takeNumber_50 hΦ hR ⟨so_110, ?_⟩
          rw [e2, mu_same, wf_110_21 wf]
          refine ⟨⟨by omega, by omega⟩, ⟨by omega, by omega⟩, fun _ => done, fun y => ?_⟩
          obtain ⟨t1, t2⟩ := et e (by omega) (by omega)
          rw [t1]
          exact ⟨ai_121 (by omega) (by omega), ⟨by omega, by omega⟩, c_m_in ⟨by omega, by omega⟩ ⟨by decide, by decide⟩ ⟨by decide, by decide⟩ (fun y1 y2 => absurd ⟨by omega, y1, y2⟩ de) (fun _ => ⟨R32_0, fun _ => done, fun x => absurd rfl x⟩)⟩
        | succ m ih =>
          intro k v hk v0 ve
          have dk := dp.2.2 (s + k) (by omega) (by omega)
          obtain ⟨wf, e2, en, et⟩ := a2.1.off (κ' := mu m4 110 23 (s + k)) (fr2_o (Off.mu Off.rf (by unfold FR2; omega)))
          obtain ⟨t1, t2⟩ := et (s + k) (by omega) (by omega)
          have nx : ∀ v', 0 ≤ v' ∧ v' ≤ 999999 → (k + 1 ≤ 6 → v' = nv T s (k + 1)) → Ex G Φ 6 50 [some (2, 110), some (0, lo), some (0, hi), some (0, T s), some (0, v'), none] [] SHl (mu m4 110 23 (s + k + 1)) 0 0 := fun v' y1 y2 => by
            have := ih (k + 1) v' (by omega) y1 y2
            rw [show s + ((k + 1 : Nat) : Int) = s + (k : Int) + 1 by omega] at this
            exact this
          have nvs : nv T s (k + 1) = 10 * nv T s k + T (s + k) - 48 := rfl
          refine bX8_takeNumber_50 hΦ hR ⟨so_110, ?_⟩
          rw [e2, mu_same, wf_110_21 wf, t1]
          refine ⟨⟨by omega, by omega⟩, ⟨by omega, by omega⟩, fun y => absurd y (by omega), fun _ => ⟨ai_121 (by omega) (by omega), ⟨by omega, by omega⟩, c_m_in ⟨by omega, by omega⟩ ⟨by decide, by decide⟩ ⟨by decide, by decide⟩ (fun _ _ => ⟨R32_1, fun x => absurd x (by decide), fun _ => ⟨⟨by omega, by omega⟩, fun y => ?_, fun y => ?_⟩⟩) (fun y => absurd dk y)⟩⟩
          · rw [wf_110_21 wf, mu_same, t1]
            refine ⟨ai_121 (by omega) (by omega), ?_⟩
            rintro m10 e10
            rw [e10, mu_mu]
            exact nx _ ⟨by omega, by omega⟩ (fun y6 => by rw [nvs, ← ve (by omega)])
          · rw [mu_same]
            rintro m11 e11
            rw [e11, mu_mu]
            refine nx v v0 (fun y6 => ?_)
            have k5 : k ≤ 5 := by omega
            have b := nv_r (T := T) (s := s) k (fun i i0 i1 => dp.2.2 i i0 (by omega))
            have p5 : ∀ k : Nat, k < 6 → (10 : Int) ^ k ≤ 100000 := by decide +kernel
            have := p5 k (by omega)
            have := ve (by omega)
            omega
      have st := loop (e - s).toNat 0 0 (by omega) (by decide) (fun _ => rfl)
      rw [show s + ((0 : Nat) : Int) = m4 110 23 by rw [f3]; omega, mu_id] at st
      exact st
    · -- no figure
      have es : e = s := by
        have : ¬ (s < n ∧ 48 ≤ T s ∧ T s ≤ 57) := fun y => d (by rw [if_pos y.1]; exact y.2)
        rw [← hde]; exact dge_n this
      rw [f3]
      refine c8_wantN a2 ⟨by decide, by decide⟩ (fun κ' o' f' a' => ⟨R32_0, fun y => absurd rfl y, fun _ => ?_⟩)
      have hp : pnum T n lo hi r.2 = (1, s) := by rw [pn, if_pos es]
      rw [bnd_0 rfl] at a'
      exact q 0 κ' (o12.tr o') (by rw [bnd_0 z, hp]; exact a') (by decide) (fun x => by rw [bnd_0 z, hp] at x; exact absurd x (show ¬ (1 : Int) = 0 by decide)) (fun _ => by rw [f', f4])
  · have z : r.1 ≠ 0 := fun z => by have := r5.2.2.mpr z; omega
    exact q 0 κ Off.rf (by rw [bnd_1 z]; exact h) (by decide) (fun x => by rw [bnd_1 z] at x; exact absurd x z) (fun x => absurd x z)
