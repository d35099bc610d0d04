/-! READING, told without a machine -/
def rnF (c : Int → Bool) (n : Int) : Nat → Int → Int
  | 0, p => p
  | k + 1, p => if p < n ∧ c p = true then rnF c n k (p + 1) else p
def rn (c : Int → Bool) (n p : Int) : Int := rnF c n (n - p).toNat p
theorem rn_y {c : Int → Bool} {n p : Int} (h : p < n) (hc : c p = true) : rn c n p = rn c n (p + 1) := by
  unfold rn
  rw [show (n - p).toNat = (n - (p + 1)).toNat + 1 by omega]
  show (if p < n ∧ c p = true then rnF c n (n - (p + 1)).toNat (p + 1) else p) = _
  rw [if_pos ⟨h, hc⟩]
theorem rn_n {c : Int → Bool} {n p : Int} (h : ¬ (p < n ∧ c p = true)) : rn c n p = p := by
  unfold rn
  cases (n - p).toNat with
  | zero => rfl
  | succ k => show (if p < n ∧ c p = true then _ else p) = p; rw [if_neg h]
theorem rn_all {c : Int → Bool} {n : Int} : ∀ (m : Nat) (p : Int), n - p ≤ m → p ≤ rn c n p ∧ (rn c n p ≤ n ∨ rn c n p = p) ∧ (¬ (rn c n p < n ∧ c (rn c n p) = true)) ∧ ∀ i, p ≤ i → i < rn c n p → c i = true
  | 0, p, h => by
    have : ¬ (p < n ∧ c p = true) := fun q => by omega
    rw [rn_n this]
    exact ⟨Int.le_refl _, Or.inr rfl, this, fun i i0 i1 => by omega⟩
  | m + 1, p, h => by
    by_cases q : p < n ∧ c p = true
    · rw [rn_y q.1 q.2]
      obtain ⟨a, b, d, e⟩ := rn_all (n := n) m (p + 1) (by omega) (c := c)
      refine ⟨by omega, by omega, d, fun i i0 i1 => ?_⟩
      by_cases z : i = p
      · rw [z]; exact q.2
      · exact e i (by omega) i1
    · rw [rn_n q]
      exact ⟨Int.le_refl _, Or.inr rfl, q, fun i i0 i1 => by omega⟩
theorem rn_p {c : Int → Bool} {n p : Int} : p ≤ rn c n p ∧ (rn c n p ≤ n ∨ rn c n p = p) ∧ (¬ (rn c n p < n ∧ c (rn c n p) = true)) ∧ ∀ i, p ≤ i → i < rn c n p → c i = true := rn_all (n - p).toNat p (by omega)
theorem rn_id {c : Int → Bool} {n p : Int} : rn c n (rn c n p) = rn c n p := rn_n rn_p.2.2.1
def bk (T : Int → Int) : Int → Bool := fun x => decide (T x = 32)
def dgb (T : Int → Int) : Int → Bool := fun x => decide (48 ≤ T x ∧ T x ≤ 57)
def skp (T : Int → Int) (n p : Int) : Int := rn (bk T) n p
def dge (T : Int → Int) (n p : Int) : Int := rn (dgb T) n p
theorem skp_n {T : Int → Int} {n p : Int} (h : ¬ (p < n ∧ T p = 32)) : skp T n p = p := rn_n (by simpa [bk] using h)
theorem skp_y {T : Int → Int} {n p : Int} (h : p < n) (hc : T p = 32) : skp T n p = skp T n (p + 1) := rn_y h (by simp [bk, hc])
theorem skp_p {T : Int → Int} {n p : Int} : p ≤ skp T n p ∧ (skp T n p ≤ n ∨ skp T n p = p) ∧ ¬ (skp T n p < n ∧ T (skp T n p) = 32) := by
  obtain ⟨a, b, c, -⟩ := rn_p (c := bk T) (n := n) (p := p)
  exact ⟨a, b, fun z => c ⟨z.1, decide_eq_true z.2⟩⟩
theorem skp_id {T : Int → Int} {n p : Int} : skp T n (skp T n p) = skp T n p := rn_id
theorem dge_n {T : Int → Int} {n p : Int} (h : ¬ (p < n ∧ 48 ≤ T p ∧ T p ≤ 57)) : dge T n p = p := rn_n (by simpa [dgb] using h)
theorem dge_y {T : Int → Int} {n p : Int} (h : p < n) (hc : 48 ≤ T p ∧ T p ≤ 57) : dge T n p = dge T n (p + 1) := rn_y h (by simp [dgb, hc])
theorem dge_p {T : Int → Int} {n p : Int} : p ≤ dge T n p ∧ (dge T n p ≤ n ∨ dge T n p = p) ∧ ∀ i, p ≤ i → i < dge T n p → 48 ≤ T i ∧ T i ≤ 57 := by
  obtain ⟨a, b, c, d⟩ := rn_p (c := dgb T) (n := n) (p := p)
  exact ⟨a, b, fun i i0 i1 => by simpa [dgb] using d i i0 i1⟩
def nv (T : Int → Int) (s : Int) : Nat → Int
  | 0 => 0
  | k + 1 => 10 * nv T s k + T (s + k) - 48
def numV (T : Int → Int) (n p : Int) : Int := nv T (skp T n p) (dge T n (skp T n p) - skp T n p).toNat
def pnum (T : Int → Int) (n lo hi p : Int) : Int × Int :=
  if dge T n (skp T n p) = skp T n p then (1, skp T n p)
  else if 3 < dge T n (skp T n p) - skp T n p ∨ numV T n p < lo ∨ hi < numV T n p then (2, skp T n p)
  else (0, dge T n (skp T n p))
def pend (T : Int → Int) (n p : Int) : Int × Int := if skp T n p < n ∧ T (skp T n p) = 59 then (0, skp T n p + 1) else (1, skp T n p)
def kd (c : Int) : Int := if c = 109 then 0 else if c = 98 then 1 else if c = 97 then 2 else -1
def pkind (T : Int → Int) (n p : Int) : Int × Int := if skp T n p < n ∧ kd (T (skp T n p)) ≠ -1 then (0, skp T n p + 1) else (1, skp T n p)
def bnd (r : Int × Int) (f : Int → Int × Int) : Int × Int := if r.1 = 0 then f r.2 else r
theorem bnd_0 {r : Int × Int} {f : Int → Int × Int} (h : r.1 = 0) : bnd r f = f r.2 := if_pos h
theorem bnd_1 {r : Int × Int} {f : Int → Int × Int} (h : r.1 ≠ 0) : bnd r f = r := if_neg h
theorem nv_r {T : Int → Int} {s : Int} : ∀ k : Nat, (∀ i, s ≤ i → i < s + k → 48 ≤ T i ∧ T i ≤ 57) → 0 ≤ nv T s k ∧ nv T s k < 10 ^ k
  | 0, _ => ⟨by show (0 : Int) ≤ 0; decide, by show (0 : Int) < 10 ^ 0; decide⟩
  | k + 1, h => by
    have ih := nv_r k (fun i i0 i1 => h i i0 (by omega))
    have d := h (s + k) (by omega) (by omega)
    rw [Int.pow_succ]
    show 0 ≤ 10 * nv T s k + T (s + k) - 48 ∧ 10 * nv T s k + T (s + k) - 48 < 10 ^ k * 10
    omega
/-! READING, the class -/
theorem mu_mu {μ : Mem} {k i x y : Int} : mu (mu μ k i x) k i y = mu μ k i y := by
  funext a b
  by_cases c : a = k ∧ b = i
  · rw [mu_on2 c.1 c.2, mu_on2 c.1 c.2]
  · rw [mu_off2 c, mu_off2 c, mu_off2 c]
theorem mu_id {μ : Mem} {k i : Int} : mu μ k i (μ k i) = μ := by
  funext a b
  by_cases c : a = k ∧ b = i
  · rw [mu_on2 c.1 c.2, c.1, c.2]
  · rw [mu_off2 c]
def CT (T : Int → Int) (n : Int) (κ : Mem) : Prop := WF κ ∧ κ 1 2 = n ∧ (0 ≤ n ∧ n ≤ 250) ∧ ∀ i, 0 ≤ i → i < n → κ 2 i = T i ∧ 0 ≤ T i ∧ T i ≤ 255
def FRd (k i : Int) : Prop := k = 1 ∧ (i = 3 ∨ i = 4 ∨ i = 6 ∨ i = 7)
theorem CT.off {T : Int → Int} {n : Int} {κ κ' : Mem} (h : CT T n κ) (o : Off FRd κ κ') : CT T n κ' := by
  obtain ⟨a, b, c, d⟩ := h
  refine ⟨wf_sm a (fun k i q => o k i (by unfold dF at q; unfold FRd; omega)), (o _ _ (by unfold FRd; omega)).trans b, c, fun i i0 i1 => ?_⟩
  rw [o _ _ (by unfold FRd; omega)]; exact d i i0 i1
theorem c4_skip {G : Gm} {T : Int → Int} {n : Int} {κ : Mem} {Q : Mem → Prop} (ct : CT T n κ) (hp : 0 ≤ κ 1 3 ∧ κ 1 3 ≤ 300) (q : Q (mu κ 1 3 (skp T n (κ 1 3)))) : Cv G mX4_skipBlanks [(2, 1)] SHl κ Q := by
  refine eX4_skipBlanks (fun Φ hΦ hR => ?_)
  have loop : ∀ (m : Nat) (p : Int), 0 ≤ p → p ≤ 300 → n - p ≤ m → Q (mu κ 1 3 (skp T n p)) → Ex G Φ 1 0 [some (2, 1)] [] SHl (mu κ 1 3 p) 0 0 := by
    intro m
    have body : ∀ p, 0 ≤ p → p ≤ 300 → (p < n → T p = 32 → Ex G Φ 1 0 [some (2, 1)] [] SHl (mu κ 1 3 (p + 1)) 0 0) → Q (mu κ 1 3 (skp T n p)) ∨ (p < n ∧ T p = 32) → (¬ (p < n ∧ T p = 32) → Q (mu κ 1 3 p)) → Ex G Φ 1 0 [some (2, 1)] [] SHl (mu κ 1 3 p) 0 0 := fun p p0 p1 nx _ fin => by
      have ct' : CT T n (mu κ 1 3 p) := ct.off (Off.mu Off.rf (by unfold FRd; omega))
      obtain ⟨wf, e2, en, et⟩ := ct'
      refine bX4_skipBlanks_0 hΦ hR ⟨so_1, ?_⟩
      rw [e2, mu_same]
      refine ⟨⟨by omega, by omega⟩, ⟨by omega, by omega⟩, fun c => fin (fun z => by omega), fun c => ?_⟩
      obtain ⟨t1, t2⟩ := et p p0 (by omega)
      rw [wf_1_0 wf, t1]
      refine ⟨ai_2 p0 (by omega), ⟨by omega, by omega⟩, fun d => fin (fun z => d z.2), fun d => ?_⟩
      rintro m6 e6
      rw [e6, mu_mu]
      exact nx (by omega) d
    induction m with
    | zero =>
      intro p p0 p1 hm K
      exact body p p0 p1 (fun c _ => by omega) (Or.inl K) (fun z => by rw [skp_n z] at K; exact K)
    | succ m ih =>
      intro p p0 p1 hm K
      refine body p p0 p1 (fun c d => ih (p + 1) (by omega) (by have := ct.2.2.1; omega) (by omega) ?_) (Or.inl K) (fun z => by rw [skp_n z] at K; exact K)
      rw [skp_y c d] at K; exact K
  have := loop (n - κ 1 3).toNat (κ 1 3) hp.1 hp.2 (by omega) q
  rw [mu_id] at this
  exact this
theorem c4_fail {G : Gm} {κ : Mem} {Q : Mem → Prop} {m p : Int} (h6 : R32 (κ 1 6)) (q : Q (if κ 1 6 = 0 then mu (mu κ 1 6 m) 1 7 p else κ)) : Cv G mX4_fail [(2, 1), (0, m), (0, p)] SHl κ Q := by
  refine eX4_fail (fun Φ hΦ hR => bX4_fail_0 hΦ hR ⟨so_1, h6, fun c => ?_, fun c => ?_⟩)
  · rw [if_neg c] at q; exact q
  · rw [if_pos c] at q
    rintro m3 e3 m4 e4
    rw [e4, e3]; exact q
/-- where reading stands: no fault and at a place, or the first fault and its place -/
def CS (T : Int → Int) (n b : Int) (r : Int × Int) (κ : Mem) : Prop := CT T n κ ∧ (0 ≤ κ 1 3 ∧ κ 1 3 ≤ b) ∧ (r.1 = 0 → κ 1 6 = 0 ∧ κ 1 3 = r.2 ∧ κ 1 7 = -1) ∧ (r.1 ≠ 0 → κ 1 6 = r.1 ∧ κ 1 7 = r.2) ∧ (0 ≤ r.1 ∧ r.1 ≤ 4)
theorem CS.r6 {T : Int → Int} {n b : Int} {r : Int × Int} {κ : Mem} (h : CS T n b r κ) : 0 ≤ κ 1 6 ∧ κ 1 6 ≤ 4 ∧ (κ 1 6 = 0 ↔ r.1 = 0) := by
  obtain ⟨-, -, a, b, c⟩ := h
  by_cases z : r.1 = 0
  · have := (a z).1
    exact ⟨by omega, by omega, by omega⟩
  · have := (b z).1
    exact ⟨by omega, by omega, by omega⟩
theorem cs_fail {T : Int → Int} {n b m p : Int} {r : Int × Int} {κ : Mem} (h : CS T n b r κ) (hm : 1 ≤ m ∧ m ≤ 4) : CS T n b (bnd r (fun _ => (m, p))) (if κ 1 6 = 0 then mu (mu κ 1 6 m) 1 7 p else κ) ∧ Off FRd κ (if κ 1 6 = 0 then mu (mu κ 1 6 m) 1 7 p else κ) ∧ (if κ 1 6 = 0 then mu (mu κ 1 6 m) 1 7 p else κ) 1 3 = κ 1 3 ∧ (if κ 1 6 = 0 then mu (mu κ 1 6 m) 1 7 p else κ) 1 4 = κ 1 4 := by
  have r6 := h.r6
  by_cases z : r.1 = 0
  · rw [if_pos (r6.2.2.mpr z), bnd_0 z]
    have o : Off FRd κ (mu (mu κ 1 6 m) 1 7 p) := Off.mu (Off.mu Off.rf (by unfold FRd; omega)) (by unfold FRd; omega)
    have e3 : mu (mu κ 1 6 m) 1 7 p 1 3 = κ 1 3 := by rw [mu_off2 (by omega), mu_off2 (by omega)]
    refine ⟨⟨h.1.off o, by rw [e3]; exact h.2.1, fun e => ?_, fun _ => ⟨by rw [mu_off2 (by omega), mu_same], by rw [mu_same]⟩, ?_⟩, o, e3, by rw [mu_off2 (by omega), mu_off2 (by omega)]⟩
    · have : m = 0 := e
      omega
    · show 0 ≤ m ∧ m ≤ 4; omega
  · rw [if_neg (fun e => z (r6.2.2.mp e)), bnd_1 z]
    exact ⟨h, Off.rf, rfl, rfl⟩
/-- the place moves on -/
theorem cs_at {T : Int → Int} {n b b' x y : Int} {r : Int × Int} {κ : Mem} (h : CS T n b r κ) (hx : 0 ≤ x ∧ x ≤ b') (he : r.1 = 0 → x = y) : CS T n b' (bnd r (fun _ => (0, y))) (mu κ 1 3 x) ∧ Off FRd κ (mu κ 1 3 x) := by
  have o : Off FRd κ (mu κ 1 3 x) := Off.mu Off.rf (by unfold FRd; omega)
  refine ⟨⟨h.1.off o, by rw [mu_same]; exact hx, fun e => ?_, fun e => ?_, ?_⟩, o⟩
  · have z : r.1 = 0 := Classical.byContradiction fun z => by rw [bnd_1 z] at e; exact z e
    rw [bnd_0 z, mu_off2 (by omega), mu_same, mu_off2 (by omega)]
    have := h.2.2.1 z
    exact ⟨this.1, he z, this.2.2⟩
  · have z : r.1 ≠ 0 := fun z => by rw [bnd_0 z] at e; exact e rfl
    rw [bnd_1 z, mu_off2 (by omega), mu_off2 (by omega)]
    exact h.2.2.2.1 z
  · by_cases z : r.1 = 0
    · rw [bnd_0 z]; show (0 : Int) ≤ 0 ∧ (0 : Int) ≤ 4; decide
    · rw [bnd_1 z]; exact h.2.2.2.2
theorem c4_passWord {G : Gm} {T : Int → Int} {n p t : Int} {κ : Mem} {Q : Mem → Prop} (h : CS T n 250 (0, p) κ) (ht : t = 0 ∨ t = 1) (q : ∀ κ', Off FRd κ κ' → CS T n 251 (if t = 0 then (0, p + 1) else (3, p)) κ' → Q κ') : Cv G mX4_passWord [(2, 1), (0, t)] SHl κ Q := by
  have r6 := h.r6
  have e3 : κ 1 3 = p := (h.2.2.1 rfl).2.1
  have b3 := h.2.1
  refine eX4_passWord (fun Φ hΦ hR => bX4_passWord_0 hΦ hR ⟨by rcases ht with e | e <;> rw [e] <;> exact ⟨by decide, by decide⟩, fun c => ⟨so_1, ?_⟩, fun c => ⟨so_1, c4_fail ⟨by omega, by omega⟩ ?_⟩⟩)
  · rintro m3 e
    obtain ⟨a, b⟩ := cs_at (b' := 251) (x := κ 1 3 + 1) (y := p + 1) h ⟨by omega, by omega⟩ (fun _ => by omega)
    rw [e]
    refine q _ b ?_
    rw [if_pos c]
    exact a
  · obtain ⟨a, b, b3', b4'⟩ := cs_fail (m := 3) (p := κ 1 3) h ⟨by decide, by decide⟩
    generalize (if κ 1 6 = 0 then mu (mu κ 1 6 3) 1 7 (κ 1 3) else κ) = κ5 at *
    rintro m6 e
    obtain ⟨a', b'⟩ := cs_at (b' := 251) (x := κ5 1 3 + 1) (y := 0) a ⟨by omega, by omega⟩ (fun e => by rw [bnd_0 rfl] at e; exact absurd e (show ¬ (3 : Int) = 0 by decide))
    rw [e]
    refine q _ (b.tr b') ?_
    rw [if_neg c]
    rw [bnd_0 (r := (0, p)) rfl, bnd_1 (show (3 : Int) ≠ 0 by decide), e3] at a'
    exact a'
theorem bnd_bnd {r : Int × Int} {f g : Int → Int × Int} : bnd (bnd r f) g = bnd r (fun p => bnd (f p) g) := by
  by_cases z : r.1 = 0
  · rw [bnd_0 z, bnd_0 z]
  · rw [bnd_1 z, bnd_1 z, bnd_1 z]
theorem bnd_cong {r : Int × Int} {f g : Int → Int × Int} (h : r.1 = 0 → f r.2 = g r.2) : bnd r f = bnd r g := by
  by_cases z : r.1 = 0
  · rw [bnd_0 z, bnd_0 z, h z]
  · rw [bnd_1 z, bnd_1 z]
theorem skp_r {T : Int → Int} {n p b : Int} (h0 : 0 ≤ p) (hb : p ≤ b) (hn : n ≤ 250) (hb2 : 250 ≤ b) : 0 ≤ skp T n p ∧ skp T n p ≤ b := by
  have := skp_p (T := T) (n := n) (p := p)
  omega
theorem c4_passEnd {G : Gm} {T : Int → Int} {n b : Int} {r : Int × Int} {κ : Mem} {Q : Mem → Prop} (h : CS T n b r κ) (hb : 250 ≤ b ∧ b ≤ 300) (q : ∀ κ', Off FRd κ κ' → CS T n b (bnd r (pend T n)) κ' → Q κ') : Cv G mX4_passEnd [(2, 1)] SHl κ Q := by
  have b3 := h.2.1
  have hn := h.1.2.2.1
  have sr := skp_r (T := T) (n := n) (b := b) b3.1 b3.2 hn.2 hb.1
  refine eX4_passEnd (fun Φ hΦ hR => bX4_passEnd_0 hΦ hR ⟨so_1, c4_skip h.1 ⟨by omega, by omega⟩ ?_⟩)
  obtain ⟨a1, o1⟩ := cs_at (b' := b) (x := skp T n (κ 1 3)) (y := skp T n r.2) h sr (fun z => by rw [(h.2.2.1 z).2.1])
  obtain ⟨wf, e2, en, et⟩ := a1.1
  have r6 := a1.r6
  have e3 : mu κ 1 3 (skp T n (κ 1 3)) 1 3 = skp T n (κ 1 3) := mu_same
  generalize hm : mu κ 1 3 (skp T n (κ 1 3)) = m2 at *
  rw [e2, e3]
  have bad : ¬ (skp T n (κ 1 3) < n ∧ T (skp T n (κ 1 3)) = 59) → Cv G mX4_fail [(2, 1), (0, 1), (0, skp T n (κ 1 3))] SHl m2 Q := fun c => by
    obtain ⟨a, b, -, -⟩ := cs_fail (m := 1) (p := skp T n (κ 1 3)) a1 ⟨by decide, by decide⟩
    refine c4_fail ⟨by omega, by omega⟩ (q _ (o1.tr b) ?_)
    rw [bnd_bnd] at a
    rw [bnd_cong (g := fun p => bnd (0, skp T n r.2) (fun _ => (1, skp T n (κ 1 3)))) (fun z => ?_)]
    · exact a
    · rw [bnd_0 rfl, (h.2.2.1 z).2.1]
      rw [(h.2.2.1 z).2.1] at c
      unfold pend
      rw [if_neg c]
  refine ⟨⟨by omega, by omega⟩, ⟨by omega, by omega⟩, fun c => bad (fun z => by omega), fun c => ?_⟩
  obtain ⟨t1, t2⟩ := et _ sr.1 (by omega)
  rw [wf_1_0 wf, t1]
  refine ⟨ai_2 sr.1 (by omega), ⟨by omega, by omega⟩, fun d => bad (fun z => d z.2), fun d => ?_⟩
  rintro m9 e9
  obtain ⟨a', o'⟩ := cs_at (b' := b) (x := skp T n (κ 1 3) + 1) (y := skp T n (κ 1 3) + 1) a1 ⟨by omega, by omega⟩ (fun _ => rfl)
  rw [e9]
  refine q _ (o1.tr o') ?_
  rw [bnd_bnd] at a'
  rw [bnd_cong (g := fun p => bnd (0, skp T n r.2) (fun _ => (0, skp T n (κ 1 3) + 1))) (fun z => ?_)]
  · exact a'
  · rw [bnd_0 rfl, (h.2.2.1 z).2.1]
    rw [(h.2.2.1 z).2.1] at c d
    unfold pend
    rw [if_pos ⟨by omega, d⟩]
theorem kd_r (c : Int) : -1 ≤ kd c ∧ kd c ≤ 2 := by unfold kd; split; omega; split; omega; split <;> omega
theorem c4_readKind {G : Gm} {T : Int → Int} {n b : Int} {r : Int × Int} {κ : Mem} {Q : Int → Mem → Prop} (h : CS T n b r κ) (hb : 250 ≤ b ∧ b ≤ 290) (q : ∀ v κ', Off FRd κ κ' → CS T n (b + 1) (bnd r (pkind T n)) κ' → -1 ≤ v ∧ v ≤ 2 → ((bnd r (pkind T n)).1 = 0 → v = kd (T (skp T n r.2))) → Q v κ') : Ci G mX4_readKind [(2, 1)] SHl κ Q := by
  have b3 := h.2.1
  have hn := h.1.2.2.1
  have sr := skp_r (T := T) (n := n) (b := b) b3.1 b3.2 hn.2 hb.1
  refine eX4_readKind (fun Φ hΦ hR => bX4_readKind_0 hΦ hR ⟨so_1, c4_skip h.1 ⟨by omega, by omega⟩ ?_⟩)
  obtain ⟨a1, o1⟩ := cs_at (b' := b) (x := skp T n (κ 1 3)) (y := skp T n r.2) h sr (fun z => by rw [(h.2.2.1 z).2.1])
  obtain ⟨wf, e2, en, et⟩ := a1.1
  have r6 := a1.r6
  have e3 : mu κ 1 3 (skp T n (κ 1 3)) 1 3 = skp T n (κ 1 3) := mu_same
  generalize hm : mu κ 1 3 (skp T n (κ 1 3)) = m2 at *
  -- the letter, and what it tells
  have fin : ∀ c t, 0 ≤ c → c ≤ 255 → t = kd c → ((skp T n (κ 1 3) < n ∧ c = T (skp T n (κ 1 3))) ∨ (¬ skp T n (κ 1 3) < n ∧ t = -1)) → Ex G Φ 3 61 [some (2, 1), some (0, c), none] [(0, t)] SHl m2 0 0 := fun c t c0 c1 ht hc => by
    have tr := kd_r c
    refine bX4_readKind_61 hΦ hR ⟨⟨by omega, by omega⟩, fun d => ⟨so_1, ?_⟩, fun d => ⟨so_1, c4_fail ⟨by omega, by omega⟩ ?_⟩⟩
    · rintro m3 e
      rw [e, e3]
      obtain ⟨hc1, hc2⟩ : skp T n (κ 1 3) < n ∧ c = T (skp T n (κ 1 3)) := by rcases hc with z | z; exact z; exact absurd z.2 d
      obtain ⟨a', o'⟩ := cs_at (b' := b + 1) (x := skp T n (κ 1 3) + 1) (y := skp T n (κ 1 3) + 1) a1 ⟨by omega, by omega⟩ (fun _ => rfl)
      rw [bnd_bnd] at a'
      refine q t _ (o1.tr o') ?_ (by omega) (fun z => ?_)
      · rw [bnd_cong (g := fun p => bnd (0, skp T n r.2) (fun _ => (0, skp T n (κ 1 3) + 1))) (fun z => ?_)]
        · exact a'
        · rw [bnd_0 rfl, (h.2.2.1 z).2.1]
          rw [(h.2.2.1 z).2.1] at hc1 hc2
          unfold pkind
          rw [if_pos ⟨hc1, by rw [← hc2, ← ht]; exact d⟩]
      · have z' : r.1 = 0 := Classical.byContradiction fun y => by rw [bnd_1 y] at z; exact y z
        rw [ht, hc2, (h.2.2.1 z').2.1]
    · rw [e3]
      obtain ⟨a, o, b3', -⟩ := cs_fail (m := 1) (p := skp T n (κ 1 3)) a1 ⟨by decide, by decide⟩
      generalize (if m2 1 6 = 0 then mu (mu m2 1 6 1) 1 7 (skp T n (κ 1 3)) else m2) = κ5 at *
      rintro m6 e
      obtain ⟨a', o'⟩ := cs_at (b' := b + 1) (x := κ5 1 3 + 1) (y := 0) a ⟨by omega, by omega⟩ (fun z => by
        rw [bnd_bnd] at z
        by_cases y : r.1 = 0
        · rw [bnd_0 y, bnd_0 rfl] at z; exact absurd z (show ¬ (1 : Int) = 0 by decide)
        · rw [bnd_1 y] at z; exact absurd z y)
      have same : bnd (bnd (bnd r (fun _ => (0, skp T n r.2))) (fun _ => (1, skp T n (κ 1 3)))) (fun _ => (0, 0)) = bnd r (pkind T n) := by
        rw [bnd_bnd, bnd_bnd]
        refine bnd_cong (fun z => ?_)
        rw [bnd_0 rfl, bnd_1 (by show (1 : Int) ≠ 0; decide), (h.2.2.1 z).2.1]
        rw [(h.2.2.1 z).2.1] at hc
        unfold pkind
        rw [if_neg]
        rintro ⟨z1, z2⟩
        rcases hc with y | y
        · rw [← y.2, ← ht] at z2; exact z2 d
        · exact y.1 z1
      rw [same] at a'
      rw [e]
      refine q t _ ((o1.tr o).tr o') a' (by omega) (fun z => ?_)
      by_cases y : r.1 = 0
      · rw [← same, bnd_bnd, bnd_bnd, bnd_0 y, bnd_0 rfl, bnd_1 (show (1 : Int) ≠ 0 by decide)] at z; exact absurd z (show ¬ (1 : Int) = 0 by decide)
      · rw [bnd_1 y] at z; exact absurd z y
  have go : ∀ c, 0 ≤ c → c ≤ 255 → ((skp T n (κ 1 3) < n ∧ c = T (skp T n (κ 1 3))) ∨ (¬ skp T n (κ 1 3) < n ∧ kd c = -1)) → Ex G Φ 3 29 [some (2, 1), none, none] [(0, c)] SHl m2 0 0 := fun c c0 c1 hc =>
    bX4_readKind_29 hΦ hR ⟨⟨by omega, by omega⟩, fun d1 => ⟨fun d2 => ⟨fun d3 => fin c (-1) c0 c1 (by unfold kd; rw [if_neg d1, if_neg d2, if_neg d3]) (hc.imp id (fun z => ⟨z.1, rfl⟩)), fun d3 => fin c 2 c0 c1 (by unfold kd; rw [if_neg d1, if_neg d2, if_pos d3]) (hc.imp id (fun z => ⟨z.1, by rw [d3] at z; exact absurd z.2 (by decide)⟩))⟩, fun d2 => fin c 1 c0 c1 (by unfold kd; rw [if_neg d1, if_pos d2]) (hc.imp id (fun z => ⟨z.1, by rw [d2] at z; exact absurd z.2 (by decide)⟩))⟩, fun d1 => fin c 0 c0 c1 (by unfold kd; rw [if_pos d1]) (hc.imp id (fun z => ⟨z.1, by rw [d1] at z; exact absurd z.2 (by decide)⟩))⟩
  rw [e2, e3]
  refine ⟨⟨by omega, by omega⟩, ⟨by omega, by omega⟩, fun c => go 32 (by decide) (by decide) (Or.inr ⟨by omega, by decide⟩), fun c => ?_⟩
  obtain ⟨t1, t2⟩ := et _ sr.1 (by omega)
  rw [wf_1_0 wf, t1]
  exact ⟨ai_2 sr.1 (by omega), go _ t2.1 t2.2 (Or.inl ⟨by omega, rfl⟩)⟩
