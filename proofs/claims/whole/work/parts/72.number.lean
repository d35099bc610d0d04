/-! A NUMBER, the class -/
theorem dge_e {T : Int → Int} {n p : Int} : ¬ (dge T n p < n ∧ 48 ≤ T (dge T n p) ∧ T (dge T n p) ≤ 57) := by
  obtain ⟨a, b, c, -⟩ := rn_p (c := dgb T) (n := n) (p := p)
  exact fun z => c ⟨z.1, decide_eq_true z.2⟩
theorem cs_4 {T : Int → Int} {n b x : Int} {r : Int × Int} {κ : Mem} (h : CS T n b r κ) : CS T n b r (mu κ 1 4 x) ∧ Off FRd κ (mu κ 1 4 x) := by
  have o : Off FRd κ (mu κ 1 4 x) := Off.mu Off.rf (by unfold FRd; omega)
  refine ⟨⟨h.1.off o, by rw [mu_off2 (by omega)]; exact h.2.1, fun e => ?_, fun e => ?_, h.2.2.2.2⟩, o⟩
  · rw [mu_off2 (by omega), mu_off2 (by omega), mu_off2 (by omega)]; exact h.2.2.1 e
  · rw [mu_off2 (by omega), mu_off2 (by omega)]; exact h.2.2.2.1 e
theorem nv_10 {T : Int → Int} {s : Int} {k : Nat} (hk : k ≤ 4) (h : ∀ i, s ≤ i → i < s + k → 48 ≤ T i ∧ T i ≤ 57) : 0 ≤ nv T s k ∧ nv T s k ≤ 9999 := by
  have := nv_r k h
  have e : ∀ k : Nat, k < 5 → (10 : Int) ^ k ≤ 10000 := by decide +kernel
  have := e k (by omega)
  omega
theorem c4_readNumber {G : Gm} {T : Int → Int} {n b lo hi : Int} {r : Int × Int} {κ : Mem} {Q : Int → Mem → Prop} (h : CS T n b r κ) (hb : 250 ≤ b ∧ b ≤ 300) (rlo : R32 lo) (rhi : R32 hi) (q : ∀ v κ', Off FRd κ κ' → CS T n b (bnd r (pnum T n lo hi)) κ' → 0 ≤ v ∧ v ≤ 9999 → ((bnd r (pnum T n lo hi)).1 = 0 → v = numV T n r.2) → (r.1 = 0 → κ' 1 4 = skp T n r.2) → Q v κ') : Ci G mX4_readNumber [(2, 1), (0, lo), (0, hi)] SHl κ Q := by
  have b3 := h.2.1
  have hn := h.1.2.2.1
  have sr := skp_r (T := T) (n := n) (b := b) b3.1 b3.2 hn.2 hb.1
  refine eX4_readNumber (fun Φ hΦ hR => bX4_readNumber_0 hΦ hR ⟨so_1, c4_skip h.1 ⟨by omega, by omega⟩ ?_⟩)
  obtain ⟨a1, o1⟩ := cs_at (b' := b) (x := skp T n (κ 1 3)) (y := skp T n r.2) h sr (fun z => by rw [(h.2.2.1 z).2.1])
  have hs : r.1 = 0 → skp T n (κ 1 3) = skp T n r.2 := fun z => by rw [(h.2.2.1 z).2.1]
  generalize hsk : skp T n (κ 1 3) = s at *
  rintro m3 hm3
  rw [mu_same] at hm3
  obtain ⟨a2, o2⟩ := cs_4 (x := s) a1
  rw [← hm3] at a2 o2
  have m33 : m3 1 3 = s := by rw [hm3, mu_off2 (by omega), mu_same]
  have m34 : m3 1 4 = s := by rw [hm3, mu_same]
  have dp := dge_p (T := T) (n := n) (p := s)
  have de := dge_e (T := T) (n := n) (p := s)
  generalize hde : dge T n s = e at *
  have eb : e ≤ b := by omega
  -- behind the figures
  have fin : Ex G Φ 4 97 [some (2, 1), some (0, lo), some (0, hi), some (0, nv T s (min (e - s).toNat 4))] [] SHl (mu m3 1 3 e) 0 0 := by
    obtain ⟨a3, o3⟩ := cs_at (b' := b) (x := e) (y := dge T n (skp T n r.2)) a2 ⟨by omega, eb⟩ (fun z => by
      have z' : r.1 = 0 := Classical.byContradiction fun y => by rw [bnd_1 y] at z; exact y z
      rw [← hs z', hde])
    have v4 := nv_10 (T := T) (s := s) (k := min (e - s).toNat 4) (by omega) (fun i i0 i1 => dp.2.2 i i0 (by omega))
    have c3 : mu m3 1 3 e 1 3 = e := mu_same
    have c4 : mu m3 1 3 e 1 4 = s := by rw [mu_off2 (by omega)]; exact m34
    generalize hκ4 : mu m3 1 3 e = κ4 at *
    have o4 : Off FRd κ κ4 := (o1.tr o2).tr o3
    have r6 := a3.r6
    rw [bnd_bnd] at a3
    have bad : ∀ m, (m = 1 ∨ m = 2) → (r.1 = 0 → pnum T n lo hi r.2 = (m, s)) → Cv G mX4_fail [(2, 1), (0, m), (0, s)] SHl κ4 (fun μ5 => Q (nv T s (min (e - s).toNat 4)) μ5) := fun m hm hp => by
      obtain ⟨a, o, -, f4⟩ := cs_fail (m := m) (p := s) a3 (by omega)
      rw [bnd_bnd] at a
      refine c4_fail ⟨by omega, by omega⟩ (q _ _ (o4.tr o) ?_ v4 (fun z => ?_) (fun z => by rw [f4, c4, hs z]))
      · rw [bnd_cong (g := fun p => bnd (bnd (0, skp T n r.2) (fun _ => (0, dge T n (skp T n r.2)))) (fun _ => (m, s))) (fun z => ?_)]
        · exact a
        · rw [bnd_0 (r := (0, skp T n r.2)) rfl, bnd_0 rfl, hp z]
      · exfalso
        by_cases y : r.1 = 0
        · rw [bnd_0 y, hp y] at z
          have z : m = 0 := z
          omega
        · rw [bnd_1 y] at z; exact y z
    have pn : r.1 = 0 → pnum T n lo hi r.2 = (if e = s then (1, s) else if 3 < e - s ∨ numV T n r.2 < lo ∨ hi < numV T n r.2 then (2, s) else (0, e)) := fun z => by
      unfold pnum
      rw [← hs z, hde]
    have nvz : r.1 = 0 → e - s ≤ 3 → nv T s (min (e - s).toNat 4) = numV T n r.2 := fun z q => by
      unfold numV
      rw [← hs z, hde, show min (e - s).toNat 4 = (e - s).toNat by omega]
    refine bX4_readNumber_97 hΦ hR ⟨so_1, ?_⟩
    rw [c3, c4]
    refine ⟨⟨by omega, by omega⟩, ⟨by omega, by omega⟩, fun c1 => ⟨⟨by omega, by omega⟩, fun c2 => bad 2 (Or.inr rfl) (fun z => by rw [pn z, if_neg c1, if_pos (Or.inl c2)]), fun c2 => ⟨⟨by omega, by omega⟩, rlo, fun c3' => bad 2 (Or.inr rfl) (fun z => by rw [pn z, if_neg c1, if_pos (Or.inr (Or.inl (by rw [← nvz z (by omega)]; exact c3')))]), fun c3' => ⟨rhi, fun c4' => ?_, fun c4' => bad 2 (Or.inr rfl) (fun z => by rw [pn z, if_neg c1, if_pos (Or.inr (Or.inr (by rw [← nvz z (by omega)]; omega)))])⟩⟩⟩, fun c1 => ?_⟩
    · refine q _ _ o4 ?_ v4 (fun z => ?_) (fun z => by rw [c4, hs z])
      · rw [bnd_cong (g := fun p => bnd (0, skp T n r.2) (fun _ => (0, dge T n (skp T n r.2)))) (fun z => ?_)]
        · exact a3
        · rw [bnd_0 rfl, pn z, if_neg c1, if_neg (by rw [← nvz z (by omega)]; omega), ← hs z, hde]
      · have y : r.1 = 0 := Classical.byContradiction fun y => by rw [bnd_1 y] at z; exact y z
        exact nvz y (by omega)
    · have := bad 1 (Or.inl rfl) (fun z => by rw [pn z, if_pos c1])
      rw [c1] at this ⊢; exact this
  have loop : ∀ (m k : Nat), s + k + m = e → Ex G Φ 4 14 [some (2, 1), some (0, lo), some (0, hi), some (0, nv T s (min k 4))] [] SHl (mu m3 1 3 (s + k)) 0 0 := by
    intro m
    induction m with
    | zero =>
      intro k hk
      have ek : s + (k : Int) = e := by omega
      rw [show k = (e - s).toNat by omega, show s + (((e - s).toNat : Nat) : Int) = e by omega]
      obtain ⟨wf, e2, en, et⟩ := a2.1.off (κ' := mu m3 1 3 e) (Off.mu Off.rf (by unfold FRd; omega))
      refine bX4_readNumber_14 hΦ hR ⟨so_1, ?_⟩
      rw [e2, mu_same]
      refine ⟨⟨by omega, by omega⟩, ⟨by omega, by omega⟩, fun _ => fin, fun c => ?_⟩
      obtain ⟨t1, t2⟩ := et e (by omega) (by omega)
      rw [wf_1_0 wf, t1]
      refine ⟨ai_2 (by omega) (by omega), ⟨by omega, by omega⟩, fun _ => fin, fun d1 => ⟨fun _ => fin, fun d2 => ?_⟩⟩
      exact absurd ⟨by omega, by omega, by omega⟩ de
    | succ m ih =>
      intro k hk
      have dk := dp.2.2 (s + k) (by omega) (by omega)
      have nx := ih (k + 1) (by omega)
      rw [show s + ((k + 1 : Nat) : Int) = s + (k : Int) + 1 by omega] at nx
      obtain ⟨wf, e2, en, et⟩ := a2.1.off (κ' := mu m3 1 3 (s + k)) (Off.mu Off.rf (by unfold FRd; omega))
      have f4 : mu m3 1 3 (s + k) 1 4 = s := by rw [mu_off2 (by omega)]; exact m34
      obtain ⟨t1, t2⟩ := et (s + k) (by omega) (by omega)
      refine bX4_readNumber_14 hΦ hR ⟨so_1, ?_⟩
      rw [e2, mu_same, wf_1_0 wf, t1, f4]
      refine ⟨⟨by omega, by omega⟩, ⟨by omega, by omega⟩, fun c => absurd c (by omega), fun _ => ⟨ai_2 (by omega) (by omega), ⟨by omega, by omega⟩, fun c => absurd c (by omega), fun _ => ⟨fun c => absurd c (by omega), fun _ => ⟨⟨by omega, by omega⟩, fun c => ?_, fun c => ?_⟩⟩⟩⟩
      · rintro m7 e7
        rw [e7, mu_mu]
        rw [show min (k + 1) 4 = min k 4 by omega] at nx
        exact nx
      · rintro m8 e8
        rw [e8, mu_mu]
        rw [show min (k + 1) 4 = min k 4 + 1 by omega] at nx
        have : nv T s (min k 4 + 1) = 10 * nv T s (min k 4) + T (s + k) - 48 := by
          rw [show min k 4 = k by omega]; rfl
        rw [this] at nx
        exact nx
  have := loop (e - s).toNat 0 (by omega)
  rw [show s + ((0 : Nat) : Int) = m3 1 3 by rw [m33]; omega, mu_id] at this
  exact this
