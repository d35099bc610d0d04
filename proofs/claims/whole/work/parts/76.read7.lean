/-! ONE CLAUSE AFTER THE OTHER -/
def Bd (p n : Int) (r : Int × Int) : Prop := (r.1 = 0 → p ≤ r.2) ∧ 0 ≤ r.2 ∧ r.2 ≤ n
theorem bd_bnd {p n : Int} {r : Int × Int} {f : Int → Int × Int} (h : Bd p n r) (hf : ∀ q, p ≤ q → q ≤ n → Bd p n (f q)) : Bd p n (bnd r f) := by
  by_cases z : r.1 = 0
  · rw [bnd_0 z]; exact hf _ (h.1 z) h.2.2
  · rw [bnd_1 z]; exact h
theorem bd_pnum {T : Int → Int} {n lo hi p q : Int} (h0 : 0 ≤ p) (hq : p ≤ q) (hn : q ≤ n) : Bd p n (pnum T n lo hi q) := by
  have s := skp_p (T := T) (n := n) (p := q)
  have d := dge_p (T := T) (n := n) (p := skp T n q)
  unfold pnum
  split
  · exact ⟨fun e => absurd e (show ¬ (1 : Int) = 0 by decide), by show 0 ≤ skp T n q; omega, by show skp T n q ≤ n; omega⟩
  · split
    · exact ⟨fun e => absurd e (show ¬ (2 : Int) = 0 by decide), by show 0 ≤ skp T n q; omega, by show skp T n q ≤ n; omega⟩
    · exact ⟨fun _ => by show p ≤ dge T n (skp T n q); omega, by show 0 ≤ dge T n (skp T n q); omega, by show dge T n (skp T n q) ≤ n; omega⟩
theorem bd_pend {T : Int → Int} {n p q : Int} (h0 : 0 ≤ p) (hq : p ≤ q) (hn : q ≤ n) : Bd p n (pend T n q) := by
  have s := skp_p (T := T) (n := n) (p := q)
  unfold pend
  split
  · exact ⟨fun _ => by show p ≤ skp T n q + 1; omega, by show 0 ≤ skp T n q + 1; omega, by show skp T n q + 1 ≤ n; omega⟩
  · exact ⟨fun e => absurd e (show ¬ (1 : Int) = 0 by decide), by show 0 ≤ skp T n q; omega, by show skp T n q ≤ n; omega⟩
theorem bd_pkind {T : Int → Int} {n p q : Int} (h0 : 0 ≤ p) (hq : p ≤ q) (hn : q ≤ n) : Bd p n (pkind T n q) := by
  have s := skp_p (T := T) (n := n) (p := q)
  unfold pkind
  split
  · exact ⟨fun _ => by show p ≤ skp T n q + 1; omega, by show 0 ≤ skp T n q + 1; omega, by show skp T n q + 1 ≤ n; omega⟩
  · exact ⟨fun e => absurd e (show ¬ (1 : Int) = 0 by decide), by show 0 ≤ skp T n q; omega, by show skp T n q ≤ n; omega⟩
theorem bd_wrd {c : Prop} [Decidable c] {n p : Int} (h0 : 0 ≤ p) (hn : p < n) : Bd (p + 1) n (wrd c p) := by
  unfold wrd
  split
  · exact ⟨fun e => absurd e (show ¬ (3 : Int) = 0 by decide), by show 0 ≤ p; omega, by show p ≤ n; omega⟩
  · exact ⟨fun _ => Int.le_refl _, by show 0 ≤ p + 1; omega, by show p + 1 ≤ n; omega⟩
theorem bd_cl {T : Int → Int} {n : Int} {g : Mem} {p : Int} (h0 : 0 ≤ p) (hn : p < n) : Bd (p + 1) n (clP T n g p) := by
  unfold clP
  split
  · exact bd_bnd (bd_bnd (bd_wrd h0 hn) (fun q q0 q1 => bd_pnum (by omega) q0 q1)) (fun q q0 q1 => bd_pnum (by omega) q0 q1)
  · split
    · have b2 : Bd (p + 1) n (bnd (bnd (wrd (10 ≤ g 0 1) p) (pkind T n)) (pnum T n 0 (g 0 0 - 1))) := bd_bnd (bd_bnd (bd_wrd h0 hn) (fun q q0 q1 => bd_pkind (by omega) q0 q1)) (fun q q0 q1 => bd_pnum (by omega) q0 q1)
      have b3 : Bd (p + 1) n (bnd (bnd (bnd (wrd (10 ≤ g 0 1) p) (pkind T n)) (pnum T n 0 (g 0 0 - 1))) (pnum T n 0 (g 0 0 - 1))) := bd_bnd b2 (fun q q0 q1 => bd_pnum (by omega) q0 q1)
      refine bd_bnd ?_ (fun q q0 q1 => bd_pnum (by omega) q0 q1)
      by_cases z : (bnd (bnd (bnd (wrd (10 ≤ g 0 1) p) (pkind T n)) (pnum T n 0 (g 0 0 - 1))) (pnum T n 0 (g 0 0 - 1))).1 = 0
      · have eb := (link_1 (g := g) z).2.2.2.2.2.1
        rw [eb] at b2
        have s := skp_p (T := T) (n := n) (p := linkB T n g p)
        have b20 : p + 1 ≤ linkB T n g p := b2.1 rfl
        have b22 : linkB T n g p ≤ n := b2.2.2
        rw [bnd_0 z]
        unfold linkE
        split
        · exact ⟨fun e => absurd e (show ¬ (4 : Int) = 0 by decide), by show 0 ≤ skp T n (linkB T n g p); omega, by show skp T n (linkB T n g p) ≤ n; omega⟩
        · exact ⟨fun _ => b3.1 z, b3.2.1, b3.2.2⟩
      · rw [bnd_1 z]; exact b3
    · split
      · exact bd_bnd (bd_bnd (bd_wrd h0 hn) (fun q q0 q1 => bd_pnum (by omega) q0 q1)) (fun q q0 q1 => bd_pnum (by omega) q0 q1)
      · split
        · have b1 : Bd (p + 1) n (bnd (wrd (6 ≤ g 0 2) p) (pnum T n 0 (g 0 0 - 1))) := bd_bnd (bd_wrd h0 hn) (fun q q0 q1 => bd_pnum (by omega) q0 q1)
          have b2 : Bd (p + 1) n (bnd (bnd (wrd (6 ≤ g 0 2) p) (pnum T n 0 (g 0 0 - 1))) (pnum T n 0 29)) := bd_bnd b1 (fun q q0 q1 => bd_pnum (by omega) q0 q1)
          show Bd (p + 1) n (bnd (bnd (bnd (wrd (6 ≤ g 0 2) p) (pnum T n 0 (g 0 0 - 1))) (pnum T n 0 29)) (feaE T n g p))
          by_cases z : (bnd (bnd (wrd (6 ≤ g 0 2) p) (pnum T n 0 (g 0 0 - 1))) (pnum T n 0 29)).1 = 0
          · have eb := (fea_1 (g := g) z).2.2.2
            rw [eb] at b1
            have s := skp_p (T := T) (n := n) (p := drvA T n g p)
            have b20 : p + 1 ≤ drvA T n g p := b1.1 rfl
            have b22 : drvA T n g p ≤ n := b1.2.2
            rw [bnd_0 z]
            unfold feaE
            split
            · exact ⟨fun e => absurd e (show ¬ (4 : Int) = 0 by decide), by show 0 ≤ skp T n (drvA T n g p); omega, by show skp T n (drvA T n g p) ≤ n; omega⟩
            · exact ⟨fun _ => b2.1 z, b2.2.1, b2.2.2⟩
          · rw [bnd_1 z]; exact b2
        · exact ⟨fun e => absurd e (show ¬ (1 : Int) = 0 by decide), h0, by show p ≤ n; omega⟩
def g0_ : Mem := fun k i => if k = 0 ∧ i = 4 then 1 else 0
def nxt (T : Int → Int) (n : Int) (s : Mem × (Int × Int)) : Mem × (Int × Int) :=
  (if (bnd (clP T n s.1 s.2.2) (pend T n)).1 = 0 then clG T n s.1 s.2.2 else s.1, bnd (bnd (clP T n s.1 s.2.2) (pend T n)) (fun q => (0, skp T n q)))
def itr (T : Int → Int) (n : Int) : Nat → Mem × (Int × Int)
  | 0 => (g0_, (0, skp T n 0))
  | j + 1 => nxt T n (itr T n j)
def act (T : Int → Int) (n : Int) (j : Nat) : Prop := (itr T n j).2.1 = 0 ∧ (itr T n j).2.2 < n
theorem grz_ : GR g0_ := by
  have e : ∀ i, i ≠ 4 → g0_ 0 i = 0 := fun i h => by unfold g0_; rw [if_neg (by omega)]
  have e4 : g0_ 0 4 = 1 := by unfold g0_; rw [if_pos ⟨rfl, rfl⟩]
  refine ⟨by rw [e 0 (by decide)]; decide, by rw [e 1 (by decide)]; decide, by rw [e 2 (by decide)]; decide, by rw [e 3 (by decide), e 0 (by decide)]; decide, by rw [e4]; decide, by rw [e 5 (by decide)]; decide, fun i i0 i1 => ?_, fun i i0 i1 => ?_, fun i i0 i1 => ?_⟩
  · rw [e 0 (by decide)] at i1; omega
  · rw [e 1 (by decide)] at i1; omega
  · rw [e 2 (by decide)] at i1; omega
theorem itr_p {T : Int → Int} {n : Int} (hn : 0 ≤ n) : ∀ j : Nat, (∀ i, i < j → act T n i) → GR (itr T n j).1 ∧ Bd j n (itr T n j).2
  | 0, _ => by
    have s := skp_p (T := T) (n := n) (p := 0)
    exact ⟨grz_, fun _ => by show ((0 : Nat) : Int) ≤ skp T n 0; omega, by show 0 ≤ skp T n 0; omega, by show skp T n 0 ≤ n; omega⟩
  | j + 1, h => by
    obtain ⟨ih, bd⟩ := itr_p hn j (fun i hi => h i (by omega))
    obtain ⟨a1, a2⟩ := h j (by omega)
    have b0 := bd.1 a1
    have bc := bd_cl (T := T) (g := (itr T n j).1) (show 0 ≤ (itr T n j).2.2 by omega) a2
    have be : Bd ((itr T n j).2.2 + 1) n (bnd (clP T n (itr T n j).1 (itr T n j).2.2) (pend T n)) := bd_bnd bc (fun q q0 q1 => bd_pend (by omega) q0 q1)
    refine ⟨?_, ?_⟩
    · show GR (if (bnd (clP T n (itr T n j).1 (itr T n j).2.2) (pend T n)).1 = 0 then clG T n (itr T n j).1 (itr T n j).2.2 else (itr T n j).1)
      split
      · rename_i z; exact gr_cl ih (bnd_z z).1
      · exact ih
    · show Bd ((j + 1 : Nat) : Int) n (bnd (bnd (clP T n (itr T n j).1 (itr T n j).2.2) (pend T n)) (fun q => (0, skp T n q)))
      have : Bd ((itr T n j).2.2 + 1) n (bnd (bnd (clP T n (itr T n j).1 (itr T n j).2.2) (pend T n)) (fun q => (0, skp T n q))) := bd_bnd be (fun q q0 q1 => by
        have s := skp_p (T := T) (n := n) (p := q)
        exact ⟨fun _ => by show _ ≤ skp T n q; omega, by show 0 ≤ skp T n q; omega, by show skp T n q ≤ n; omega⟩)
      exact ⟨fun e => by have := this.1 e; omega, this.2⟩
/-! READING A TEXT, the class -/
theorem c4_readLoop {G : Gm} {Φ : Fr} {Q : Mem → Prop} (hΦ : St G Φ cX4_read RX4 3 5 115 0 0) (hR : Rt G Φ (Pv SHl Q) 0 0 none) {T : Int → Int} {n W : Int} {κ0 : Mem} (hW : isW W) (hn : 0 ≤ n ∧ n ≤ 250) (ht : ∀ i, 0 ≤ i → i < n → 0 ≤ T i ∧ T i ≤ 255)
    (K : ∀ κ' N, ¬ act T n N → (∀ j, j < N → act T n j) → CS T n 255 (itr T n N).2 κ' → ((itr T n N).2.1 = 0 → CG W (itr T n N).1 κ') → Off (FC W) κ0 κ' → Q κ') : ∀ (m j : Nat) (κ : Mem), j + m = 250 → (∀ i, i < j → act T n i) → CS T n 255 (itr T n j).2 κ → ((itr T n j).2.1 = 0 → CG W (itr T n j).1 κ) → Off (FC W) κ0 κ → Ex G Φ 3 43 [some (2, 1), some (2, W), some (0, (j : Int))] [] SHl κ 0 0 := by
  intro m
  induction m with
  | zero =>
    intro j κ hj pre cs cg of
    have ip := itr_p (T := T) (n := n) hn.1 j pre
    refine bX4_read_43 hΦ hR ⟨⟨by omega, by omega⟩, fun _ => K κ j (fun a => ?_) pre cs cg of, fun c => absurd (by omega) c⟩
    have := ip.2.1 a.1
    have := a.2
    omega
  | succ m ih =>
    intro j κ hj pre cs cg of
    obtain ⟨gr, bd⟩ := itr_p (T := T) (n := n) hn.1 j pre
    have r6 := cs.r6
    obtain ⟨wf, e2, -, et⟩ := cs.1
    have b3 := cs.2.1
    refine bX4_read_43 hΦ hR ⟨⟨by omega, by omega⟩, fun c => absurd c (by omega), fun _ => ⟨so_1, ?_⟩⟩
    rw [e2]
    refine ⟨⟨by omega, by omega⟩, ⟨by omega, by omega⟩, fun c => K κ j (fun a => ?_) pre cs cg of, fun c => ⟨⟨by omega, by omega⟩, fun d => K κ j (fun a => d (r6.2.2.mpr a.1)) pre cs cg of, fun d => ?_⟩⟩
    · have := (cs.2.2.1 a.1).2.1
      have := a.2
      omega
    · have z := r6.2.2.mp d
      have e3 := (cs.2.2.1 z).2.1
      have lt : (itr T n j).2.2 < n := by omega
      have a : act T n j := ⟨z, lt⟩
      obtain ⟨t1, t2⟩ := et (κ 1 3) b3.1 (by omega)
      rw [wf_1_0 wf, t1, e3]
      rw [e3] at t2 b3
      have cs' : CS T n 250 (0, (itr T n j).2.2) κ := by
        have : (itr T n j).2 = (0, (itr T n j).2.2) := Prod.ext z rfl
        rw [← this]
        exact ⟨cs.1, by rw [e3]; exact ⟨by omega, by omega⟩, cs.2.2⟩
      refine ⟨ai_2 b3.1 (by omega), so_W hW, c4_readClause hW cs' (cg z) gr t2 (fun κ8 o8 cs8 cg8 => ?_)⟩
      have b8 := cs8.2.1
      refine c4_skip cs8.1 ⟨by omega, by omega⟩ ?_
      have sr := skp_r (T := T) (n := n) (b := 255) b8.1 b8.2 hn.2 (by decide)
      obtain ⟨a9, o9⟩ := cs_at (b' := 255) (x := skp T n (κ8 1 3)) (y := skp T n (bnd (clP T n (itr T n j).1 (itr T n j).2.2) (pend T n)).2) cs8 sr (fun z => by rw [(cs8.2.2.1 z).2.1])
      rw [bnd_cong (g := fun q => (0, skp T n q)) (fun _ => rfl)] at a9
      have pre' : ∀ i, i < j + 1 → act T n i := fun i hi => by
        by_cases q : i = j
        · rw [q]; exact a
        · exact pre i (by omega)
      have := ih (j + 1) (mu κ8 1 3 (skp T n (κ8 1 3))) (by omega) pre' a9 (fun z9 => ?_) ((of.tr o8).tr o9.fc)
      · rw [show (((j + 1 : Nat)) : Int) = (j : Int) + 1 by omega] at this
        exact this
      · have z8 : (bnd (clP T n (itr T n j).1 (itr T n j).2.2) (pend T n)).1 = 0 := (bnd_z (show (bnd (bnd (clP T n (itr T n j).1 (itr T n j).2.2) (pend T n)) (fun q => (0, skp T n q))).1 = 0 from z9)).1
        show CG W (if (bnd (clP T n (itr T n j).1 (itr T n j).2.2) (pend T n)).1 = 0 then clG T n (itr T n j).1 (itr T n j).2.2 else (itr T n j).1) _
        rw [if_pos z8]
        exact (cg8 z8).off hW o9
def FC' (W k i : Int) : Prop := FC W k i ∨ (k = 1 ∧ (i = 1 ∨ i = 2))
theorem c4_read {G : Gm} {Q : Mem → Prop} {T : Int → Int} {n W : Int} {κ : Mem} (wf : WF κ) (hW : isW W) (hn : 0 ≤ n ∧ n ≤ 250) (h1 : κ 1 1 = n) (ht : ∀ i, 0 ≤ i → i < n → κ 2 i = T i ∧ 0 ≤ T i ∧ T i ≤ 255)
    (K : ∀ κ' N, ¬ act T n N → (∀ j, j < N → act T n j) → CS T n 255 (itr T n N).2 κ' → ((itr T n N).2.1 = 0 → CG W (itr T n N).1 κ') → Off (FC' W) κ κ' → κ' 1 1 = 0 → Q κ') : Cv G mX4_read [(2, 1), (2, W)] SHl κ Q := by
  have hW' : W = 3 ∨ W = 12 := hW
  refine eX4_read (fun Φ hΦ hR => bX4_read_0 hΦ hR ⟨so_W hW, eX6_forgetAll (fun Φ2 hΦ2 hR2 => bX6_forgetAll_0 hΦ2 hR2 ⟨so_W hW, ?_⟩)⟩)
  rintro a2 e2 a3 e3 a4 e4 a5 e5 a6 e6
  have ka : a6 = mu (mu (mu (mu (mu κ W 0 0) W 1 0) W 2 0) W 3 0) W 4 1 := by rw [e6, e5, e4, e3, e2]
  have a61 : a6 1 1 = n := by rw [ka, mu_off2 (by omega), mu_off2 (by omega), mu_off2 (by omega), mu_off2 (by omega), mu_off2 (by omega)]; exact h1
  refine ⟨so_1, ?_⟩
  rintro b4 f4 b5 f5 b6 f6 b7 f7 b8 f8 b9 f9
  rw [a61] at f4
  have kb : b9 = mu (mu (mu (mu (mu (mu a6 1 2 n) 1 1 0) 1 3 0) 1 5 0) 1 6 0) 1 7 (-1) := by rw [f9, f8, f7, f6, f5, f4]
  clear f4 f5 f6 f7 f8 f9 e2 e3 e4 e5 e6
  have ob : ∀ k i, ¬ (k = 1 ∧ (i = 1 ∨ i = 2 ∨ i = 3 ∨ i = 5 ∨ i = 6 ∨ i = 7)) → ¬ (k = W ∧ 0 ≤ i ∧ i ≤ 4) → b9 k i = κ k i := fun k i d1 d2 => by
    rw [kb, mu_off2 (by omega), mu_off2 (by omega), mu_off2 (by omega), mu_off2 (by omega), mu_off2 (by omega), mu_off2 (by omega), ka, mu_off2 (by omega), mu_off2 (by omega), mu_off2 (by omega), mu_off2 (by omega), mu_off2 (by omega)]
  have ct : CT T n b9 := ⟨wf_sm wf (fun k i d => ob k i (by unfold dF at d; omega) (by unfold dF at d; omega)), by rw [kb, mu_off2 (by omega), mu_off2 (by omega), mu_off2 (by omega), mu_off2 (by omega), mu_off2 (by omega), mu_same], hn, fun i i0 i1 => by rw [ob 2 i (by omega) (by omega)]; exact ht i i0 i1⟩
  have v3 : b9 1 3 = 0 := by rw [kb, mu_off2 (by omega), mu_off2 (by omega), mu_off2 (by omega), mu_same]
  have v5 : b9 1 5 = 0 := by rw [kb, mu_off2 (by omega), mu_off2 (by omega), mu_same]
  have v6 : b9 1 6 = 0 := by rw [kb, mu_off2 (by omega), mu_same]
  have v7 : b9 1 7 = -1 := by rw [kb, mu_same]
  have v1 : b9 1 1 = 0 := by rw [kb, mu_off2 (by omega), mu_off2 (by omega), mu_off2 (by omega), mu_off2 (by omega), mu_same]
  have vW : ∀ i, 0 ≤ i → i ≤ 4 → b9 W i = g0_ 0 i := fun i i0 i1 => by
    rw [kb, mu_off2 (by omega), mu_off2 (by omega), mu_off2 (by omega), mu_off2 (by omega), mu_off2 (by omega), mu_off2 (by omega), ka]
    unfold g0_
    have : i = 0 ∨ i = 1 ∨ i = 2 ∨ i = 3 ∨ i = 4 := by omega
    rcases this with rfl | rfl | rfl | rfl | rfl
    · rw [mu_off2 (by omega), mu_off2 (by omega), mu_off2 (by omega), mu_off2 (by omega), mu_same, if_neg (by omega)]
    · rw [mu_off2 (by omega), mu_off2 (by omega), mu_off2 (by omega), mu_same, if_neg (by omega)]
    · rw [mu_off2 (by omega), mu_off2 (by omega), mu_same, if_neg (by omega)]
    · rw [mu_off2 (by omega), mu_same, if_neg (by omega)]
    · rw [mu_same, if_pos ⟨rfl, rfl⟩]
  have cs0 : CS T n 255 (0, 0) b9 := ⟨ct, by rw [v3]; decide, fun _ => ⟨v6, v3, v7⟩, fun e => absurd rfl e, by show (0 : Int) ≤ 0 ∧ (0 : Int) ≤ 4; decide⟩
  have gz : ∀ i, i ≠ 4 → g0_ 0 i = 0 := fun i h => by unfold g0_; rw [if_neg (by omega)]
  have cg0 : CG W g0_ b9 := ⟨vW, by rw [v5, gz 5 (by decide)], fun i i0 i1 => by rw [gz 0 (by decide)] at i1; omega, fun i i0 i1 => by rw [gz 1 (by decide)] at i1; omega, fun i i0 i1 => by rw [gz 2 (by decide)] at i1; omega⟩
  refine c4_skip ct (by rw [v3]; decide) ?_
  rw [v3]
  have sr := skp_r (T := T) (n := n) (p := 0) (b := 255) (by decide) (by decide) hn.2 (by decide)
  obtain ⟨a9, o9⟩ := cs_at (b' := 255) (x := skp T n 0) (y := skp T n 0) cs0 sr (fun _ => rfl)
  rw [bnd_0 rfl] at a9
  have start := c4_readLoop (κ0 := mu b9 1 3 (skp T n 0)) hΦ hR hW hn (fun i i0 i1 => (ht i i0 i1).2) (fun κ' N na pre cs cg of => ?_) 250 0 (mu b9 1 3 (skp T n 0)) (by decide) (fun i hi => by omega) a9 (fun _ => cg0.off hW o9) Off.rf
  · exact start
  · refine K κ' N na pre cs cg (fun k i d => ?_) ?_
    · rw [of k i (fun c => d (Or.inl c)), mu_off2 (fun c => d (by unfold FC' FC FRd; omega)), ob k i (fun c => d (by unfold FC' FC FRd; omega)) (fun c => d (by unfold FC' FC; omega))]
    · rw [of 1 1 (by unfold FC FRd; omega), mu_off2 (by omega)]; exact v1
