def Proc (T : Int → Int) (on : Int) (kd a b : Int → Int) (l : Int) (L : List Int) (ρ : Int → Int × Int) (x : Int) : Prop := ∀ l', 0 ≤ l' → l' < l → bt_ on l' = 1 → (a l' = x → b l' ∈ L ∧ ρ (b l') = stp T (kd l') x (b l') (ρ x)) ∧ (b l' = x → a l' ∈ L ∧ ρ (a l') = stp T (kd l') x (a l') (ρ x))
theorem Proc.mono {T : Int → Int} {on : Int} {kd a b : Int → Int} {l : Int} {L t : List Int} {ρ ρ' : Int → Int × Int} {x : Int} (h : Proc T on kd a b l L ρ x) (hx : x ∈ L) (he : ∀ z ∈ L, ρ' z = ρ z) : Proc T on kd a b l (L ++ t) ρ' x := by
  intro l' h0 h1 h2
  obtain ⟨p, q⟩ := h l' h0 h1 h2
  refine ⟨fun c => ?_, fun c => ?_⟩
  · obtain ⟨p1, p2⟩ := p c
    exact ⟨List.mem_append_left _ p1, by rw [he _ p1, he _ hx]; exact p2⟩
  · obtain ⟨p1, p2⟩ := q c
    exact ⟨List.mem_append_left _ p1, by rw [he _ p1, he _ hx]; exact p2⟩
/-- where the spreading from x over the first l links stands -/
def SPR (μ0 : Mem) (W o on idl nw drv R x l : Int) (L : List Int) (ρ : Int → Int × Int) (b0 : Int) (μ : Mem) : Prop :=
  Off (FM o) μ0 μ ∧ ∃ t, MO (μ0 (W + 1)) (EE μ0 W on idl) drv R nw o (L ++ t) μ ∧ (∀ z ∈ L, rr μ o z = ρ z) ∧ (μ o 5 = 0 ∨ (μ o 5 = 1 ∧ ¬ ∃ ρ', Fit (μ0 (W + 1)) drv R (EE μ0 W on idl) ρ')) ∧ (μ o 5 = 0 → b0 = 0 ∧ Proc (μ0 (W + 1)) on (kdE μ0 W idl) (μ0 (W + 5)) (μ0 (W + 6)) l (L ++ t) (rr μ o) x)
theorem off_wf {μ0 μ : Mem} {o : Int} (wf : WF μ0) (ho : isM o) (h : Off (FM o) μ0 μ) : WF μ := by
  have ho' : o = 21 ∨ o = 25 := ho
  exact wf_sm wf (fun k i d => h k i (by unfold dF at d; unfold FM; omega))
theorem off_W {μ0 μ : Mem} {W o j : Int} (hW : isW W) (ho : isM o) (h : Off (FM o) μ0 μ) (h0 : 0 ≤ j) (h1 : j ≤ 8) : μ (W + j) = μ0 (W + j) := by
  have ho' : o = 21 ∨ o = 25 := ho
  have hW' : W = 3 ∨ W = 12 := hW
  funext i
  exact h _ _ (by unfold FM; omega)
theorem sp61 {G : Gm} {Φ : Fr} {Q : Mem → Prop} (hΦ : St G Φ cX3_spread RX3 8 3 84 0 0) (hR : Rt G Φ (Pv SHl Q) 0 0 none) {μ0 μ : Mem} {W o on idl nw drv R x l y b0 : Int} {L : List Int} {ρ : Int → Int × Int} (rp : RP μ0 W o on idl nw drv R) (hx : x ∈ L) (s : SPR μ0 W o on idl nw drv R x l L ρ b0 μ) (h0 : 0 ≤ l) (h1 : l < 11) (hb : bt_ on l = 1) (hy : (μ0 (W + 5) l = x ∧ μ0 (W + 6) l = y) ∨ (μ0 (W + 6) l = x ∧ μ0 (W + 5) l = y))
    (K : ∀ μ', SPR μ0 W o on idl nw drv R x (l + 1) L ρ b0 μ' → Ex G Φ 8 3 [some (2, o), some (2, W), some (0, x), some (0, on), some (0, idl), some (0, (l + 1)), none, none] [] SHl μ' 0 0) :
    Ex G Φ 8 61 [some (2, o), some (2, W), some (0, x), some (0, on), some (0, idl), some (0, l), some (0, y), none] [(0, kdE μ0 W idl l)] SHl μ 0 0 := by
  obtain ⟨wf0, hW, ho, ⟨n0, n8⟩, hT, hE, hRR, hd, hon, hidl⟩ := rp
  obtain ⟨of, t, mo, ag, bd, pr⟩ := s
  obtain ⟨ek, ea, eb, ene⟩ := hE l h0 h1 hb
  have wf := off_wf wf0 ho of
  have x01 := mo.1.2.2.2.1 x (List.mem_append_left _ hx)
  have hyr : 0 ≤ y ∧ y < nw := by rcases hy with ⟨_, rfl⟩ | ⟨_, rfl⟩; exact eb; exact ea
  have he : EE μ0 W on idl (kdE μ0 W idl l) x y ∨ EE μ0 W on idl (kdE μ0 W idl l) y x := by
    rcases hy with ⟨rfl, rfl⟩ | ⟨rfl, rfl⟩
    · exact Or.inl ⟨l, h0, h1, hb, rfl, rfl, rfl⟩
    · exact Or.inr ⟨l, h0, h1, hb, rfl, rfl, rfl⟩
  refine bX3_spread_61 hΦ hR ⟨so_M ho, so_W hW, ?_⟩
  rw [wf_W5 wf hW, off_W hW ho of (by decide) (by decide)]
  refine ⟨ai_W1 hW x01.1 (by omega), ai_W1 hW hyr.1 (by omega), c3_carry wf ho mo n8 hT (List.mem_append_left _ hx) hyr.1 hyr.2 ek he (fun μ' cr => K μ' ?_)⟩
  obtain ⟨of2, t2, mo2, ag2, alt⟩ := cr
  refine ⟨of.tr of2, t ++ t2, by rw [← List.append_assoc]; exact mo2, fun z hz => by rw [ag2 z (List.mem_append_left _ hz)]; exact ag z hz, ?_, ?_⟩
  · rcases alt with ⟨_, e, _⟩ | e
    · rw [e]; exact bd
    · exact Or.inr e
  · intro c
    rcases alt with ⟨hyL, e, st⟩ | e
    · obtain ⟨c1, c2⟩ := pr (by rw [← e]; exact c)
      refine ⟨c1, ?_⟩
      rw [← List.append_assoc]
      have xm : x ∈ L ++ t := List.mem_append_left _ hx
      have c3 := c2.mono (t := t2) (ρ' := rr μ' o) xm ag2
      intro l' q0 q1 q2
      by_cases cl : l' = l
      · subst cl
        rw [← ag2 x xm] at st
        rcases hy with ⟨e1, e2⟩ | ⟨e1, e2⟩
        · exact ⟨fun _ => by rw [e2]; exact ⟨hyL, st⟩, fun c' => absurd (e1.trans c'.symm) ene⟩
        · exact ⟨fun c' => absurd (c'.trans e1.symm) ene, fun _ => by rw [e2]; exact ⟨hyL, st⟩⟩
      · exact c3 l' q0 (by omega) q2
    · omega
theorem c3_spread {G : Gm} {Q : Mem → Prop} {μ0 μ : Mem} {W o on idl nw drv R x b0 : Int} {L : List Int} {ρ : Int → Int × Int} (rp : RP μ0 W o on idl nw drv R) (hx : x ∈ L) (s : SPR μ0 W o on idl nw drv R x 0 L ρ b0 μ) (h : ∀ μ', SPR μ0 W o on idl nw drv R x 11 L ρ b0 μ' → Q μ') : Cv G mX3_spread [(2, o), (2, W), (0, x), (0, on), (0, idl)] SHl μ Q := by
  refine eX3_spread (fun Φ hΦ hR => bX3_spread_0 hΦ hR ?_)
  have loop : ∀ (m : Nat) (l : Int) (μ : Mem), 0 ≤ l → l + m = 11 → SPR μ0 W o on idl nw drv R x l L ρ b0 μ → Ex G Φ 8 3 [some (2, o), some (2, W), some (0, x), some (0, on), some (0, idl), some (0, l), none, none] [] SHl μ 0 0 := by
    intro m
    induction m with
    | zero =>
      intro l μ h0 hl s
      obtain rfl : l = 11 := by omega
      exact bX3_spread_3 hΦ hR ⟨⟨by decide, by decide⟩, fun _ => h μ s, fun c => absurd (by decide) c⟩
    | succ m ih =>
      intro l μ h0 hl s
      have K := fun μ' => ih (l + 1) μ' (by omega) (by omega)
      have s' := s
      have rp' := rp
      obtain ⟨wf0, hW, ho, ⟨n0, n8⟩, hT, hE, hRR, hd, hon, hidl⟩ := rp
      obtain ⟨of, t, mo, ag, bd, pr⟩ := s
      have wf := off_wf wf0 ho of
      have skip : (bt_ on l = 1 → ¬ μ0 (W + 5) l = x ∧ ¬ μ0 (W + 6) l = x) → SPR μ0 W o on idl nw drv R x (l + 1) L ρ b0 μ := fun hs => ⟨of, t, mo, ag, bd, fun c => ⟨(pr c).1, fun l' q0 q1 q2 => by
        by_cases cl : l' = l
        · subst cl
          exact ⟨fun c' => absurd c' (hs q2).1, fun c' => absurd c' (hs q2).2⟩
        · exact (pr c).2 l' q0 (by omega) q2⟩⟩
      refine bX3_spread_3 hΦ hR ⟨⟨by omega, by omega⟩, fun c => absurd c (by omega), fun _ => ⟨hon, h0, by omega, R32_one (bt_rg _ _), fun c => ?_, fun c => ?_⟩⟩
      · refine bX3_spread_31 hΦ hR ⟨⟨by decide, by decide⟩, fun _ => K μ (skip (fun c' => absurd c' c)), fun c => absurd rfl c⟩
      · obtain ⟨ek, ea, eb, ene⟩ := hE l h0 (by omega) c
        have x01 := mo.1.2.2.2.1 x (List.mem_append_left _ hx)
        have go : ∀ y, 0 ≤ y → y < nw → ((μ0 (W + 5) l = x ∧ μ0 (W + 6) l = y) ∨ (μ0 (W + 6) l = x ∧ μ0 (W + 5) l = y)) → Ex G Φ 8 31 [some (2, o), some (2, W), some (0, x), some (0, on), some (0, idl), some (0, l), none, none] [(0, y)] SHl μ 0 0 := fun y y0 y1 hy => by
          have f := sp61 hΦ hR rp' hx s' h0 (by omega) c hy K
          refine bX3_spread_31 hΦ hR ⟨⟨by omega, by omega⟩, fun c => absurd c (by omega), fun _ => ⟨hidl, h0, by omega, R32_one (bt_rg _ _), fun d => ⟨so_W hW, ?_⟩, fun d => ?_⟩⟩
          · rw [wf_W8 wf hW, off_W hW ho of (by decide) (by decide)]
            unfold kdE at f
            rw [if_neg (show ¬ bt_ idl l = 1 from d)] at f
            exact ⟨ai_W4 hW h0 (by omega), f⟩
          · unfold kdE at f
            rw [if_pos (show bt_ idl l = 1 from d)] at f
            exact f
        have w5 : μ (W + 5) = μ0 (W + 5) := off_W hW ho of (by decide) (by decide)
        have w6 : μ (W + 6) = μ0 (W + 6) := off_W hW ho of (by decide) (by decide)
        refine ⟨so_W hW, c6_across (nw := nw) wf hW h0 (by omega) ⟨x01.1, by omega⟩ (by rw [w5]; exact ea) (by rw [w6]; exact eb) n8 ?_⟩
        rw [w5, w6]
        by_cases c1 : μ0 (W + 5) l = x
        · rw [if_pos c1]; exact go _ eb.1 eb.2 (Or.inl ⟨c1, rfl⟩)
        · rw [if_neg c1]
          by_cases c2 : μ0 (W + 6) l = x
          · rw [if_pos c2]; exact go _ ea.1 ea.2 (Or.inr ⟨c2, rfl⟩)
          · rw [if_neg c2]
            exact bX3_spread_31 hΦ hR ⟨⟨by decide, by decide⟩, fun _ => K μ (skip (fun _ => ⟨c1, c2⟩)), fun c => absurd rfl c⟩
  exact loop 11 0 μ (by decide) (by decide) s
