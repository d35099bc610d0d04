def mres (μ : Mem) (o : Int) : Mem := mu (mu (mfill (mfill μ (o + 1) 8 0) (o + 2) 8 1) o 3 0) o 4 0
theorem mfill_off {μ : Mem} {a n v k i : Int} (h : ¬ (k = a ∧ 0 ≤ i ∧ i < n)) : mfill μ a n v k i = μ k i := by unfold mfill; rw [if_neg h]
theorem mfill_on {μ : Mem} {a n v i : Int} (h : 0 ≤ i ∧ i < n) : mfill μ a n v a i = v := by unfold mfill; rw [if_pos ⟨rfl, h⟩]
theorem mres_off {μ0 μ : Mem} {o : Int} (h : Off (FM o) μ0 μ) : Off (FM o) μ0 (mres μ o) := by
  unfold mres
  refine Off.mu (Off.mu ?_ (by unfold FM; omega)) (by unfold FM; omega)
  intro k i q
  have q' : ¬ (k = o + 1 ∨ k = o + 2) := fun c => q (by unfold FM; omega)
  rw [mfill_off (by omega), mfill_off (by omega)]
  exact h k i q
theorem mres_rr {μ : Mem} {o w : Int} (h0 : 0 ≤ w) (h1 : w < 8) : rr (mres μ o) o w = (0, 1) := by
  have e1 : mres μ o (o + 1) w = 0 := by unfold mres; rw [mu_off2 (by omega), mu_off2 (by omega), mfill_off (by omega), mfill_on ⟨h0, h1⟩]
  have e2 : mres μ o (o + 2) w = 1 := by unfold mres; rw [mu_off2 (by omega), mu_off2 (by omega), mfill_on ⟨h0, h1⟩]
  unfold rr; rw [e1, e2]
theorem mres_4 {μ : Mem} {o : Int} : mres μ o o 4 = 0 := by unfold mres; rw [mu_same]
theorem mres_3 {μ : Mem} {o : Int} : mres μ o o 3 = 0 := by unfold mres; rw [mu_off2 (by omega), mu_same]
theorem mres_5 {μ : Mem} {o : Int} : mres μ o o 5 = μ o 5 := by unfold mres; rw [mu_off2 (by omega), mu_off2 (by omega), mfill_off (by omega), mfill_off (by omega)]
theorem c3_rest {G : Gm} {Q : Mem → Prop} {μ : Mem} {o : Int} (wf : WF μ) (ho : isM o) (h : Q (mres μ o)) : Cv G mX3_restAll [(2, o)] SHl μ Q :=
  c_restAll (so_M ho) (so_M1 ho) (so_M2 ho) (wf_M0 wf ho) (wf_M1 wf ho) (by omega) h
theorem bt_zero (k : Int) : bt_ 0 k = 0 := by unfold bt_; simp
theorem Tree.one {T : Int → Int} {E : Int → Int → Int → Prop} {drv R nw : Int} {ρ : Int → Int × Int} (hR : 1 ≤ R ∧ R ≤ 30) (hd : 0 ≤ drv ∧ drv < nw) (h : ∀ w, 0 ≤ w → w < nw → ρ w = (0, 1)) : Tree T E drv R nw (ru ρ drv (R, 1)) [drv] := by
  have e : ru ρ drv (R, 1) drv = (R, 1) := by unfold ru; rw [if_pos rfl]
  refine ⟨by simp, by simp, e, ?_, ?_⟩
  · intro x hx
    rw [List.mem_singleton.mp hx, e]
    exact ⟨hd.1, hd.2, ⟨0, by simp, dep_0 hR⟩, fun ρ' hf => hf.1⟩
  · intro x h0 h1 hx
    have : x ≠ drv := fun c => hx (by rw [c]; simp)
    unfold ru; rw [if_neg this]; exact h x h0 h1
/-- what reckoning leaves -/
def RKQ (μ0 : Mem) (W o on idl nw drv R : Int) (μ : Mem) : Prop := Off (FM o) μ0 μ ∧ RS (μ0 (W + 1)) drv R nw (EE μ0 W on idl) (rr μ o) (μ o 5) ∧ (0 ≤ μ o 4 ∧ μ o 4 < 2 ^ nw.toNat) ∧ ∀ w, 0 ≤ w → w < nw → (bt_ (μ o 4) w = 1 ↔ μ (o + 1) w ≠ 0)
theorem rkq_bad {μ0 μ : Mem} {W o on idl nw drv R : Int} (rp : RP μ0 W o on idl nw drv R) (of : Off (FM o) μ0 μ) (hb : μ o 5 = 1) (hf : ¬ ∃ ρ', Fit (μ0 (W + 1)) drv R (EE μ0 W on idl) ρ') : RKQ μ0 W o on idl nw drv R (mres μ o) := by
  obtain ⟨wf0, hW, ho, ⟨n0, n8⟩, hT, hE, hRR, hd, hon, hidl⟩ := rp
  have p : (1 : Int) ≤ 2 ^ nw.toNat := (pw10 (by omega)).2
  refine ⟨mres_off of, Or.inr ⟨by rw [mres_5]; exact hb, n0, hf, fun w w0 w1 => mres_rr w0 (by omega)⟩, by rw [mres_4]; omega, fun w w0 w1 => ?_⟩
  have := congrArg Prod.fst (mres_rr (μ := μ) (o := o) w0 (show w < 8 by omega))
  have e : mres μ o (o + 1) w = 0 := this
  rw [mres_4, bt_zero, e]; simp
theorem c3_reckon1 {G : Gm} {Q : Mem → Prop} {μ0 : Mem} {W o on idl nw drv R : Int} (rp : RP μ0 W o on idl nw drv R) (e0 : μ0 W 0 = nw) (e3 : μ0 W 3 = drv) (e4 : μ0 W 4 = R) (h : ∀ μ', RKQ μ0 W o on idl nw drv R μ' → Q μ') : Cv G mX3_reckon [(2, o), (2, W), (0, on), (0, idl)] SHl μ0 Q := by
  have rp' := rp
  obtain ⟨wf0, hW, ho, ⟨n0, n8⟩, hT, hE, hRR, hd, hon, hidl⟩ := rp
  have hW' : W = 3 ∨ W = 12 := hW
  have ho' : o = 21 ∨ o = 25 := ho
  have loop : ∀ (Φ : Fr), St G Φ cX3_reckon RX3 5 4 111 0 0 → Rt G Φ (Pv SHl Q) 0 0 none → ∀ (m : Nat) (i : Nat) (μ : Mem) (L : List Int), i + m = 9 → Off (FM o) μ0 μ → MO (μ0 (W + 1)) (EE μ0 W on idl) drv R nw o L μ → (μ o 5 = 0 ∨ (μ o 5 = 1 ∧ ¬ ∃ ρ', Fit (μ0 (W + 1)) drv R (EE μ0 W on idl) ρ')) → i ≤ L.length → (μ o 5 = 0 → ∀ (j : Nat) (x : Int), j < i → L[j]? = some x → Proc (μ0 (W + 1)) on (kdE μ0 W idl) (μ0 (W + 5)) (μ0 (W + 6)) 11 L (rr μ o) x) →
      Ex G Φ 5 34 [some (2, o), some (2, W), some (0, on), some (0, idl), some (0, (i : Int))] [] SHl μ 0 0 := by
    intro Φ hΦ hR m
    induction m with
    | zero =>
      intro i μ L hi of mo bd hil pr
      have := mo.1.len n8
      omega
    | succ m ih =>
      intro i μ L hi of mo bd hil pr
      have len := mo.1.len n8
      have m3 := mo.2.1
      have wf := off_wf wf0 ho of
      have r5 : R32 (μ o 5) := by rcases bd with e | ⟨e, _⟩ <;> rw [e] <;> exact ⟨by decide, by decide⟩
      have out : μ o 5 ≠ 0 → Cv G mX3_restAll [(2, o)] SHl μ (fun μ5 => Q μ5) := fun c => by
        rcases bd with e | ⟨e, hf⟩
        · exact absurd e c
        · exact c3_rest wf ho (h _ (rkq_bad rp' of e hf))
      have fin : L.length ≤ i → μ o 5 = 0 → RKQ μ0 W o on idl nw drv R μ := fun ci c5 => by
        have pr := pr c5
        have all : ∀ x ∈ L, Proc (μ0 (W + 1)) on (kdE μ0 W idl) (μ0 (W + 5)) (μ0 (W + 6)) 11 L (rr μ o) x := fun x hx => by
          obtain ⟨j, hj⟩ := List.mem_iff_getElem?.mp hx
          have : j < L.length := (List.getElem?_eq_some_iff.mp hj).1
          exact pr j x (by omega) hj
        refine ⟨of, ?_, ?_, ?_⟩
        · rw [c5]
          refine mo.1.rs n8 ?_ ?_ ?_
          · rintro k x y ⟨l, l0, l1, l2, l3, l4, l5⟩
            obtain ⟨-, ea, eb, -⟩ := hE l l0 l1 l2
            rw [l4, l5]; exact ⟨ea, eb⟩
          · rintro k x y ⟨l, l0, l1, l2, l3, l4, l5⟩ hx
            rw [l3, l5]
            exact (((all x hx) l l0 l1 l2).1 l4.symm).2
          · rintro k x y ⟨l, l0, l1, l2, l3, l4, l5⟩ hy
            rw [l3, l4]
            exact (((all y hy) l l0 l1 l2).2 l5.symm).2
        · refine rg_bt mo.2.2.2.1 (by omega) (fun k k0 k1 => ?_)
          have := mo.2.2.2.2 k k1
          rcases bt_01 (x := μ o 4) (k := (k : Int)) with e | e
          · exact e
          · have := mo.1.2.2.2.1 _ (this.mp e)
            omega
        · intro w w0 w1
          have b := mo.2.2.2.2 w.toNat (by omega)
          rw [show ((w.toNat : Nat) : Int) = w by omega] at b
          rw [b]
          exact mo.1.nz w0 w1
      refine bX3_reckon_34 hΦ hR ⟨⟨by omega, by omega⟩, fun c => ⟨so_M ho, r5, fun c5 => h _ (fin (by omega) c5), fun c5 => out c5⟩, fun c => ⟨so_M ho, ⟨by omega, by omega⟩, fun c => ⟨r5, fun c5 => h _ (fin (by omega) c5), fun c5 => out c5⟩, fun c => ⟨r5, fun c5 => ⟨fun c6 => absurd c6 c5, fun _ => out c5⟩, fun c5 => ⟨so_W hW, ?_⟩⟩⟩⟩
      · have hil' : i < L.length := by omega
        have ex : ∃ x, L[i]? = some x := ⟨L[i], List.getElem?_eq_getElem hil'⟩
        obtain ⟨x, hxi⟩ := ex
        have row := mo.2.2.1 i hil'
        have ex2 : μ (o + 3) i = x := by rw [hxi] at row; exact (Option.some.inj row).symm
        have hx : x ∈ L := List.mem_of_getElem? hxi
        rw [wf_M2 wf ho, ex2]
        refine ⟨ai_M3 ho (by omega) (by omega), c3_spread (b0 := μ o 5) (ρ := rr μ o) (L := L) rp' hx ⟨of, [], by rw [List.append_nil]; exact mo, fun _ _ => rfl, bd, fun c => ⟨c, fun l' q0 q1 => absurd q1 (by omega)⟩⟩ (fun μ' s => ?_)⟩
        obtain ⟨of2, t, mo2, ag2, bd2, pr2⟩ := s
        have := ih (i + 1) μ' (L ++ t) (by omega) of2 mo2 bd2 (by simp; omega) (fun c j z hj hz => ?_)
        · have e : (((i + 1 : Nat)) : Int) = (i : Int) + 1 := by omega
          rw [e] at this
          exact this
        · obtain ⟨c1, c2⟩ := pr2 c
          rw [List.getElem?_append_left (by omega)] at hz
          by_cases cj : j = i
          · subst cj
            have : z = x := by rw [hxi] at hz; exact (Option.some.inj hz).symm
            rw [this]; exact c2
          · exact (pr c1 j z (by omega) hz).mono (List.mem_of_getElem? hz) ag2
  refine eX3_reckon (fun Φ hΦ hR => bX3_reckon_0 hΦ hR ⟨so_M ho, c3_rest wf0 ho ?_⟩)
  rintro m3 hm3
  have of3 : Off (FM o) μ0 m3 := by rw [hm3]; exact Off.mu (mres_off Off.rf) (by unfold FM; omega)
  have wf3 := off_wf wf0 ho of3
  have a0 : m3 W 0 = nw := by rw [of3 W 0 (by unfold FM; omega)]; exact e0
  have a3 : m3 W 3 = drv := by rw [of3 W 3 (by unfold FM; omega)]; exact e3
  have a4 : m3 W 4 = R := by rw [of3 W 4 (by unfold FM; omega)]; exact e4
  have r3 : m3 o 3 = 0 := by rw [hm3, mu_off2 (by omega), mres_3]
  have r4 : m3 o 4 = 0 := by rw [hm3, mu_off2 (by omega), mres_4]
  have r5 : m3 o 5 = 0 := by rw [hm3, mu_same]
  have rrm : ∀ w, 0 ≤ w → w < nw → rr m3 o w = (0, 1) := fun w w0 w1 => by
    have : rr m3 o w = rr (mres μ0 o) o w := by rw [hm3]; unfold rr; rw [mu_off2 (by omega), mu_off2 (by omega)]
    rw [this]; exact mres_rr w0 (by omega)
  rw [a0, a3, a4]
  refine ⟨so_W hW, ⟨by omega, by omega⟩, fun _ => ⟨⟨by omega, by omega⟩, c3_reach wf3 ho hd.1 (by omega) (by omega) (by omega) ?_⟩, fun c => absurd c (by omega)⟩
  have mo := mrea_mo (T := μ0 (W + 1)) (E := EE μ0 W on idl) (drv := drv) (R := R) (nw := nw) (o := o) (y := drv) (u := R) (d := 1) (L := []) (μ := m3) ⟨by rw [r3]; rfl, fun j hj => absurd hj (Nat.not_lt_zero _), by rw [r4]; exact R32_0, fun w hw => by rw [r4, bt_zero]; simp⟩ hd.1 (by omega) (Tree.one hRR hd rrm)
  exact loop Φ hΦ hR 9 0 _ [drv] rfl (of3.tr mrea_off) mo (Or.inl (by rw [mrea_5]; exact r5)) (Nat.zero_le _) (fun _ j x hj => absurd hj (Nat.not_lt_zero _))
/-- without a wheel -/
theorem c3_reckon0 {G : Gm} {Q : Mem → Prop} {μ0 : Mem} {W o on idl drv R : Int} (wf0 : WF μ0) (hW : isW W) (ho : isM o) (e0 : μ0 W 0 = 0) (h : ∀ μ', RKQ μ0 W o on idl 0 drv R μ' → Q μ') : Cv G mX3_reckon [(2, o), (2, W), (0, on), (0, idl)] SHl μ0 Q := by
  have hW' : W = 3 ∨ W = 12 := hW
  have ho' : o = 21 ∨ o = 25 := ho
  refine eX3_reckon (fun Φ hΦ hR => bX3_reckon_0 hΦ hR ⟨so_M ho, c3_rest wf0 ho ?_⟩)
  rintro m3 hm3
  have of3 : Off (FM o) μ0 m3 := by rw [hm3]; exact Off.mu (mres_off Off.rf) (by unfold FM; omega)
  have a0 : m3 W 0 = 0 := by rw [of3 W 0 (by unfold FM; omega)]; exact e0
  have r4 : m3 o 4 = 0 := by rw [hm3, mu_off2 (by omega), mres_4]
  have r5 : m3 o 5 = 0 := by rw [hm3, mu_same]
  rw [a0]
  refine ⟨so_W hW, R32_0, fun c => absurd rfl c, fun _ => h _ ⟨of3, ?_, by rw [r4]; decide, fun w w0 w1 => by omega⟩⟩
  rw [r5]
  exact Or.inl ⟨rfl, fun c => absurd c (by decide), fun w w0 w1 => by omega, fun w w0 w1 => by omega⟩
