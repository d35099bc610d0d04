theorem x32 {x : Int32} : R32 x.toInt := ⟨Int32.le_toInt x, by have := Int32.toInt_lt x; omega⟩
theorem so7 : So SHl 0 (.inl 7) := so_c (by decide) (by decide +kernel)
theorem so8 : So SHl 110 (.inl 8) := so_c (by decide) (by decide +kernel)
theorem lawC {G : Gm} {M1 M2 : Md} {as : List AV} {μ : Mem} {Q : Int → Mem → Prop} (h : Both G M1 M2 as μ) (hQ : ∀ r μ1, (∀ {K : Mem → Prop}, (∀ μ', Inv μ' → K μ') → Ci G M2 ((2, 110) :: as) SHl μ1 (fun r' μ2 => R32 r ∧ (R32 r' ∧ ((r = r' → K μ2) ∧ (¬ (r = r') → False))))) → Q r μ1) : Ci G M1 ((2, 0) :: as) SHl μ Q :=
  Ci_mono h (fun r μ1 h1 => hQ r μ1 (fun hk => Ci_mono h1 (fun r' μ2 h2 => ⟨h2.2.1, h2.1 ▸ h2.2.1, fun _ => hk _ h2.2.2, fun c => c h2.1⟩)))
theorem lawc {G : Gm} {M1 M2 : Md} {as : List AV} {μ : Mem} {K : Mem → Prop} (h : Both G M1 M2 as μ) (hk : ∀ μ', Inv μ' → K μ') : Ci G M1 ((2, 0) :: as) SHl μ (fun r μ1 => So SHl 110 (.inl 8) ∧ (Ci G M2 ((2, 110) :: as) SHl μ1 (fun r' μ2 => R32 r ∧ (R32 r' ∧ ((r = r' → K μ2) ∧ (¬ (r = r') → False)))))) :=
  lawC h (fun _ _ h' => ⟨so8, h' hk⟩)
theorem r32_63 (x : Int32) : R32 (mand x.toInt 63) := x32
set_option maxHeartbeats 4000000 in
theorem law_loop {G : Gm} {Φ : Fr} {n : Nat} {xs : Nat → Int32} {x0 : Int} (hΦ : St G Φ cL_law RL 4 11 424 600000 7302250) (hR : RtL G Φ) (hn : n ≤ 2560) (hS : Sx G Φ n xs) : ∀ (k : Nat) (i : Int) (μ : Mem), 0 ≤ i → i ≤ n → (n : Int) - i ≤ k → Inv μ → Ex G Φ 4 18 [some (3, x0), some (2, 0), some (2, 110), some (0, i)] [] SHl μ 133 2036 := by
  intro k
  induction k with
  | zero =>
    intro i μ h0 h1 h2 hI
    exact bL_law_18 hΦ hR (by omega) hS ⟨⟨by omega, by omega⟩, ⟨by omega, by omega⟩, fun _ => trivial, fun h => absurd (by omega : (n : Int) - 5 < i) h⟩
  | succ k ih =>
    intro i μ h0 h1 h2 hI
    have hn1 : n ≤ 2147483647 := by omega
    refine bL_law_18 hΦ hR hn1 hS ⟨⟨by omega, by omega⟩, ⟨by omega, by omega⟩, fun _ => trivial, fun hlt => ?_⟩
    have go : ∀ μ', Inv μ' → Ex G Φ 4 18 [some (3, x0), some (2, 0), some (2, 110), some (0, (i + 5))] [] SHl μ' 133 2036 := fun μ' h' => ih (i + 5) μ' (by omega) (by omega) (by omega) h'
    refine ⟨h0, by omega, r32_63 _, fun _ => go μ hI, (fun _ => ⟨so7, by omega, by omega, lawc (st_feed hI x32) (fun μ' h' => go μ' h')⟩),
     (fun _ => ⟨so7, lawc (st_clock hI) (fun μ' h' => go μ' h')⟩),
     (fun _ => ⟨so7, lawc (st_fault hI) (fun μ' h' => go μ' h')⟩),
     (fun _ => ⟨so7, by omega, by omega, lawc (st_told hI x32) (fun μ' h' => go μ' h')⟩),
     (fun _ => ⟨so7, by omega, by omega, by omega, by omega, lawc (st_wheel hI x32 x32) (fun μ' h' => go μ' h')⟩),
     (fun _ => ⟨so7, by omega, by omega, by omega, by omega, lawc (st_link hI x32 x32) (fun μ' h' => go μ' h')⟩),
     (fun _ => ⟨so7, by omega, by omega, by omega, by omega, lawc (st_feast hI x32 x32) (fun μ' h' => go μ' h')⟩),
     (fun _ => ⟨so7, by omega, by omega, by omega, by omega, lawc (st_stands hI x32 x32) (fun μ' h' => go μ' h')⟩),
     (fun _ => ⟨so7, by omega, by omega, lawc (st_days hI x32) (fun μ' h' => go μ' h')⟩),
     (fun _ => ⟨so7, by omega, by omega, by omega, by omega, x32, fun e => bL_law_426 hΦ hR hn1 hS ⟨so7, lawC (st_cut hI x32 (.inl rfl)) (fun r μ1 h => ⟨so8, by omega, by omega, by omega, by omega, x32, fun _ => h (fun μ' h' => go μ' h'), fun e' => absurd e e'⟩)⟩,
      fun e => bL_law_426 hΦ hR hn1 hS ⟨so7, lawC (st_cut hI x32 (.inr rfl)) (fun r μ1 h => ⟨so8, by omega, by omega, by omega, by omega, x32, fun e' => absurd e' e, fun _ => h (fun μ' h' => go μ' h')⟩)⟩⟩),
     (fun _ => ⟨so7, by omega, by omega, by omega, by omega, lawc (st_slip hI x32 x32) (fun μ' h' => go μ' h')⟩),
     (fun _ => ⟨so7, by omega, by omega, lawc (st_drift hI x32) (fun μ' h' => go μ' h')⟩),
     (fun _ => ⟨so7, by omega, by omega, lawc (st_undo hI x32) (fun μ' h' => go μ' h')⟩),
     (fun _ => ⟨so7, by omega, by omega, lawc (st_next hI x32) (fun μ' h' => go μ' h')⟩),
     (fun _ => ⟨so7, by omega, by omega, lawc (st_together hI x32) (fun μ' h' => go μ' h')⟩),
     (fun _ => ⟨so7, lawc (st_again hI) (fun μ' h' => go μ' h')⟩),
     (fun _ => ⟨so7, by omega, by omega, by omega, by omega, by omega, by omega, by omega, by omega, lawc (st_added hI x32 x32 x32 x32) (fun μ' h' => go μ' h')⟩),
     (fun _ => ⟨so7, by omega, by omega, by omega, by omega, lawc (st_alike hI x32 x32) (fun μ' h' => go μ' h')⟩),
     (fun _ => ⟨so7, by omega, by omega, by omega, by omega, by omega, by omega, lawc (st_idlers hI x32 x32 x32) (fun μ' h' => go μ' h')⟩),
     (fun _ => ⟨so7, by omega, by omega, lawc (st_free hI x32) (fun μ' h' => go μ' h')⟩),
     (fun _ => ⟨so7, by omega, by omega, by omega, by omega, lawc (st_rest hI x32 x32) (fun μ' h' => go μ' h')⟩),
     (fun _ => ⟨so7, by omega, by omega, by omega, by omega, lawc (st_wear hI x32 x32) (fun μ' h' => go μ' h')⟩),
     (fun _ => ⟨so7, by omega, by omega, by omega, by omega, lawc (st_slips hI x32 x32) (fun μ' h' => go μ' h')⟩),
     (fun _ => ⟨so7, by omega, by omega, by omega, by omega, by omega, by omega, by omega, by omega, lawc (st_hidden hI x32 x32 x32 x32) (fun μ' h' => go μ' h')⟩),
     (fun _ => ⟨so7, by omega, by omega, by omega, by omega, by omega, by omega, lawc (st_stood hI x32 x32 x32) (fun μ' h' => go μ' h')⟩),
     (fun _ => ⟨so7, by omega, by omega, by omega, by omega, lawc (st_teeth hI x32 x32) (fun μ' h' => go μ' h')⟩),
     (fun _ => ⟨so7, by omega, by omega, lawc (st_look hI x32) (fun μ' h' => go μ' h')⟩),
     (fun _ => ⟨so7, by omega, by omega, by omega, by omega, by omega, by omega, lawc (st_write hI x32 x32 x32) (fun μ' h' => go μ' h')⟩),
     (fun _ => ⟨so7, lawc (st_judge hI) (fun μ' h' => go μ' h')⟩),
     (fun _ => ⟨so7, lawc (st_tear hI) (fun μ' h' => go μ' h')⟩),
     (fun _ => ⟨so7, by omega, by omega, lawc (st_seed hI x32) (fun μ' h' => go μ' h')⟩),
     (fun _ => ⟨so7, by omega, by omega, lawc (st_keep hI x32) (fun μ' h' => go μ' h')⟩),
     (fun _ => ⟨so7, by omega, by omega, lawc (st_goBack hI x32) (fun μ' h' => go μ' h')⟩)⟩
theorem u_kn {s : State} {A : Array Value} (hts : ∀ w ∈ wsT, w.before A s = true) {ci : Nat} (h : ci < 9) : ∃ (cC : ClassId) (iS : Nat → Nat), u_Kn s (mC ci) (mT ci) (mN ci) cC iS := by
  have hi : Cond.instantiable (mC ci) (mN ci) ∈ wsT := by
    match ci, h with
    | 0, _ => exact wsT_of 271 (by decide +kernel) (by rfl)
    | 1, _ => exact wsT_of 318 (by decide +kernel) (by rfl)
    | 2, _ => exact wsT_of 293 (by decide +kernel) (by rfl)
    | 3, _ => exact wsT_of 211 (by decide +kernel) (by rfl)
    | 4, _ => exact wsT_of 105 (by decide +kernel) (by rfl)
    | 5, _ => exact wsT_of 248 (by decide +kernel) (by rfl)
    | 6, _ => exact wsT_of 140 (by decide +kernel) (by rfl)
    | 7, _ => exact wsT_of 97 (by decide +kernel) (by rfl)
    | 8, _ => exact wsT_of 840 (by decide +kernel) (by rfl)
  exact u_known hts (mT_in h) (hts _ hi)
theorem u_ar {s : State} {A : Array Value} {ty : FieldType} (hp : ∀ C, ty ≠ .object C) (h : (Cond.arrayClass ty).before A s = true) : ∃ cA : ClassId, ArrOfT s cA ty ∧ va_RA s cA ty := by
  obtain ⟨c, k, comp, h1, h2, h3⟩ := Cond.arrayClass_spec h
  refine ⟨c, fun n z => ⟨(fun k h => by cases h), k, h2, comp, h3⟩, ?_⟩
  cases ty with
  | object C => exact absurd rfl (hp C)
  | _ => exact h1
theorem u_ao {s : State} {A : Array Value} {C : String} (h : (Cond.arrayOver (.object C)).before A s = true) : ∃ cA : ClassId, ArrOfT s cA (.object C) ∧ va_RA s cA (.object C) := by
  obtain ⟨comp, c, k, h1, h2, h3, h4, h5⟩ := Cond.arrayOver_spec h
  exact ⟨c, fun n z => ⟨(fun k h => by cases h), k, h3, comp, h4⟩, k, comp, h3, h4, h1, h5⟩
theorem kst_of {l : Launch} {s : State} {A : Array Value} (hts : ∀ w ∈ lw_tbl, w.before A s = true) (b0 b : Nat) : ∃ (D : va_G) (cA : Nat → ClassId), kst (l, D, cA, b0, b) s := by
  have hw : ∀ w ∈ wsT, w.before A s = true := fun w h => hts w (wsT_in w h)
  have tb : ∀ (k : Nat) (w : Cond), lw_tbl[k]? = some w → w.before A s = true := fun k w h => hts w (List.mem_of_getElem? h)
  obtain ⟨a0, i0⟩ := u_ar (ty := .int) (fun C h => by cases h) (tb 209 _ (by decide +kernel))
  obtain ⟨a1, i1⟩ := u_ar (ty := .long) (fun C h => by cases h) (tb 246 _ (by decide +kernel))
  obtain ⟨a2, i2⟩ := u_ar (ty := .char) (fun C h => by cases h) (tb 138 _ (by decide +kernel))
  obtain ⟨a3, i3⟩ := u_ar (ty := .boolean) (fun C h => by cases h) (tb 975 _ (by decide +kernel))
  have o4 : (Cond.arrayOver (.object "CogFamily$Image")).before A s = true := tb 291 _ (by decide +kernel)
  have o5 : (Cond.arrayOver (.object "CogFamily$Stand")).before A s = true := tb 277 _ (by decide +kernel)
  obtain ⟨a4, i4⟩ := u_ao o4
  obtain ⟨a5, i5⟩ := u_ao o5
  have hc : ∀ ci : Nat, ∃ q : ClassId × (Nat → Nat), ci < 9 → u_Kn s (mC ci) (mT ci) (mN ci) q.1 q.2 := by
    intro ci
    by_cases h : ci < 9
    · obtain ⟨cC, iS, hk⟩ := u_kn hw h
      exact ⟨(cC, iS), fun _ => hk⟩
    · exact ⟨(a0, fun _ => 0), fun h' => absurd h' h⟩
  refine ⟨(fun ci => (Classical.choose (hc ci)).1, fun ci => (Classical.choose (hc ci)).2), fun k => match k with | 0 => a0 | 1 => a1 | 2 => a2 | 3 => a3 | 4 => a4 | _ => a5, ⟨fun c q hq => ?_, fun k q hq => ?_⟩, fun q hq => ?_, va_AO.of o4, va_AO.of o5⟩
  · have hl : c < 9 := (List.getElem?_eq_some_iff.mp hq).1
    have e := (mC_in hl).symm.trans hq
    cases e
    exact Classical.choose_spec (hc c) hl
  · match k, hq with
    | 0, hq => cases hq; exact i0
    | 1, hq => cases hq; exact i1
    | 2, hq => cases hq; exact i2
    | 3, hq => cases hq; exact i3
    | 4, hq => cases hq; exact i4
    | 5, hq => cases hq; exact i5
    | k + 6, hq => cases hq
  · have : (Cond.methodLinkNest q.1 q.2.1 q.2.2.1 q.2.2.2) ∈ lw_tbl := by
      simp only [nestW, List.mem_cons, List.not_mem_nil, or_false] at hq
      rcases hq with rfl | rfl | rfl | rfl | rfl | rfl | rfl | rfl | rfl
      · exact List.mem_of_getElem? (i := 106) (by decide +kernel)
      · exact List.mem_of_getElem? (i := 141) (by decide +kernel)
      · exact List.mem_of_getElem? (i := 249) (by decide +kernel)
      · exact List.mem_of_getElem? (i := 319) (by decide +kernel)
      · exact List.mem_of_getElem? (i := 278) (by decide +kernel)
      · exact List.mem_of_getElem? (i := 324) (by decide +kernel)
      · exact List.mem_of_getElem? (i := 430) (by decide +kernel)
      · exact List.mem_of_getElem? (i := 499) (by decide +kernel)
      · exact List.mem_of_getElem? (i := 632) (by decide +kernel)
    exact va_Nw.of rfl (hts _ this)
theorem qCL7 : Cond.classLink RL 7 RX7 ∈ wsT := wsT_of 96 (by decide +kernel) (by rfl)
theorem qIN7 : Cond.instantiable RX7 13 ∈ wsT := wsT_of 97 (by decide +kernel) (by rfl)
theorem qML7 : Cond.methodLink RL 9 yX7_init ∈ wsT := wsT_of 98 (by decide +kernel) (by rfl)
theorem qCL8 : Cond.classLink RL 10 RX8 ∈ wsT := wsT_of 839 (by decide +kernel) (by rfl)
theorem qIN8 : Cond.instantiable RX8 43 ∈ wsT := wsT_of 840 (by decide +kernel) (by rfl)
theorem qML8 : Cond.methodLink RL 12 yX8_init ∈ wsT := wsT_of 841 (by decide +kernel) (by rfl)
theorem qw97 : Cond.instanceMethod yX7_init ∈ wsT := wsT_of 99 (by decide +kernel) (by rfl)
theorem qwc7 : Cond.code yX7_init cX7_init 2 none ∈ wsT := wsT_of 100 (by decide +kernel) (by rfl)
theorem qwi8 : Cond.instanceMethod yX8_init ∈ wsT := wsT_of 842 (by decide +kernel) (by rfl)
theorem qwc8 : Cond.code yX8_init cX8_init 1 none ∈ wsT := wsT_of 843 (by decide +kernel) (by rfl)
theorem lkI_L_9 : lfI RL 9 mX7_init 0 := ⟨⟨qML7, qwc7, qw83, by decide +kernel, by decide +kernel, by decide +kernel⟩, qw97, rfl, rfl⟩
theorem lkI_L_12 : lfI RL 12 mX8_init 0 := ⟨⟨qML8, qwc8, qw93, by decide +kernel, by decide +kernel, by decide +kernel⟩, qwi8, rfl, rfl⟩
theorem SH_0 : SH0 = SHl := by decide +kernel
set_option maxRecDepth 100000 in
theorem whole_start {p : Program} {e : Env} {s : State} {m : MethodId} {below : List Frame} {meth : Method} {c : Code} (l : Launch) (hflags : l.flags = flags0) {b L : Nat} {xs : Nat → Int32} (hL : L ≤ 2560) (C0 : lw_At p s m meth c b L xs) : W p l e room_1 s m #[Value.ref b] below meth c s.heap [] 0 0 (lw_Z below #[Value.ref b] s) (entryFrame m ([Value.ref b] : List Value).toArray 4) := by
  obtain ⟨hx, hb, hret, hml, hown, hts, hX, hbl, hlk, -⟩ := C0
  obtain ⟨D, cA, hK⟩ := kst_of (l := l) hts s.heap.size b
  let G : Gm := (l, D, cA, s.heap.size, b)
  let Φ : Fr := (p, e, room_1, s, m, #[Value.ref b], below, meth, c, lw_Z below #[Value.ref b] s)
  have hΦ : St G Φ cL_law RL 4 11 424 600000 7302250 := ⟨hx, hb, hml, hown, fun w hw => hts w (wsT_in w hw), hK, Nat.le_refl _, rfl⟩
  have hR : RtL G Φ := ⟨hret, hlk, rfl, rfl, rfl⟩
  have hS : Sx G Φ L xs := ⟨hX, hbl⟩
  have k : Ex G Φ 4 0 [some (3, 0), none, none, none] [] [] (fun _ _ => 0) 0 0 := by
    refine ex_new' (q := 0) (ci := 7) hΦ rfl (by decide) (by decide +kernel) qCL7 qIN7 qw83 (by decide) dL_law_0 ?_
    refine ex_dup hΦ dL_law_3 (by decide) ?_
    refine ex_callI (P' := fun r S' μ' => r = none ∧ S' = sC26 ∧ μ' = mC40) [] [(2, 0), (2, 0)] hΦ lkI_L_9 ⟨by decide, by decide⟩ (Nat.le_of_ble_eq_true rfl) rfl (by decide) (by decide) dL_law_4 rfl (kX7_init ⟨rfl, rfl, rfl⟩) (fun r S' μ' hp => ?_)
    obtain ⟨h1, h2, h3⟩ := hp; subst h1; subst h2; subst h3
    refine ex_astore_n (L' := [some (3, 0), some (2, 0), none, none]) hΦ dL_law_7 (by decide) (by decide) rfl ?_
    refine ex_new' (q := 110) (ci := 8) hΦ (by decide +kernel) (by decide) (by decide +kernel) qCL8 qIN8 qw93 (by decide) dL_law_8 ?_
    refine ex_dup hΦ dL_law_11 (by decide) ?_
    refine ex_callI (P' := fun r S' μ' => r = none ∧ S' = SH0 ∧ μ' = MH0) [] [(2, 110), (2, 110)] hΦ lkI_L_12 ⟨by decide, by decide⟩ (Nat.le_of_ble_eq_true rfl) rfl (by decide) (by decide) dL_law_12 rfl (kX8_init ⟨rfl, rfl, rfl⟩) (fun r S' μ' hp => ?_)
    obtain ⟨h1, h2, h3⟩ := hp; subst h1; subst h2; subst h3
    refine ex_astore_n (L' := [some (3, 0), some (2, 0), some (2, 110), none]) hΦ dL_law_15 (by decide) (by decide) rfl ?_
    refine ex_iconst hΦ dL_law_16 ?_
    refine ex_istore_n (L' := [some (3, 0), some (2, 0), some (2, 110), some (0, 0)]) hΦ dL_law_17 (by decide) rfl ?_
    rw [SH_0]
    exact law_loop hΦ hR hL hS L 0 MH0 (by decide) (by omega) (by omega) InvMH0
  have hl := lv_entry ([Value.ref b]) (n := 4) (by have : (Value.ref b).category = 1 := rfl; simp [lg_sl, this])
  rw [lg_entry_eq]
  refine k s.heap [] _ rfl (fun k q hq => by simp [mw] at hq) va_S.rf ⟨hl.1, hl.2.1, fun i v hi => ?_⟩
  match i, hi with
  | 0, hi =>
    cases hi
    exact hl.2.2 (0, Value.ref b) (by simp [lv_args])
  | 1, hi => cases hi
  | 2, hi => cases hi
  | 3, hi => cases hi
