theorem eX7_feed {G : Gm} {S : List Sh} {μ : Mem} {Q : Int → Mem → Prop} {x0 x1 : Int} (h : ∀ Φ : Fr, St G Φ cX7_feed RX7 2 1 21 0 0 → Rt G Φ (Pi S Q) 0 0 (some .int) → Ex G Φ 2 0 [some (2, x0), some (0, x1)] [] S μ 0 0) : Ci G mX7_feed [(2, x0), (0, x1)] S μ Q :=
  call_of' (plainFor_of_name (by decide +kernel)) [some (2, x0), some (0, x1)] rfl (Nat.le_of_ble_eq_true rfl) (fun Φ hΦ hR => h Φ hΦ hR)
theorem bX7_feed_0 {G : Gm} {Φ : Fr} {S : List Sh} {μ : Mem} {Q : Int → Mem → Prop} (hΦ : St G Φ cX7_feed RX7 2 1 21 0 0) (hR : Rt G Φ (Pi S Q) 0 0 (some .int)) {x0 x1 : Int} (h : R32 x1 ∧ ((x1 < 0 → Q (-1000000002) μ) ∧ (¬ (x1 < 0) → (x1 ≤ 255 → So S x0 (.inl 7) ∧ (0 ≤ x1 ∧ (x1 ≤ 65535 ∧ (So S (μ x0 0) (.inl 4) ∧ Ci G mX4_take [(2, (μ x0 0)), (0, x1)] S μ (fun r6 μ6 => Q r6 μ6))))) ∧ (¬ (x1 ≤ 255) → Q (-1000000002) μ)))) : Ex G Φ 2 0 [some (2, x0), some (0, x1)] [] S μ 0 0 := by
  refine ex_iload_n hΦ dX7_feed_0 rfl ?_
  obtain ⟨o1, h⟩ := h
  refine ex_if_lt 11 hΦ dX7_feed_1 (by decide) o1 (fun c => ?_) (fun c => ?_)
  · have h := h.1 c
    refine ex_ldc hΦ dX7_feed_11 qw380 ?_
    exact ex_returni hΦ hR dX7_feed_13 h
  · have h := h.2 c
    refine ex_iload_n hΦ dX7_feed_4 rfl ?_
    refine ex_sipush hΦ dX7_feed_5 (by decide) ?_
    refine ex_icmp_le 14 hΦ dX7_feed_8 (by decide) o1 ⟨by decide, by decide⟩ (fun c => ?_) (fun c => ?_)
    · have h := h.1 c
      obtain ⟨o2, h⟩ := h
      refine ex_aload_n hΦ dX7_feed_14 rfl o2.1 ?_
      refine ex_getf hΦ fl_X7_10 o2 dX7_feed_15 ?_
      refine ex_iload_n hΦ dX7_feed_18 rfl ?_
      obtain ⟨o3, h⟩ := h
      obtain ⟨o4, h⟩ := h
      refine ex_i2c hΦ dX7_feed_19 o3 o4 ?_
      obtain ⟨o5, h⟩ := h
      refine ex_callVi [(0, x1)] [(0, x1), (2, (μ x0 0))] hΦ lkV_X7_77 ⟨by decide, by decide⟩ (Nat.le_of_ble_eq_true rfl) rfl (by decide) 4 (by decide) rfl o5 dX7_feed_20 rfl h (fun r6 μ6 h => ?_)
      exact ex_returni hΦ hR dX7_feed_23 h
    · have h := h.2 c
      refine ex_ldc hΦ dX7_feed_11 qw380 ?_
      exact ex_returni hΦ hR dX7_feed_13 h
theorem eX7_clock {G : Gm} {S : List Sh} {μ : Mem} {Q : Int → Mem → Prop} {x0 : Int} (h : ∀ Φ : Fr, St G Φ cX7_clock RX7 2 6 155 0 0 → Rt G Φ (Pi S Q) 0 0 (some .int) → Ex G Φ 2 0 [some (2, x0), none] [] S μ 0 0) : Ci G mX7_clock [(2, x0)] S μ Q :=
  call_of' (plainFor_of_name (by decide +kernel)) [some (2, x0), none] rfl (Nat.le_of_ble_eq_true rfl) (fun Φ hΦ hR => h Φ hΦ hR)
theorem bX7_clock_0 {G : Gm} {Φ : Fr} {S : List Sh} {μ : Mem} {Q : Int → Mem → Prop} (hΦ : St G Φ cX7_clock RX7 2 6 155 0 0) (hR : Rt G Φ (Pi S Q) 0 0 (some .int)) {x0 : Int} (h : So S x0 (.inl 7) ∧ (So S (μ x0 0) (.inl 4) ∧ (Cv G mX4_read [(2, (μ x0 0)), (2, (μ x0 2))] S μ (fun μ3 => So S (μ3 x0 0) (.inl 4) ∧ (R32 (μ3 (μ3 x0 0) 6) ∧ (((μ3 (μ3 x0 0) 6) = 0 → So S (μ3 x0 1) (.inl 6) ∧ (So S (μ3 x0 2) (.inl 6) ∧ (∀ m8 : Mem, m8 = mu μ3 x0 1 (μ3 x0 2) → (∀ m9 : Mem, m9 = mu m8 x0 2 (μ3 x0 1) → (Cv G mX7_beginClock [(2, x0)] S m9 (fun μ10 => Cv G mX7_reckonNow [(2, x0)] S μ10 (fun μ11 => So S (μ11 x0 1) (.inl 6) ∧ Q (μ11 (μ11 x0 1) 0) μ11))))))) ∧ (¬ ((μ3 (μ3 x0 0) 6) = 0) → Q ((-10) - (μ3 (μ3 x0 0) 6)) μ3))))))) : Ex G Φ 2 0 [some (2, x0), none] [] S μ 0 0 := by
  obtain ⟨o1, h⟩ := h
  refine ex_aload_n hΦ dX7_clock_0 rfl o1.1 ?_
  refine ex_getf hΦ fl_X7_10 o1 dX7_clock_1 ?_
  refine ex_aload_n hΦ dX7_clock_4 rfl o1.1 ?_
  refine ex_getf hΦ fl_X7_23 o1 dX7_clock_5 ?_
  obtain ⟨o2, h⟩ := h
  refine ex_callVv [(2, (μ x0 2))] [(2, (μ x0 2)), (2, (μ x0 0))] hΦ lkV_X7_81 ⟨by decide, by decide⟩ (Nat.le_of_ble_eq_true rfl) rfl (by decide) 4 (by decide) rfl o2 dX7_clock_8 rfl h (fun μ3 h => ?_)
  refine ex_aload_n hΦ dX7_clock_11 rfl o1.1 ?_
  refine ex_getf hΦ fl_X7_10 o1 dX7_clock_12 ?_
  obtain ⟨o4, h⟩ := h
  refine ex_getf hΦ fl_X7_85 o4 dX7_clock_15 ?_
  obtain ⟨o5, h⟩ := h
  refine ex_if_eq 32 hΦ dX7_clock_18 (by decide) o5 (fun c => ?_) (fun c => ?_)
  · have h := h.1 c
    refine ex_aload_n hΦ dX7_clock_32 rfl o1.1 ?_
    refine ex_getf hΦ fl_X7_19 o1 dX7_clock_33 ?_
    obtain ⟨o6, h⟩ := h
    refine ex_astore_n (L' := [some (2, x0), some (2, (μ3 x0 1))]) hΦ dX7_clock_36 (by decide) o6.1 rfl ?_
    refine ex_aload_n hΦ dX7_clock_37 rfl o1.1 ?_
    refine ex_aload_n hΦ dX7_clock_38 rfl o1.1 ?_
    refine ex_getf hΦ fl_X7_23 o1 dX7_clock_39 ?_
    obtain ⟨o7, h⟩ := h
    obtain ⟨m8, hm8⟩ : ∃ m : Mem, m = mu μ3 x0 1 (μ3 x0 2) := ⟨_, rfl⟩
    have h := h m8 hm8
    refine ex_puta' hΦ fl_X7_19 o1 rfl o7.1 dX7_clock_42 hm8 ?_
    refine ex_aload_n hΦ dX7_clock_45 rfl o1.1 ?_
    refine ex_aload_n hΦ dX7_clock_46 rfl o6.1 ?_
    obtain ⟨m9, hm9⟩ : ∃ m : Mem, m = mu m8 x0 2 (μ3 x0 1) := ⟨_, rfl⟩
    have h := h m9 hm9
    refine ex_puta' hΦ fl_X7_23 o1 rfl o6.1 dX7_clock_47 hm9 ?_
    refine ex_aload_n hΦ dX7_clock_50 rfl o1.1 ?_
    refine ex_callVv [] [(2, x0)] hΦ lkV_X7_89 ⟨by decide, by decide⟩ (Nat.le_of_ble_eq_true rfl) rfl (by decide) 7 (by decide) rfl o1 dX7_clock_51 rfl h (fun μ10 h => ?_)
    refine ex_aload_n hΦ dX7_clock_54 rfl o1.1 ?_
    refine ex_callVv [] [(2, x0)] hΦ lkV_X7_92 ⟨by decide, by decide⟩ (Nat.le_of_ble_eq_true rfl) rfl (by decide) 7 (by decide) rfl o1 dX7_clock_55 rfl h (fun μ11 h => ?_)
    refine ex_aload_n hΦ dX7_clock_58 rfl o1.1 ?_
    refine ex_getf hΦ fl_X7_19 o1 dX7_clock_59 ?_
    obtain ⟨o12, h⟩ := h
    refine ex_getf hΦ fl_X7_95 o12 dX7_clock_62 ?_
    exact ex_returni hΦ hR dX7_clock_65 h
  · have h := h.2 c
    refine ex_bipush hΦ dX7_clock_21 (by decide) ?_
    refine ex_aload_n hΦ dX7_clock_23 rfl o1.1 ?_
    refine ex_getf hΦ fl_X7_10 o1 dX7_clock_24 ?_
    refine ex_getf hΦ fl_X7_85 o4 dX7_clock_27 ?_
    refine ex_isub hΦ dX7_clock_30 ?_
    exact ex_returni hΦ hR dX7_clock_31 h
theorem eX7_fault {G : Gm} {S : List Sh} {μ : Mem} {Q : Int → Mem → Prop} {x0 : Int} (h : ∀ Φ : Fr, St G Φ cX7_fault RX7 1 0 0 0 0 → Rt G Φ (Pi S Q) 0 0 (some .int) → Ex G Φ 1 0 [some (2, x0)] [] S μ 0 0) : Ci G mX7_fault [(2, x0)] S μ Q :=
  call_of' (plainFor_of_name (by decide +kernel)) [some (2, x0)] rfl (Nat.le_of_ble_eq_true rfl) (fun Φ hΦ hR => h Φ hΦ hR)
theorem bX7_fault_0 {G : Gm} {Φ : Fr} {S : List Sh} {μ : Mem} {Q : Int → Mem → Prop} (hΦ : St G Φ cX7_fault RX7 1 0 0 0 0) (hR : Rt G Φ (Pi S Q) 0 0 (some .int)) {x0 : Int} (h : So S x0 (.inl 7) ∧ (So S (μ x0 0) (.inl 4) ∧ Q (μ (μ x0 0) 7) μ)) : Ex G Φ 1 0 [some (2, x0)] [] S μ 0 0 := by
  obtain ⟨o1, h⟩ := h
  refine ex_aload_n hΦ dX7_fault_0 rfl o1.1 ?_
  refine ex_getf hΦ fl_X7_10 o1 dX7_fault_1 ?_
  obtain ⟨o2, h⟩ := h
  refine ex_getf hΦ fl_X7_98 o2 dX7_fault_4 ?_
  exact ex_returni hΦ hR dX7_fault_7 h
theorem eX7_told {G : Gm} {S : List Sh} {μ : Mem} {Q : Int → Mem → Prop} {x0 x1 : Int} (h : ∀ Φ : Fr, St G Φ cX7_told RX7 2 6 140 0 0 → Rt G Φ (Pi S Q) 0 0 (some .int) → Ex G Φ 2 0 [some (2, x0), some (0, x1)] [] S μ 0 0) : Ci G mX7_told [(2, x0), (0, x1)] S μ Q :=
  call_of' (plainFor_of_name (by decide +kernel)) [some (2, x0), some (0, x1)] rfl (Nat.le_of_ble_eq_true rfl) (fun Φ hΦ hR => h Φ hΦ hR)
theorem bX7_told_0 {G : Gm} {Φ : Fr} {S : List Sh} {μ : Mem} {Q : Int → Mem → Prop} (hΦ : St G Φ cX7_told RX7 2 6 140 0 0) (hR : Rt G Φ (Pi S Q) 0 0 (some .int)) {x0 x1 : Int} (h : R32 x1 ∧ (((x1 < 0 ∨ 14 < x1) → Q (-1000000002) μ) ∧ (x1 = 0 → So S x0 (.inl 7) ∧ (So S (μ x0 1) (.inl 6) ∧ Q (μ (μ x0 1) 0) μ)) ∧ (x1 = 1 → So S x0 (.inl 7) ∧ (So S (μ x0 1) (.inl 6) ∧ Q (μ (μ x0 1) 1) μ)) ∧ (x1 = 2 → So S x0 (.inl 7) ∧ (So S (μ x0 1) (.inl 6) ∧ Q (μ (μ x0 1) 2) μ)) ∧ (x1 = 3 → So S x0 (.inl 7) ∧ (So S (μ x0 0) (.inl 4) ∧ Q (μ (μ x0 0) 1) μ)) ∧ (x1 = 4 → So S x0 (.inl 7) ∧ (So S (μ x0 5) (.inl 5) ∧ Q (μ (μ x0 5) 0) μ)) ∧ (x1 = 5 → So S x0 (.inl 7) ∧ (So S (μ x0 5) (.inl 5) ∧ Q (μ (μ x0 5) 1) μ)) ∧ (x1 = 6 → So S x0 (.inl 7) ∧ (So S (μ x0 1) (.inl 6) ∧ (R32 (μ (μ x0 1) 0) ∧ (((μ (μ x0 1) 0) ≠ 0 → Q (μ (μ x0 1) 3) μ) ∧ ((μ (μ x0 1) 0) = 0 → Q (-1) μ))))) ∧ (x1 = 7 → So S x0 (.inl 7) ∧ (So S (μ x0 1) (.inl 6) ∧ Q (μ (μ x0 1) 4) μ)) ∧ (x1 = 8 → So S x0 (.inl 7) ∧ (So S (μ x0 3) (.inl 3) ∧ (R32 (μ (μ x0 3) 5) ∧ (((μ (μ x0 3) 5) = 0 → Q 0 μ) ∧ (¬ ((μ (μ x0 3) 5) = 0) → Q 1 μ))))) ∧ (x1 = 9 → So S x0 (.inl 7) ∧ (So S (μ x0 5) (.inl 5) ∧ Q (μ (μ x0 5) 2) μ)) ∧ (x1 = 10 → So S x0 (.inl 7) ∧ (So S (μ x0 3) (.inl 3) ∧ Q (μ (μ x0 3) 4) μ)) ∧ (x1 = 11 → So S x0 (.inl 7) ∧ (So S (μ x0 8) (.inl 2) ∧ Q (μ (μ x0 8) 3) μ)) ∧ (x1 = 12 → So S x0 (.inl 7) ∧ (So S (μ x0 9) (.inl 2) ∧ Q (μ (μ x0 9) 3) μ)) ∧ (x1 = 13 → So S x0 (.inl 7) ∧ (So S (μ x0 6) (.inl 0) ∧ Q (μ (μ x0 6) 2) μ)) ∧ (x1 = 14 → So S x0 (.inl 7) ∧ Ci G mX7_feastsToday [(2, x0)] S μ (fun r33 μ33 => Q r33 μ33)))) : Ex G Φ 2 0 [some (2, x0), some (0, x1)] [] S μ 0 0 := by
  refine ex_iload_n hΦ dX7_told_0 rfl ?_
  obtain ⟨o1, h⟩ := h
  refine ex_table hΦ dX7_told_1 o1 215 (by decide) (fun c => ?_) (fun c1 c2 => ?_)
  · have h := h.1 c
    refine ex_ldc hΦ dX7_told_215 qw380 ?_
    exact ex_returni hΦ hR dX7_told_217 h
  · have h := h.2
    obtain ⟨k, hk, hx⟩ : ∃ k : Nat, k < 15 ∧ x1 = 0 + (k : Int) := ⟨(x1 - 0).toNat, by omega, by omega⟩
    match k, hk with
    | 0, _ =>
      refine ⟨_, 76, by rw [hx]; rfl, by decide, ?_⟩
      have h := h.1 (by rw [hx]; rfl)
      obtain ⟨o2, h⟩ := h
      refine ex_aload_n hΦ dX7_told_76 rfl o2.1 ?_
      refine ex_getf hΦ fl_X7_19 o2 dX7_told_77 ?_
      obtain ⟨o3, h⟩ := h
      refine ex_getf hΦ fl_X7_95 o3 dX7_told_80 ?_
      exact ex_returni hΦ hR dX7_told_83 h
    | 1, _ =>
      refine ⟨_, 84, by rw [hx]; rfl, by decide, ?_⟩
      have h := h.2.1 (by rw [hx]; rfl)
      obtain ⟨o4, h⟩ := h
      refine ex_aload_n hΦ dX7_told_84 rfl o4.1 ?_
      refine ex_getf hΦ fl_X7_19 o4 dX7_told_85 ?_
      obtain ⟨o5, h⟩ := h
      refine ex_getf hΦ fl_X7_101 o5 dX7_told_88 ?_
      exact ex_returni hΦ hR dX7_told_91 h
    | 2, _ =>
      refine ⟨_, 92, by rw [hx]; rfl, by decide, ?_⟩
      have h := h.2.2.1 (by rw [hx]; rfl)
      obtain ⟨o6, h⟩ := h
      refine ex_aload_n hΦ dX7_told_92 rfl o6.1 ?_
      refine ex_getf hΦ fl_X7_19 o6 dX7_told_93 ?_
      obtain ⟨o7, h⟩ := h
      refine ex_getf hΦ fl_X7_104 o7 dX7_told_96 ?_
      exact ex_returni hΦ hR dX7_told_99 h
    | 3, _ =>
      refine ⟨_, 100, by rw [hx]; rfl, by decide, ?_⟩
      have h := h.2.2.2.1 (by rw [hx]; rfl)
      obtain ⟨o8, h⟩ := h
      refine ex_aload_n hΦ dX7_told_100 rfl o8.1 ?_
      refine ex_getf hΦ fl_X7_10 o8 dX7_told_101 ?_
      obtain ⟨o9, h⟩ := h
      refine ex_getf hΦ fl_X7_107 o9 dX7_told_104 ?_
      exact ex_returni hΦ hR dX7_told_107 h
    | 4, _ =>
      refine ⟨_, 108, by rw [hx]; rfl, by decide, ?_⟩
      have h := h.2.2.2.2.1 (by rw [hx]; rfl)
      obtain ⟨o10, h⟩ := h
      refine ex_aload_n hΦ dX7_told_108 rfl o10.1 ?_
      refine ex_getf hΦ fl_X7_39 o10 dX7_told_109 ?_
      obtain ⟨o11, h⟩ := h
      refine ex_getf hΦ fl_X7_110 o11 dX7_told_112 ?_
      exact ex_returni hΦ hR dX7_told_115 h
    | 5, _ =>
      refine ⟨_, 116, by rw [hx]; rfl, by decide, ?_⟩
      have h := h.2.2.2.2.2.1 (by rw [hx]; rfl)
      obtain ⟨o12, h⟩ := h
      refine ex_aload_n hΦ dX7_told_116 rfl o12.1 ?_
      refine ex_getf hΦ fl_X7_39 o12 dX7_told_117 ?_
      obtain ⟨o13, h⟩ := h
      refine ex_getf hΦ fl_X7_113 o13 dX7_told_120 ?_
      exact ex_returni hΦ hR dX7_told_123 h
    | 6, _ =>
      refine ⟨_, 124, by rw [hx]; rfl, by decide, ?_⟩
      have h := h.2.2.2.2.2.2.1 (by rw [hx]; rfl)
      obtain ⟨o14, h⟩ := h
      refine ex_aload_n hΦ dX7_told_124 rfl o14.1 ?_
      refine ex_getf hΦ fl_X7_19 o14 dX7_told_125 ?_
      obtain ⟨o15, h⟩ := h
      refine ex_getf hΦ fl_X7_95 o15 dX7_told_128 ?_
      obtain ⟨o16, h⟩ := h
      refine ex_if_ne 138 hΦ dX7_told_131 (by decide) o16 (fun c => ?_) (fun c => ?_)
      · have h := h.1 c
        refine ex_aload_n hΦ dX7_told_138 rfl o14.1 ?_
        refine ex_getf hΦ fl_X7_19 o14 dX7_told_139 ?_
        refine ex_getf hΦ fl_X7_116 o15 dX7_told_142 ?_
        exact ex_returni hΦ hR dX7_told_145 h
      · have h := h.2 c
        refine ex_iconst hΦ dX7_told_134 ?_
        refine ex_goto 145 hΦ dX7_told_135 (by decide) ?_
        exact ex_returni hΦ hR dX7_told_145 h
    | 7, _ =>
      refine ⟨_, 146, by rw [hx]; rfl, by decide, ?_⟩
      have h := h.2.2.2.2.2.2.2.1 (by rw [hx]; rfl)
      obtain ⟨o17, h⟩ := h
      refine ex_aload_n hΦ dX7_told_146 rfl o17.1 ?_
      refine ex_getf hΦ fl_X7_19 o17 dX7_told_147 ?_
      obtain ⟨o18, h⟩ := h
      refine ex_getf hΦ fl_X7_119 o18 dX7_told_150 ?_
      exact ex_returni hΦ hR dX7_told_153 h
    | 8, _ =>
      refine ⟨_, 154, by rw [hx]; rfl, by decide, ?_⟩
      have h := h.2.2.2.2.2.2.2.2.1 (by rw [hx]; rfl)
      obtain ⟨o19, h⟩ := h
      refine ex_aload_n hΦ dX7_told_154 rfl o19.1 ?_
      refine ex_getf hΦ fl_X7_29 o19 dX7_told_155 ?_
      obtain ⟨o20, h⟩ := h
      refine ex_getf hΦ fl_X7_122 o20 dX7_told_158 ?_
      obtain ⟨o21, h⟩ := h
      refine ex_if_eq 168 hΦ dX7_told_161 (by decide) o21 (fun c => ?_) (fun c => ?_)
      · have h := h.1 c
        refine ex_iconst hΦ dX7_told_168 ?_
        exact ex_returni hΦ hR dX7_told_169 h
      · have h := h.2 c
        refine ex_iconst hΦ dX7_told_164 ?_
        refine ex_goto 169 hΦ dX7_told_165 (by decide) ?_
        exact ex_returni hΦ hR dX7_told_169 h
    | 9, _ =>
      refine ⟨_, 170, by rw [hx]; rfl, by decide, ?_⟩
      have h := h.2.2.2.2.2.2.2.2.2.1 (by rw [hx]; rfl)
      obtain ⟨o22, h⟩ := h
      refine ex_aload_n hΦ dX7_told_170 rfl o22.1 ?_
      refine ex_getf hΦ fl_X7_39 o22 dX7_told_171 ?_
      obtain ⟨o23, h⟩ := h
      refine ex_getf hΦ fl_X7_126 o23 dX7_told_174 ?_
      exact ex_returni hΦ hR dX7_told_177 h
    | 10, _ =>
      refine ⟨_, 178, by rw [hx]; rfl, by decide, ?_⟩
      have h := h.2.2.2.2.2.2.2.2.2.2.1 (by rw [hx]; rfl)
      obtain ⟨o24, h⟩ := h
      refine ex_aload_n hΦ dX7_told_178 rfl o24.1 ?_
      refine ex_getf hΦ fl_X7_29 o24 dX7_told_179 ?_
      obtain ⟨o25, h⟩ := h
      refine ex_getf hΦ fl_X7_129 o25 dX7_told_182 ?_
      exact ex_returni hΦ hR dX7_told_185 h
    | 11, _ =>
      refine ⟨_, 186, by rw [hx]; rfl, by decide, ?_⟩
      have h := h.2.2.2.2.2.2.2.2.2.2.2.1 (by rw [hx]; rfl)
      obtain ⟨o26, h⟩ := h
      refine ex_aload_n hΦ dX7_told_186 rfl o26.1 ?_
      refine ex_getf hΦ fl_X7_61 o26 dX7_told_187 ?_
      obtain ⟨o27, h⟩ := h
      refine ex_getf hΦ fl_X7_132 o27 dX7_told_190 ?_
      exact ex_returni hΦ hR dX7_told_193 h
    | 12, _ =>
      refine ⟨_, 194, by rw [hx]; rfl, by decide, ?_⟩
      have h := h.2.2.2.2.2.2.2.2.2.2.2.2.1 (by rw [hx]; rfl)
      obtain ⟨o28, h⟩ := h
      refine ex_aload_n hΦ dX7_told_194 rfl o28.1 ?_
      refine ex_getf hΦ fl_X7_65 o28 dX7_told_195 ?_
      obtain ⟨o29, h⟩ := h
      refine ex_getf hΦ fl_X7_132 o29 dX7_told_198 ?_
      exact ex_returni hΦ hR dX7_told_201 h
    | 13, _ =>
      refine ⟨_, 202, by rw [hx]; rfl, by decide, ?_⟩
      have h := h.2.2.2.2.2.2.2.2.2.2.2.2.2.1 (by rw [hx]; rfl)
      obtain ⟨o30, h⟩ := h
      refine ex_aload_n hΦ dX7_told_202 rfl o30.1 ?_
      refine ex_getf hΦ fl_X7_46 o30 dX7_told_203 ?_
      obtain ⟨o31, h⟩ := h
      refine ex_getf hΦ fl_X7_135 o31 dX7_told_206 ?_
      exact ex_returni hΦ hR dX7_told_209 h
    | 14, _ =>
      refine ⟨_, 210, by rw [hx]; rfl, by decide, ?_⟩
      have h := h.2.2.2.2.2.2.2.2.2.2.2.2.2.2 (by rw [hx]; rfl)
      obtain ⟨o32, h⟩ := h
      refine ex_aload_n hΦ dX7_told_210 rfl o32.1 ?_
      refine ex_callVi [] [(2, x0)] hΦ lkV_X7_138 ⟨by decide, by decide⟩ (Nat.le_of_ble_eq_true rfl) rfl (by decide) 7 (by decide) rfl o32 dX7_told_211 rfl h (fun r33 μ33 h => ?_)
      exact ex_returni hΦ hR dX7_told_214 h
theorem eX7_wheel {G : Gm} {S : List Sh} {μ : Mem} {Q : Int → Mem → Prop} {x0 x1 x2 : Int} (h : ∀ Φ : Fr, St G Φ cX7_wheel RX7 3 4 95 0 0 → Rt G Φ (Pi S Q) 0 0 (some .int) → Ex G Φ 3 0 [some (2, x0), some (0, x1), some (0, x2)] [] S μ 0 0) : Ci G mX7_wheel [(2, x0), (0, x1), (0, x2)] S μ Q :=
  call_of' (plainFor_of_name (by decide +kernel)) [some (2, x0), some (0, x1), some (0, x2)] rfl (Nat.le_of_ble_eq_true rfl) (fun Φ hΦ hR => h Φ hΦ hR)
theorem bX7_wheel_0 {G : Gm} {Φ : Fr} {S : List Sh} {μ : Mem} {Q : Int → Mem → Prop} (hΦ : St G Φ cX7_wheel RX7 3 4 95 0 0) (hR : Rt G Φ (Pi S Q) 0 0 (some .int)) {x0 x1 x2 : Int} (h : So S x0 (.inl 7) ∧ (Ci G mX7_hasWheel [(2, x0), (0, x1)] S μ (fun r2 μ2 => R32 r2 ∧ ((r2 ≠ 0 → R32 x2 ∧ (((x2 < 0 ∨ 3 < x2) → Q (-1000000002) μ2) ∧ (x2 = 0 → So S (μ2 x0 1) (.inl 6) ∧ (Ai S (μ2 (μ2 x0 1) 5) 0 x1 ∧ Q (μ2 (μ2 (μ2 x0 1) 5) x1) μ2)) ∧ (x2 = 1 → Ci G mX7_placeIn [(2, x0), (0, x1), (0, 0)] S μ2 (fun r7 μ7 => Q r7 μ7)) ∧ (x2 = 2 → So S (μ2 x0 3) (.inl 3) ∧ (Ai S (μ2 (μ2 x0 3) 0) 1 x1 ∧ Q (μ2 (μ2 (μ2 x0 3) 0) x1) μ2)) ∧ (x2 = 3 → So S (μ2 x0 3) (.inl 3) ∧ (Ai S (μ2 (μ2 x0 3) 1) 1 x1 ∧ Q (μ2 (μ2 (μ2 x0 3) 1) x1) μ2)))) ∧ (r2 = 0 → Q (-1000000001) μ2))))) : Ex G Φ 3 0 [some (2, x0), some (0, x1), some (0, x2)] [] S μ 0 0 := by
  obtain ⟨o1, h⟩ := h
  refine ex_aload_n hΦ dX7_wheel_0 rfl o1.1 ?_
  refine ex_iload_n hΦ dX7_wheel_1 rfl ?_
  refine ex_callVi [(0, x1)] [(0, x1), (2, x0)] hΦ lkV_X7_142 ⟨by decide, by decide⟩ (Nat.le_of_ble_eq_true rfl) rfl (by decide) 7 (by decide) rfl o1 dX7_wheel_2 rfl h (fun r2 μ2 h => ?_)
  obtain ⟨o3, h⟩ := h
  refine ex_if_ne 11 hΦ dX7_wheel_5 (by decide) o3 (fun c => ?_) (fun c => ?_)
  · have h := h.1 c
    refine ex_iload_n hΦ dX7_wheel_11 rfl ?_
    obtain ⟨o4, h⟩ := h
    refine ex_table hΦ dX7_wheel_12 o4 83 (by decide) (fun c => ?_) (fun c1 c2 => ?_)
    · have h := h.1 c
      refine ex_ldc hΦ dX7_wheel_83 qw380 ?_
      exact ex_returni hΦ hR dX7_wheel_85 h
    · have h := h.2
      obtain ⟨k, hk, hx⟩ : ∃ k : Nat, k < 4 ∧ x2 = 0 + (k : Int) := ⟨(x2 - 0).toNat, by omega, by omega⟩
      match k, hk with
      | 0, _ =>
        refine ⟨_, 44, by rw [hx]; rfl, by decide, ?_⟩
        have h := h.1 (by rw [hx]; rfl)
        refine ex_aload_n hΦ dX7_wheel_44 rfl o1.1 ?_
        refine ex_getf hΦ fl_X7_19 o1 dX7_wheel_45 ?_
        obtain ⟨o5, h⟩ := h
        refine ex_getf hΦ fl_X7_147 o5 dX7_wheel_48 ?_
        refine ex_iload_n hΦ dX7_wheel_51 rfl ?_
        obtain ⟨o6, h⟩ := h
        refine ex_iald' hΦ o6 dX7_wheel_52 ?_
        exact ex_returni hΦ hR dX7_wheel_53 h
      | 1, _ =>
        refine ⟨_, 54, by rw [hx]; rfl, by decide, ?_⟩
        have h := h.2.1 (by rw [hx]; rfl)
        refine ex_aload_n hΦ dX7_wheel_54 rfl o1.1 ?_
        refine ex_iload_n hΦ dX7_wheel_55 rfl ?_
        refine ex_iconst hΦ dX7_wheel_56 ?_
        refine ex_callVi [(0, x1), (0, 0)] [(0, 0), (0, x1), (2, x0)] hΦ lkV_X7_150 ⟨by decide, by decide⟩ (Nat.le_of_ble_eq_true rfl) rfl (by decide) 7 (by decide) rfl o1 dX7_wheel_57 rfl h (fun r7 μ7 h => ?_)
        exact ex_returni hΦ hR dX7_wheel_60 h
      | 2, _ =>
        refine ⟨_, 61, by rw [hx]; rfl, by decide, ?_⟩
        have h := h.2.2.1 (by rw [hx]; rfl)
        refine ex_aload_n hΦ dX7_wheel_61 rfl o1.1 ?_
        refine ex_getf hΦ fl_X7_29 o1 dX7_wheel_62 ?_
        obtain ⟨o8, h⟩ := h
        refine ex_getf hΦ fl_X7_154 o8 dX7_wheel_65 ?_
        refine ex_iload_n hΦ dX7_wheel_68 rfl ?_
        obtain ⟨o9, h⟩ := h
        refine ex_lald' hΦ o9 dX7_wheel_69 ?_
        refine ex_l2i hΦ dX7_wheel_70 ?_
        exact ex_returni hΦ hR dX7_wheel_71 h
      | 3, _ =>
        refine ⟨_, 72, by rw [hx]; rfl, by decide, ?_⟩
        have h := h.2.2.2 (by rw [hx]; rfl)
        refine ex_aload_n hΦ dX7_wheel_72 rfl o1.1 ?_
        refine ex_getf hΦ fl_X7_29 o1 dX7_wheel_73 ?_
        obtain ⟨o10, h⟩ := h
        refine ex_getf hΦ fl_X7_158 o10 dX7_wheel_76 ?_
        refine ex_iload_n hΦ dX7_wheel_79 rfl ?_
        obtain ⟨o11, h⟩ := h
        refine ex_lald' hΦ o11 dX7_wheel_80 ?_
        refine ex_l2i hΦ dX7_wheel_81 ?_
        exact ex_returni hΦ hR dX7_wheel_82 h
  · have h := h.2 c
    refine ex_ldc hΦ dX7_wheel_8 qw551 ?_
    exact ex_returni hΦ hR dX7_wheel_10 h
theorem eX7_link {G : Gm} {S : List Sh} {μ : Mem} {Q : Int → Mem → Prop} {x0 x1 x2 : Int} (h : ∀ Φ : Fr, St G Φ cX7_link RX7 3 1 21 0 0 → Rt G Φ (Pi S Q) 0 0 (some .int) → Ex G Φ 3 0 [some (2, x0), some (0, x1), some (0, x2)] [] S μ 0 0) : Ci G mX7_link [(2, x0), (0, x1), (0, x2)] S μ Q :=
  call_of' (plainFor_of_name (by decide +kernel)) [some (2, x0), some (0, x1), some (0, x2)] rfl (Nat.le_of_ble_eq_true rfl) (fun Φ hΦ hR => h Φ hΦ hR)
theorem bX7_link_0 {G : Gm} {Φ : Fr} {S : List Sh} {μ : Mem} {Q : Int → Mem → Prop} (hΦ : St G Φ cX7_link RX7 3 1 21 0 0) (hR : Rt G Φ (Pi S Q) 0 0 (some .int)) {x0 x1 x2 : Int} (h : So S x0 (.inl 7) ∧ (Ci G mX7_hasLink [(2, x0), (0, x1)] S μ (fun r2 μ2 => R32 r2 ∧ ((r2 ≠ 0 → R32 x2 ∧ (((x2 < 0 ∨ 4 < x2) → Q (-1000000002) μ2) ∧ (x2 = 0 → So S (μ2 x0 1) (.inl 6) ∧ (Ai S (μ2 (μ2 x0 1) 8) 0 x1 ∧ Q (μ2 (μ2 (μ2 x0 1) 8) x1) μ2)) ∧ (x2 = 1 → So S (μ2 x0 1) (.inl 6) ∧ (Ai S (μ2 (μ2 x0 1) 9) 0 x1 ∧ Q (μ2 (μ2 (μ2 x0 1) 9) x1) μ2)) ∧ (x2 = 2 → So S (μ2 x0 1) (.inl 6) ∧ (Ai S (μ2 (μ2 x0 1) 10) 0 x1 ∧ Q (μ2 (μ2 (μ2 x0 1) 10) x1) μ2)) ∧ (x2 = 3 → So S (μ2 x0 1) (.inl 6) ∧ (Ai S (μ2 (μ2 x0 1) 7) 0 x1 ∧ Q (μ2 (μ2 (μ2 x0 1) 7) x1) μ2)) ∧ (x2 = 4 → Ci G mX7_isOn [(2, x0), (0, x1)] S μ2 (fun r13 μ13 => R32 r13 ∧ ((r13 = 0 → Q 0 μ13) ∧ (¬ (r13 = 0) → Q 1 μ13)))))) ∧ (r2 = 0 → Q (-1000000001) μ2))))) : Ex G Φ 3 0 [some (2, x0), some (0, x1), some (0, x2)] [] S μ 0 0 := by
  obtain ⟨o1, h⟩ := h
  refine ex_aload_n hΦ dX7_link_0 rfl o1.1 ?_
  refine ex_iload_n hΦ dX7_link_1 rfl ?_
  refine ex_callVi [(0, x1)] [(0, x1), (2, x0)] hΦ lkV_X7_161 ⟨by decide, by decide⟩ (Nat.le_of_ble_eq_true rfl) rfl (by decide) 7 (by decide) rfl o1 dX7_link_2 rfl h (fun r2 μ2 h => ?_)
  obtain ⟨o3, h⟩ := h
  refine ex_if_ne 11 hΦ dX7_link_5 (by decide) o3 (fun c => ?_) (fun c => ?_)
  · have h := h.1 c
    refine ex_iload_n hΦ dX7_link_11 rfl ?_
    obtain ⟨o4, h⟩ := h
    refine ex_table hΦ dX7_link_12 o4 102 (by decide) (fun c => ?_) (fun c1 c2 => ?_)
    · have h := h.1 c
      refine ex_ldc hΦ dX7_link_102 qw380 ?_
      exact ex_returni hΦ hR dX7_link_104 h
    · have h := h.2
      obtain ⟨k, hk, hx⟩ : ∃ k : Nat, k < 5 ∧ x2 = 0 + (k : Int) := ⟨(x2 - 0).toNat, by omega, by omega⟩
      match k, hk with
      | 0, _ =>
        refine ⟨_, 48, by rw [hx]; rfl, by decide, ?_⟩
        have h := h.1 (by rw [hx]; rfl)
        refine ex_aload_n hΦ dX7_link_48 rfl o1.1 ?_
        refine ex_getf hΦ fl_X7_19 o1 dX7_link_49 ?_
        obtain ⟨o5, h⟩ := h
        refine ex_getf hΦ fl_X7_164 o5 dX7_link_52 ?_
        refine ex_iload_n hΦ dX7_link_55 rfl ?_
        obtain ⟨o6, h⟩ := h
        refine ex_iald' hΦ o6 dX7_link_56 ?_
        exact ex_returni hΦ hR dX7_link_57 h
      | 1, _ =>
        refine ⟨_, 58, by rw [hx]; rfl, by decide, ?_⟩
        have h := h.2.1 (by rw [hx]; rfl)
        refine ex_aload_n hΦ dX7_link_58 rfl o1.1 ?_
        refine ex_getf hΦ fl_X7_19 o1 dX7_link_59 ?_
        obtain ⟨o7, h⟩ := h
        refine ex_getf hΦ fl_X7_167 o7 dX7_link_62 ?_
        refine ex_iload_n hΦ dX7_link_65 rfl ?_
        obtain ⟨o8, h⟩ := h
        refine ex_iald' hΦ o8 dX7_link_66 ?_
        exact ex_returni hΦ hR dX7_link_67 h
      | 2, _ =>
        refine ⟨_, 68, by rw [hx]; rfl, by decide, ?_⟩
        have h := h.2.2.1 (by rw [hx]; rfl)
        refine ex_aload_n hΦ dX7_link_68 rfl o1.1 ?_
        refine ex_getf hΦ fl_X7_19 o1 dX7_link_69 ?_
        obtain ⟨o9, h⟩ := h
        refine ex_getf hΦ fl_X7_170 o9 dX7_link_72 ?_
        refine ex_iload_n hΦ dX7_link_75 rfl ?_
        obtain ⟨o10, h⟩ := h
        refine ex_iald' hΦ o10 dX7_link_76 ?_
        exact ex_returni hΦ hR dX7_link_77 h
      | 3, _ =>
        refine ⟨_, 78, by rw [hx]; rfl, by decide, ?_⟩
        have h := h.2.2.2.1 (by rw [hx]; rfl)
        refine ex_aload_n hΦ dX7_link_78 rfl o1.1 ?_
        refine ex_getf hΦ fl_X7_19 o1 dX7_link_79 ?_
        obtain ⟨o11, h⟩ := h
        refine ex_getf hΦ fl_X7_173 o11 dX7_link_82 ?_
        refine ex_iload_n hΦ dX7_link_85 rfl ?_
        obtain ⟨o12, h⟩ := h
        refine ex_iald' hΦ o12 dX7_link_86 ?_
        exact ex_returni hΦ hR dX7_link_87 h
      | 4, _ =>
        refine ⟨_, 88, by rw [hx]; rfl, by decide, ?_⟩
        have h := h.2.2.2.2 (by rw [hx]; rfl)
        refine ex_aload_n hΦ dX7_link_88 rfl o1.1 ?_
        refine ex_iload_n hΦ dX7_link_89 rfl ?_
        refine ex_callVi [(0, x1)] [(0, x1), (2, x0)] hΦ lkV_X7_176 ⟨by decide, by decide⟩ (Nat.le_of_ble_eq_true rfl) rfl (by decide) 7 (by decide) rfl o1 dX7_link_90 rfl h (fun r13 μ13 h => ?_)
        obtain ⟨o14, h⟩ := h
        refine ex_if_eq 100 hΦ dX7_link_93 (by decide) o14 (fun c => ?_) (fun c => ?_)
        · have h := h.1 c
          refine ex_iconst hΦ dX7_link_100 ?_
          exact ex_returni hΦ hR dX7_link_101 h
        · have h := h.2 c
          refine ex_iconst hΦ dX7_link_96 ?_
          refine ex_goto 101 hΦ dX7_link_97 (by decide) ?_
          exact ex_returni hΦ hR dX7_link_101 h
  · have h := h.2 c
    refine ex_ldc hΦ dX7_link_8 qw551 ?_
    exact ex_returni hΦ hR dX7_link_10 h
theorem eX7_feast {G : Gm} {S : List Sh} {μ : Mem} {Q : Int → Mem → Prop} {x0 x1 x2 : Int} (h : ∀ Φ : Fr, St G Φ cX7_feast RX7 3 1 21 0 0 → Rt G Φ (Pi S Q) 0 0 (some .int) → Ex G Φ 3 0 [some (2, x0), some (0, x1), some (0, x2)] [] S μ 0 0) : Ci G mX7_feast [(2, x0), (0, x1), (0, x2)] S μ Q :=
  call_of' (plainFor_of_name (by decide +kernel)) [some (2, x0), some (0, x1), some (0, x2)] rfl (Nat.le_of_ble_eq_true rfl) (fun Φ hΦ hR => h Φ hΦ hR)
theorem bX7_feast_0 {G : Gm} {Φ : Fr} {S : List Sh} {μ : Mem} {Q : Int → Mem → Prop} (hΦ : St G Φ cX7_feast RX7 3 1 21 0 0) (hR : Rt G Φ (Pi S Q) 0 0 (some .int)) {x0 x1 x2 : Int} (h : So S x0 (.inl 7) ∧ (Ci G mX7_hasFeast [(2, x0), (0, x1)] S μ (fun r2 μ2 => R32 r2 ∧ ((r2 ≠ 0 → R32 x2 ∧ ((x2 = 0 → So S (μ2 x0 1) (.inl 6) ∧ (Ai S (μ2 (μ2 x0 1) 11) 0 x1 ∧ Q (μ2 (μ2 (μ2 x0 1) 11) x1) μ2)) ∧ (x2 = 1 → So S (μ2 x0 1) (.inl 6) ∧ (Ai S (μ2 (μ2 x0 1) 12) 0 x1 ∧ Q (μ2 (μ2 (μ2 x0 1) 12) x1) μ2)) ∧ ((¬ (x2 = 0) ∧ ¬ (x2 = 1)) → Q (-1000000002) μ2))) ∧ (r2 = 0 → Q (-1000000001) μ2))))) : Ex G Φ 3 0 [some (2, x0), some (0, x1), some (0, x2)] [] S μ 0 0 := by
  obtain ⟨o1, h⟩ := h
  refine ex_aload_n hΦ dX7_feast_0 rfl o1.1 ?_
  refine ex_iload_n hΦ dX7_feast_1 rfl ?_
  refine ex_callVi [(0, x1)] [(0, x1), (2, x0)] hΦ lkV_X7_179 ⟨by decide, by decide⟩ (Nat.le_of_ble_eq_true rfl) rfl (by decide) 7 (by decide) rfl o1 dX7_feast_2 rfl h (fun r2 μ2 h => ?_)
  obtain ⟨o3, h⟩ := h
  refine ex_if_ne 11 hΦ dX7_feast_5 (by decide) o3 (fun c => ?_) (fun c => ?_)
  · have h := h.1 c
    refine ex_iload_n hΦ dX7_feast_11 rfl ?_
    obtain ⟨o4, h⟩ := h
    by_cases c0 : x2 = 0
    · have h := h.1 c0
      refine ex_lookup (tgt := 40) hΦ dX7_feast_12 (by decide) o4 (by rw [c0] <;> rfl) (by decide) ?_
      refine ex_aload_n hΦ dX7_feast_40 rfl o1.1 ?_
      refine ex_getf hΦ fl_X7_19 o1 dX7_feast_41 ?_
      obtain ⟨o5, h⟩ := h
      refine ex_getf hΦ fl_X7_182 o5 dX7_feast_44 ?_
      refine ex_iload_n hΦ dX7_feast_47 rfl ?_
      obtain ⟨o6, h⟩ := h
      refine ex_iald' hΦ o6 dX7_feast_48 ?_
      exact ex_returni hΦ hR dX7_feast_49 h
    · skip
      by_cases c1 : x2 = 1
      · have h := h.2.1 c1
        refine ex_lookup (tgt := 50) hΦ dX7_feast_12 (by decide) o4 (by rw [c1] <;> rfl) (by decide) ?_
        refine ex_aload_n hΦ dX7_feast_50 rfl o1.1 ?_
        refine ex_getf hΦ fl_X7_19 o1 dX7_feast_51 ?_
        obtain ⟨o7, h⟩ := h
        refine ex_getf hΦ fl_X7_185 o7 dX7_feast_54 ?_
        refine ex_iload_n hΦ dX7_feast_57 rfl ?_
        obtain ⟨o8, h⟩ := h
        refine ex_iald' hΦ o8 dX7_feast_58 ?_
        exact ex_returni hΦ hR dX7_feast_59 h
      · skip
        have h := h.2.2 ⟨c0, c1⟩
        refine ex_lookup (tgt := 60) hΦ dX7_feast_12 (by decide) o4 (lookup_else _ _ _ (by simp <;> omega)) (by decide) ?_
        refine ex_ldc hΦ dX7_feast_60 qw380 ?_
        exact ex_returni hΦ hR dX7_feast_62 h
  · have h := h.2 c
    refine ex_ldc hΦ dX7_feast_8 qw551 ?_
    exact ex_returni hΦ hR dX7_feast_10 h
theorem eX7_stands {G : Gm} {S : List Sh} {μ : Mem} {Q : Int → Mem → Prop} {x0 x1 x2 : Int} (h : ∀ Φ : Fr, St G Φ cX7_stands RX7 3 4 95 0 0 → Rt G Φ (Pi S Q) 0 0 (some .int) → Ex G Φ 3 0 [some (2, x0), some (0, x1), some (0, x2)] [] S μ 0 0) : Ci G mX7_stands [(2, x0), (0, x1), (0, x2)] S μ Q :=
  call_of' (plainFor_of_name (by decide +kernel)) [some (2, x0), some (0, x1), some (0, x2)] rfl (Nat.le_of_ble_eq_true rfl) (fun Φ hΦ hR => h Φ hΦ hR)
theorem bX7_stands_0 {G : Gm} {Φ : Fr} {S : List Sh} {μ : Mem} {Q : Int → Mem → Prop} (hΦ : St G Φ cX7_stands RX7 3 4 95 0 0) (hR : Rt G Φ (Pi S Q) 0 0 (some .int)) {x0 x1 x2 : Int} (h : So S x0 (.inl 7) ∧ (Ci G mX7_hasWheel [(2, x0), (0, x1)] S μ (fun r2 μ2 => R32 r2 ∧ ((r2 ≠ 0 → R32 x2 ∧ ((x2 < 0 → Q (-1000000002) μ2) ∧ (¬ (x2 < 0) → (x2 ≤ 99999 → Ci G mX7_placeIn [(2, x0), (0, x1), (0, x2)] S μ2 (fun r5 μ5 => Q r5 μ5)) ∧ (¬ (x2 ≤ 99999) → Q (-1000000002) μ2)))) ∧ (r2 = 0 → Q (-1000000001) μ2))))) : Ex G Φ 3 0 [some (2, x0), some (0, x1), some (0, x2)] [] S μ 0 0 := by
  obtain ⟨o1, h⟩ := h
  refine ex_aload_n hΦ dX7_stands_0 rfl o1.1 ?_
  refine ex_iload_n hΦ dX7_stands_1 rfl ?_
  refine ex_callVi [(0, x1)] [(0, x1), (2, x0)] hΦ lkV_X7_142 ⟨by decide, by decide⟩ (Nat.le_of_ble_eq_true rfl) rfl (by decide) 7 (by decide) rfl o1 dX7_stands_2 rfl h (fun r2 μ2 h => ?_)
  obtain ⟨o3, h⟩ := h
  refine ex_if_ne 11 hΦ dX7_stands_5 (by decide) o3 (fun c => ?_) (fun c => ?_)
  · have h := h.1 c
    refine ex_iload_n hΦ dX7_stands_11 rfl ?_
    obtain ⟨o4, h⟩ := h
    refine ex_if_lt 21 hΦ dX7_stands_12 (by decide) o4 (fun c => ?_) (fun c => ?_)
    · have h := h.1 c
      refine ex_ldc hΦ dX7_stands_21 qw380 ?_
      exact ex_returni hΦ hR dX7_stands_23 h
    · have h := h.2 c
      refine ex_iload_n hΦ dX7_stands_15 rfl ?_
      refine ex_ldc hΦ dX7_stands_16 qw576 ?_
      refine ex_icmp_le 24 hΦ dX7_stands_18 (by decide) o4 ⟨by decide, by decide⟩ (fun c => ?_) (fun c => ?_)
      · have h := h.1 c
        refine ex_aload_n hΦ dX7_stands_24 rfl o1.1 ?_
        refine ex_iload_n hΦ dX7_stands_25 rfl ?_
        refine ex_iload_n hΦ dX7_stands_26 rfl ?_
        refine ex_callVi [(0, x1), (0, x2)] [(0, x2), (0, x1), (2, x0)] hΦ lkV_X7_150 ⟨by decide, by decide⟩ (Nat.le_of_ble_eq_true rfl) rfl (by decide) 7 (by decide) rfl o1 dX7_stands_27 rfl h (fun r5 μ5 h => ?_)
        exact ex_returni hΦ hR dX7_stands_30 h
      · have h := h.2 c
        refine ex_ldc hΦ dX7_stands_21 qw380 ?_
        exact ex_returni hΦ hR dX7_stands_23 h
  · have h := h.2 c
    refine ex_ldc hΦ dX7_stands_8 qw551 ?_
    exact ex_returni hΦ hR dX7_stands_10 h
theorem eX7_days {G : Gm} {S : List Sh} {μ : Mem} {Q : Int → Mem → Prop} {x0 x1 : Int} (h : ∀ Φ : Fr, St G Φ cX7_days RX7 2 3 68 0 0 → Rt G Φ (Pi S Q) 0 0 (some .int) → Ex G Φ 2 0 [some (2, x0), some (0, x1)] [] S μ 0 0) : Ci G mX7_days [(2, x0), (0, x1)] S μ Q :=
  call_of' (plainFor_of_name (by decide +kernel)) [some (2, x0), some (0, x1)] rfl (Nat.le_of_ble_eq_true rfl) (fun Φ hΦ hR => h Φ hΦ hR)
theorem bX7_days_0 {G : Gm} {Φ : Fr} {S : List Sh} {μ : Mem} {Q : Int → Mem → Prop} (hΦ : St G Φ cX7_days RX7 2 3 68 0 0) (hR : Rt G Φ (Pi S Q) 0 0 (some .int)) {x0 x1 : Int} (h : R32 x1 ∧ ((x1 < 1 → Q (-1000000002) μ) ∧ (¬ (x1 < 1) → (x1 ≤ 9999 → So S x0 (.inl 7) ∧ (So S (μ x0 3) (.inl 3) ∧ (R32 (μ (μ x0 3) 5) ∧ (((μ (μ x0 3) 5) = 0 → So S (μ x0 5) (.inl 5) ∧ (R32 (μ (μ x0 5) 0) ∧ (((μ (μ x0 5) 0) ≤ 900000 → So S (μ x0 6) (.inl 0) ∧ (Cv G mX0_remember [(2, (μ x0 6)), (2, (μ x0 5))] S μ (fun μ8 => So S (μ8 x0 5) (.inl 5) ∧ (∀ m10 : Mem, m10 = mu μ8 (μ8 x0 5) 0 ((μ8 (μ8 x0 5) 0) + x1) → (So S (m10 x0 5) (.inl 5) ∧ Q (m10 (m10 x0 5) 0) m10))))) ∧ (¬ ((μ (μ x0 5) 0) ≤ 900000) → Q (-1000000004) μ)))) ∧ (¬ ((μ (μ x0 3) 5) = 0) → Q (-1000000003) μ))))) ∧ (¬ (x1 ≤ 9999) → Q (-1000000002) μ)))) : Ex G Φ 2 0 [some (2, x0), some (0, x1)] [] S μ 0 0 := by
  refine ex_iload_n hΦ dX7_days_0 rfl ?_
  refine ex_iconst hΦ dX7_days_1 ?_
  obtain ⟨o1, h⟩ := h
  refine ex_icmp_lt 12 hΦ dX7_days_2 (by decide) o1 ⟨by decide, by decide⟩ (fun c => ?_) (fun c => ?_)
  · have h := h.1 c
    refine ex_ldc hΦ dX7_days_12 qw380 ?_
    exact ex_returni hΦ hR dX7_days_14 h
  · have h := h.2 c
    refine ex_iload_n hΦ dX7_days_5 rfl ?_
    refine ex_sipush hΦ dX7_days_6 (by decide) ?_
    refine ex_icmp_le 15 hΦ dX7_days_9 (by decide) o1 ⟨by decide, by decide⟩ (fun c => ?_) (fun c => ?_)
    · have h := h.1 c
      obtain ⟨o2, h⟩ := h
      refine ex_aload_n hΦ dX7_days_15 rfl o2.1 ?_
      refine ex_getf hΦ fl_X7_29 o2 dX7_days_16 ?_
      obtain ⟨o3, h⟩ := h
      refine ex_getf hΦ fl_X7_122 o3 dX7_days_19 ?_
      obtain ⟨o4, h⟩ := h
      refine ex_if_eq 28 hΦ dX7_days_22 (by decide) o4 (fun c => ?_) (fun c => ?_)
      · have h := h.1 c
        refine ex_aload_n hΦ dX7_days_28 rfl o2.1 ?_
        refine ex_getf hΦ fl_X7_39 o2 dX7_days_29 ?_
        obtain ⟨o5, h⟩ := h
        refine ex_getf hΦ fl_X7_110 o5 dX7_days_32 ?_
        refine ex_ldc hΦ dX7_days_35 qw582 ?_
        obtain ⟨o6, h⟩ := h
        refine ex_icmp_le 43 hΦ dX7_days_37 (by decide) o6 ⟨by decide, by decide⟩ (fun c => ?_) (fun c => ?_)
        · have h := h.1 c
          refine ex_aload_n hΦ dX7_days_43 rfl o2.1 ?_
          refine ex_getf hΦ fl_X7_46 o2 dX7_days_44 ?_
          refine ex_aload_n hΦ dX7_days_47 rfl o2.1 ?_
          refine ex_getf hΦ fl_X7_39 o2 dX7_days_48 ?_
          obtain ⟨o7, h⟩ := h
          refine ex_callVv [(2, (μ x0 5))] [(2, (μ x0 5)), (2, (μ x0 6))] hΦ lkV_X7_192 ⟨by decide, by decide⟩ (Nat.le_of_ble_eq_true rfl) rfl (by decide) 0 (by decide) rfl o7 dX7_days_51 rfl h (fun μ8 h => ?_)
          refine ex_aload_n hΦ dX7_days_54 rfl o2.1 ?_
          refine ex_getf hΦ fl_X7_39 o2 dX7_days_55 ?_
          refine ex_dup hΦ dX7_days_58 (Nat.ne_of_beq_eq_false rfl) ?_
          obtain ⟨o9, h⟩ := h
          refine ex_getf hΦ fl_X7_110 o9 dX7_days_59 ?_
          refine ex_iload_n hΦ dX7_days_62 rfl ?_
          refine ex_iadd hΦ dX7_days_63 ?_
          obtain ⟨m10, hm10⟩ : ∃ m : Mem, m = mu μ8 (μ8 x0 5) 0 ((μ8 (μ8 x0 5) 0) + x1) := ⟨_, rfl⟩
          have h := h m10 hm10
          refine ex_putf' hΦ fl_X7_110 o9 rfl rfl dX7_days_64 hm10 ?_
          refine ex_aload_n hΦ dX7_days_67 rfl o2.1 ?_
          refine ex_getf hΦ fl_X7_39 o2 dX7_days_68 ?_
          obtain ⟨o11, h⟩ := h
          refine ex_getf hΦ fl_X7_110 o11 dX7_days_71 ?_
          exact ex_returni hΦ hR dX7_days_74 h
        · have h := h.2 c
          refine ex_ldc hΦ dX7_days_40 qw583 ?_
          exact ex_returni hΦ hR dX7_days_42 h
      · have h := h.2 c
        refine ex_ldc hΦ dX7_days_25 qw581 ?_
        exact ex_returni hΦ hR dX7_days_27 h
    · have h := h.2 c
      refine ex_ldc hΦ dX7_days_12 qw380 ?_
      exact ex_returni hΦ hR dX7_days_14 h
theorem eX7_cut {G : Gm} {S : List Sh} {μ : Mem} {Q : Int → Mem → Prop} {x0 x1 x2 : Int} (h : ∀ Φ : Fr, St G Φ cX7_cut RX7 4 6 155 0 0 → Rt G Φ (Pi S Q) 0 0 (some .int) → Ex G Φ 4 0 [some (2, x0), some (0, x1), some (0, x2), none] [] S μ 0 0) : Ci G mX7_cut [(2, x0), (0, x1), (0, x2)] S μ Q :=
  call_of' (plainFor_of_name (by decide +kernel)) [some (2, x0), some (0, x1), some (0, x2), none] rfl (Nat.le_of_ble_eq_true rfl) (fun Φ hΦ hR => h Φ hΦ hR)
theorem bX7_cut_0 {G : Gm} {Φ : Fr} {S : List Sh} {μ : Mem} {Q : Int → Mem → Prop} (hΦ : St G Φ cX7_cut RX7 4 6 155 0 0) (hR : Rt G Φ (Pi S Q) 0 0 (some .int)) {x0 x1 x2 : Int} (h : So S x0 (.inl 7) ∧ (Ci G mX7_hasLink [(2, x0), (0, x1)] S μ (fun r2 μ2 => R32 r2 ∧ ((r2 ≠ 0 → Ci G mX7_isOn [(2, x0), (0, x1)] S μ2 (fun r4 μ4 => R32 r4 ∧ (R32 x2 ∧ ((r4 ≠ x2 → (r4 = 0 → Q 0 μ4) ∧ (¬ (r4 = 0) → Q 1 μ4)) ∧ (r4 = x2 → So S (μ4 x0 6) (.inl 0) ∧ (Cv G mX0_remember [(2, (μ4 x0 6)), (2, (μ4 x0 5))] S μ4 (fun μ8 => Cv G mX7_setMark [(2, x0)] S μ8 (fun μ9 => So S (μ9 x0 5) (.inl 5) ∧ (0 ≤ x1 ∧ (x1 ≤ 31 ∧ (∀ m13 : Mem, m13 = mu μ9 (μ9 x0 5) 2 (mxor (μ9 (μ9 x0 5) 2) (1 * 2 ^ (Int.toNat x1))) → (Cv G mX7_reckonNow [(2, x0)] S m13 (fun μ14 => (r4 = 0 → Q 0 μ14) ∧ (¬ (r4 = 0) → Q 1 μ14)))))))))))))) ∧ (r2 = 0 → Q (-1000000001) μ2))))) : Ex G Φ 4 0 [some (2, x0), some (0, x1), some (0, x2), none] [] S μ 0 0 := by
  obtain ⟨o1, h⟩ := h
  refine ex_aload_n hΦ dX7_cut_0 rfl o1.1 ?_
  refine ex_iload_n hΦ dX7_cut_1 rfl ?_
  refine ex_callVi [(0, x1)] [(0, x1), (2, x0)] hΦ lkV_X7_161 ⟨by decide, by decide⟩ (Nat.le_of_ble_eq_true rfl) rfl (by decide) 7 (by decide) rfl o1 dX7_cut_2 rfl h (fun r2 μ2 h => ?_)
  obtain ⟨o3, h⟩ := h
  refine ex_if_ne 11 hΦ dX7_cut_5 (by decide) o3 (fun c => ?_) (fun c => ?_)
  · have h := h.1 c
    refine ex_aload_n hΦ dX7_cut_11 rfl o1.1 ?_
    refine ex_iload_n hΦ dX7_cut_12 rfl ?_
    refine ex_callVi [(0, x1)] [(0, x1), (2, x0)] hΦ lkV_X7_176 ⟨by decide, by decide⟩ (Nat.le_of_ble_eq_true rfl) rfl (by decide) 7 (by decide) rfl o1 dX7_cut_13 rfl h (fun r4 μ4 h => ?_)
    refine ex_istore_n (L' := [some (2, x0), some (0, x1), some (0, x2), some (0, r4)]) hΦ dX7_cut_16 (by decide) rfl ?_
    refine ex_iload_n hΦ dX7_cut_17 rfl ?_
    refine ex_iload_n hΦ dX7_cut_18 rfl ?_
    obtain ⟨o5, h⟩ := h
    obtain ⟨o6, h⟩ := h
    refine ex_icmp_ne 56 hΦ dX7_cut_19 (by decide) o5 o6 (fun c => ?_) (fun c => ?_)
    · have h := h.1 c
      refine ex_iload_n hΦ dX7_cut_56 rfl ?_
      refine ex_if_eq 64 hΦ dX7_cut_57 (by decide) o5 (fun c => ?_) (fun c => ?_)
      · have h := h.1 c
        refine ex_iconst hΦ dX7_cut_64 ?_
        exact ex_returni hΦ hR dX7_cut_65 h
      · have h := h.2 c
        refine ex_iconst hΦ dX7_cut_60 ?_
        refine ex_goto 65 hΦ dX7_cut_61 (by decide) ?_
        exact ex_returni hΦ hR dX7_cut_65 h
    · have h := h.2 c
      refine ex_aload_n hΦ dX7_cut_22 rfl o1.1 ?_
      refine ex_getf hΦ fl_X7_46 o1 dX7_cut_23 ?_
      refine ex_aload_n hΦ dX7_cut_26 rfl o1.1 ?_
      refine ex_getf hΦ fl_X7_39 o1 dX7_cut_27 ?_
      obtain ⟨o7, h⟩ := h
      refine ex_callVv [(2, (μ4 x0 5))] [(2, (μ4 x0 5)), (2, (μ4 x0 6))] hΦ lkV_X7_192 ⟨by decide, by decide⟩ (Nat.le_of_ble_eq_true rfl) rfl (by decide) 0 (by decide) rfl o7 dX7_cut_30 rfl h (fun μ8 h => ?_)
      refine ex_aload_n hΦ dX7_cut_33 rfl o1.1 ?_
      refine ex_callVv [] [(2, x0)] hΦ lkV_X7_196 ⟨by decide, by decide⟩ (Nat.le_of_ble_eq_true rfl) rfl (by decide) 7 (by decide) rfl o1 dX7_cut_34 rfl h (fun μ9 h => ?_)
      refine ex_aload_n hΦ dX7_cut_37 rfl o1.1 ?_
      refine ex_getf hΦ fl_X7_39 o1 dX7_cut_38 ?_
      refine ex_dup hΦ dX7_cut_41 (Nat.ne_of_beq_eq_false rfl) ?_
      obtain ⟨o10, h⟩ := h
      refine ex_getf hΦ fl_X7_126 o10 dX7_cut_42 ?_
      refine ex_iconst hΦ dX7_cut_45 ?_
      refine ex_iload_n hΦ dX7_cut_46 rfl ?_
      obtain ⟨o11, h⟩ := h
      obtain ⟨o12, h⟩ := h
      refine ex_ishl hΦ dX7_cut_47 o11 o12 ?_
      refine ex_ixor hΦ dX7_cut_48 ?_
      obtain ⟨m13, hm13⟩ : ∃ m : Mem, m = mu μ9 (μ9 x0 5) 2 (mxor (μ9 (μ9 x0 5) 2) (1 * 2 ^ (Int.toNat x1))) := ⟨_, rfl⟩
      have h := h m13 hm13
      refine ex_putf' hΦ fl_X7_126 o10 rfl rfl dX7_cut_49 hm13 ?_
      refine ex_aload_n hΦ dX7_cut_52 rfl o1.1 ?_
      refine ex_callVv [] [(2, x0)] hΦ lkV_X7_92 ⟨by decide, by decide⟩ (Nat.le_of_ble_eq_true rfl) rfl (by decide) 7 (by decide) rfl o1 dX7_cut_53 rfl h (fun μ14 h => ?_)
      refine ex_iload_n hΦ dX7_cut_56 rfl ?_
      refine ex_if_eq 64 hΦ dX7_cut_57 (by decide) o5 (fun c => ?_) (fun c => ?_)
      · have h := h.1 c
        refine ex_iconst hΦ dX7_cut_64 ?_
        exact ex_returni hΦ hR dX7_cut_65 h
      · have h := h.2 c
        refine ex_iconst hΦ dX7_cut_60 ?_
        refine ex_goto 65 hΦ dX7_cut_61 (by decide) ?_
        exact ex_returni hΦ hR dX7_cut_65 h
  · have h := h.2 c
    refine ex_ldc hΦ dX7_cut_8 qw551 ?_
    exact ex_returni hΦ hR dX7_cut_10 h
theorem eX7_slip {G : Gm} {S : List Sh} {μ : Mem} {Q : Int → Mem → Prop} {x0 x1 x2 : Int} (h : ∀ Φ : Fr, St G Φ cX7_slip RX7 3 6 138 0 0 → Rt G Φ (Pi S Q) 0 0 (some .int) → Ex G Φ 3 0 [some (2, x0), some (0, x1), some (0, x2)] [] S μ 0 0) : Ci G mX7_slip [(2, x0), (0, x1), (0, x2)] S μ Q :=
  call_of' (plainFor_of_name (by decide +kernel)) [some (2, x0), some (0, x1), some (0, x2)] rfl (Nat.le_of_ble_eq_true rfl) (fun Φ hΦ hR => h Φ hΦ hR)
theorem bX7_slip_0 {G : Gm} {Φ : Fr} {S : List Sh} {μ : Mem} {Q : Int → Mem → Prop} (hΦ : St G Φ cX7_slip RX7 3 6 138 0 0) (hR : Rt G Φ (Pi S Q) 0 0 (some .int)) {x0 x1 x2 : Int} (h : So S x0 (.inl 7) ∧ (Ci G mX7_hasWheel [(2, x0), (0, x1)] S μ (fun r2 μ2 => R32 r2 ∧ ((r2 ≠ 0 → R32 x2 ∧ ((x2 < (-99) → Q (-1000000002) μ2) ∧ (¬ (x2 < (-99)) → (x2 ≤ 99 → So S (μ2 x0 6) (.inl 0) ∧ (Cv G mX0_remember [(2, (μ2 x0 6)), (2, (μ2 x0 5))] S μ2 (fun μ6 => Cv G mX7_push [(2, x0), (0, x1), (0, x2)] S μ6 (fun μ7 => So S (μ7 x0 5) (.inl 5) ∧ (Ai S (μ7 (μ7 x0 5) 3) 0 x1 ∧ Q (μ7 (μ7 (μ7 x0 5) 3) x1) μ7))))) ∧ (¬ (x2 ≤ 99) → Q (-1000000002) μ2)))) ∧ (r2 = 0 → Q (-1000000001) μ2))))) : Ex G Φ 3 0 [some (2, x0), some (0, x1), some (0, x2)] [] S μ 0 0 := by
  obtain ⟨o1, h⟩ := h
  refine ex_aload_n hΦ dX7_slip_0 rfl o1.1 ?_
  refine ex_iload_n hΦ dX7_slip_1 rfl ?_
  refine ex_callVi [(0, x1)] [(0, x1), (2, x0)] hΦ lkV_X7_142 ⟨by decide, by decide⟩ (Nat.le_of_ble_eq_true rfl) rfl (by decide) 7 (by decide) rfl o1 dX7_slip_2 rfl h (fun r2 μ2 h => ?_)
  obtain ⟨o3, h⟩ := h
  refine ex_if_ne 11 hΦ dX7_slip_5 (by decide) o3 (fun c => ?_) (fun c => ?_)
  · have h := h.1 c
    refine ex_iload_n hΦ dX7_slip_11 rfl ?_
    refine ex_bipush hΦ dX7_slip_12 (by decide) ?_
    obtain ⟨o4, h⟩ := h
    refine ex_icmp_lt 23 hΦ dX7_slip_14 (by decide) o4 ⟨by decide, by decide⟩ (fun c => ?_) (fun c => ?_)
    · have h := h.1 c
      refine ex_ldc hΦ dX7_slip_23 qw380 ?_
      exact ex_returni hΦ hR dX7_slip_25 h
    · have h := h.2 c
      refine ex_iload_n hΦ dX7_slip_17 rfl ?_
      refine ex_bipush hΦ dX7_slip_18 (by decide) ?_
      refine ex_icmp_le 26 hΦ dX7_slip_20 (by decide) o4 ⟨by decide, by decide⟩ (fun c => ?_) (fun c => ?_)
      · have h := h.1 c
        refine ex_aload_n hΦ dX7_slip_26 rfl o1.1 ?_
        refine ex_getf hΦ fl_X7_46 o1 dX7_slip_27 ?_
        refine ex_aload_n hΦ dX7_slip_30 rfl o1.1 ?_
        refine ex_getf hΦ fl_X7_39 o1 dX7_slip_31 ?_
        obtain ⟨o5, h⟩ := h
        refine ex_callVv [(2, (μ2 x0 5))] [(2, (μ2 x0 5)), (2, (μ2 x0 6))] hΦ lkV_X7_192 ⟨by decide, by decide⟩ (Nat.le_of_ble_eq_true rfl) rfl (by decide) 0 (by decide) rfl o5 dX7_slip_34 rfl h (fun μ6 h => ?_)
        refine ex_aload_n hΦ dX7_slip_37 rfl o1.1 ?_
        refine ex_iload_n hΦ dX7_slip_38 rfl ?_
        refine ex_iload_n hΦ dX7_slip_39 rfl ?_
        refine ex_callVv [(0, x1), (0, x2)] [(0, x2), (0, x1), (2, x0)] hΦ lkV_X7_199 ⟨by decide, by decide⟩ (Nat.le_of_ble_eq_true rfl) rfl (by decide) 7 (by decide) rfl o1 dX7_slip_40 rfl h (fun μ7 h => ?_)
        refine ex_aload_n hΦ dX7_slip_43 rfl o1.1 ?_
        refine ex_getf hΦ fl_X7_39 o1 dX7_slip_44 ?_
        obtain ⟨o8, h⟩ := h
        refine ex_getf hΦ fl_X7_203 o8 dX7_slip_47 ?_
        refine ex_iload_n hΦ dX7_slip_50 rfl ?_
        obtain ⟨o9, h⟩ := h
        refine ex_iald' hΦ o9 dX7_slip_51 ?_
        exact ex_returni hΦ hR dX7_slip_52 h
      · have h := h.2 c
        refine ex_ldc hΦ dX7_slip_23 qw380 ?_
        exact ex_returni hΦ hR dX7_slip_25 h
  · have h := h.2 c
    refine ex_ldc hΦ dX7_slip_8 qw551 ?_
    exact ex_returni hΦ hR dX7_slip_10 h
theorem bX7_drift_65 {G : Gm} {Φ : Fr} {S : List Sh} {μ : Mem} {Q : Int → Mem → Prop} (hΦ : St G Φ cX7_drift RX7 3 6 138 0 0) (hR : Rt G Φ (Pi S Q) 0 0 (some .int)) {x0 x1 x2 : Int} (h : R32 x2 ∧ (R32 x1 ∧ ((x1 ≤ x2 → So S x0 (.inl 7) ∧ (So S (μ x0 5) (.inl 5) ∧ Q (μ (μ x0 5) 0) μ)) ∧ (¬ (x1 ≤ x2) → So S x0 (.inl 7) ∧ (Ci G mX7_draw [(2, x0), (0, 8)] S μ (fun r6 μ6 => R32 r6 ∧ ((r6 ≠ 0 → So S (μ6 x0 5) (.inl 5) ∧ (∀ m9 : Mem, m9 = mu μ6 (μ6 x0 5) 0 ((μ6 (μ6 x0 5) 0) + 1) → (Ex G Φ 3 65 [some (2, x0), some (0, x1), some (0, (x2 + 1))] [] S m9 0 0))) ∧ (r6 = 0 → So S (μ6 x0 1) (.inl 6) ∧ (Ci G mX7_draw [(2, x0), (0, (μ6 (μ6 x0 1) 0))] S μ6 (fun r11 μ11 => Cv G mX7_push [(2, x0), (0, r11), (0, 1)] S μ11 (fun μ12 => So S (μ12 x0 5) (.inl 5) ∧ (∀ m14 : Mem, m14 = mu μ12 (μ12 x0 5) 0 ((μ12 (μ12 x0 5) 0) + 1) → (Ex G Φ 3 65 [some (2, x0), some (0, x1), some (0, (x2 + 1))] [] S m14 0 0))))))))))))) : Ex G Φ 3 65 [some (2, x0), some (0, x1), some (0, x2)] [] S μ 0 0 := by
  refine ex_iload_n hΦ dX7_drift_65 rfl ?_
  refine ex_iload_n hΦ dX7_drift_66 rfl ?_
  obtain ⟨o1, h⟩ := h
  obtain ⟨o2, h⟩ := h
  refine ex_icmp_ge 114 hΦ dX7_drift_67 (by decide) o1 o2 (fun c => ?_) (fun c => ?_)
  · have h := h.1 c
    obtain ⟨o3, h⟩ := h
    refine ex_aload_n hΦ dX7_drift_114 rfl o3.1 ?_
    refine ex_getf hΦ fl_X7_39 o3 dX7_drift_115 ?_
    obtain ⟨o4, h⟩ := h
    refine ex_getf hΦ fl_X7_110 o4 dX7_drift_118 ?_
    exact ex_returni hΦ hR dX7_drift_121 h
  · have h := h.2 c
    obtain ⟨o5, h⟩ := h
    refine ex_aload_n hΦ dX7_drift_70 rfl o5.1 ?_
    refine ex_bipush hΦ dX7_drift_71 (by decide) ?_
    refine ex_callVi [(0, 8)] [(0, 8), (2, x0)] hΦ lkV_X7_206 ⟨by decide, by decide⟩ (Nat.le_of_ble_eq_true rfl) rfl (by decide) 7 (by decide) rfl o5 dX7_drift_73 rfl h (fun r6 μ6 h => ?_)
    obtain ⟨o7, h⟩ := h
    refine ex_if_ne 95 hΦ dX7_drift_76 (by decide) o7 (fun c => ?_) (fun c => ?_)
    · have h := h.1 c
      refine ex_aload_n hΦ dX7_drift_95 rfl o5.1 ?_
      refine ex_getf hΦ fl_X7_39 o5 dX7_drift_96 ?_
      refine ex_dup hΦ dX7_drift_99 (Nat.ne_of_beq_eq_false rfl) ?_
      obtain ⟨o8, h⟩ := h
      refine ex_getf hΦ fl_X7_110 o8 dX7_drift_100 ?_
      refine ex_iconst hΦ dX7_drift_103 ?_
      refine ex_iadd hΦ dX7_drift_104 ?_
      obtain ⟨m9, hm9⟩ : ∃ m : Mem, m = mu μ6 (μ6 x0 5) 0 ((μ6 (μ6 x0 5) 0) + 1) := ⟨_, rfl⟩
      have h := h m9 hm9
      refine ex_putf' hΦ fl_X7_110 o8 rfl rfl dX7_drift_105 hm9 ?_
      refine ex_iinc (L' := [some (2, x0), some (0, x1), some (0, (x2 + 1))]) hΦ dX7_drift_108 rfl (by decide) rfl ?_
      refine ex_goto 65 hΦ dX7_drift_111 (by decide) ?_
      exact h
    · have h := h.2 c
      refine ex_aload_n hΦ dX7_drift_79 rfl o5.1 ?_
      refine ex_aload_n hΦ dX7_drift_80 rfl o5.1 ?_
      refine ex_aload_n hΦ dX7_drift_81 rfl o5.1 ?_
      refine ex_getf hΦ fl_X7_19 o5 dX7_drift_82 ?_
      obtain ⟨o10, h⟩ := h
      refine ex_getf hΦ fl_X7_95 o10 dX7_drift_85 ?_
      refine ex_callVi [(0, (μ6 (μ6 x0 1) 0))] [(0, (μ6 (μ6 x0 1) 0)), (2, x0), (2, x0)] hΦ lkV_X7_206 ⟨by decide, by decide⟩ (Nat.le_of_ble_eq_true rfl) rfl (by decide) 7 (by decide) rfl o5 dX7_drift_88 rfl h (fun r11 μ11 h => ?_)
      refine ex_iconst hΦ dX7_drift_91 ?_
      refine ex_callVv [(0, r11), (0, 1)] [(0, 1), (0, r11), (2, x0)] hΦ lkV_X7_199 ⟨by decide, by decide⟩ (Nat.le_of_ble_eq_true rfl) rfl (by decide) 7 (by decide) rfl o5 dX7_drift_92 rfl h (fun μ12 h => ?_)
      refine ex_aload_n hΦ dX7_drift_95 rfl o5.1 ?_
      refine ex_getf hΦ fl_X7_39 o5 dX7_drift_96 ?_
      refine ex_dup hΦ dX7_drift_99 (Nat.ne_of_beq_eq_false rfl) ?_
      obtain ⟨o13, h⟩ := h
      refine ex_getf hΦ fl_X7_110 o13 dX7_drift_100 ?_
      refine ex_iconst hΦ dX7_drift_103 ?_
      refine ex_iadd hΦ dX7_drift_104 ?_
      obtain ⟨m14, hm14⟩ : ∃ m : Mem, m = mu μ12 (μ12 x0 5) 0 ((μ12 (μ12 x0 5) 0) + 1) := ⟨_, rfl⟩
      have h := h m14 hm14
      refine ex_putf' hΦ fl_X7_110 o13 rfl rfl dX7_drift_105 hm14 ?_
      refine ex_iinc (L' := [some (2, x0), some (0, x1), some (0, (x2 + 1))]) hΦ dX7_drift_108 rfl (by decide) rfl ?_
      refine ex_goto 65 hΦ dX7_drift_111 (by decide) ?_
      exact h
theorem eX7_drift {G : Gm} {S : List Sh} {μ : Mem} {Q : Int → Mem → Prop} {x0 x1 : Int} (h : ∀ Φ : Fr, St G Φ cX7_drift RX7 3 6 138 0 0 → Rt G Φ (Pi S Q) 0 0 (some .int) → Ex G Φ 3 0 [some (2, x0), some (0, x1), none] [] S μ 0 0) : Ci G mX7_drift [(2, x0), (0, x1)] S μ Q :=
  call_of' (plainFor_of_name (by decide +kernel)) [some (2, x0), some (0, x1), none] rfl (Nat.le_of_ble_eq_true rfl) (fun Φ hΦ hR => h Φ hΦ hR)
theorem bX7_drift_0 {G : Gm} {Φ : Fr} {S : List Sh} {μ : Mem} {Q : Int → Mem → Prop} (hΦ : St G Φ cX7_drift RX7 3 6 138 0 0) (hR : Rt G Φ (Pi S Q) 0 0 (some .int)) {x0 x1 : Int} (h : R32 x1 ∧ ((x1 < 1 → Q (-1000000002) μ) ∧ (¬ (x1 < 1) → (x1 ≤ 99 → So S x0 (.inl 7) ∧ (So S (μ x0 3) (.inl 3) ∧ (R32 (μ (μ x0 3) 5) ∧ (((μ (μ x0 3) 5) ≠ 0 → Q (-1000000003) μ) ∧ ((μ (μ x0 3) 5) = 0 → So S (μ x0 1) (.inl 6) ∧ (R32 (μ (μ x0 1) 0) ∧ (((μ (μ x0 1) 0) ≠ 0 → So S (μ x0 5) (.inl 5) ∧ (R32 (μ (μ x0 5) 0) ∧ (((μ (μ x0 5) 0) ≤ 900000 → So S (μ x0 6) (.inl 0) ∧ Cv G mX0_remember [(2, (μ x0 6)), (2, (μ x0 5))] S μ (fun μ10 => Ex G Φ 3 65 [some (2, x0), some (0, x1), some (0, 0)] [] S μ10 0 0)) ∧ (¬ ((μ (μ x0 5) 0) ≤ 900000) → Q (-1000000004) μ)))) ∧ ((μ (μ x0 1) 0) = 0 → Q (-1000000003) μ)))))))) ∧ (¬ (x1 ≤ 99) → Q (-1000000002) μ)))) : Ex G Φ 3 0 [some (2, x0), some (0, x1), none] [] S μ 0 0 := by
  refine ex_iload_n hΦ dX7_drift_0 rfl ?_
  refine ex_iconst hΦ dX7_drift_1 ?_
  obtain ⟨o1, h⟩ := h
  refine ex_icmp_lt 11 hΦ dX7_drift_2 (by decide) o1 ⟨by decide, by decide⟩ (fun c => ?_) (fun c => ?_)
  · have h := h.1 c
    refine ex_ldc hΦ dX7_drift_11 qw380 ?_
    exact ex_returni hΦ hR dX7_drift_13 h
  · have h := h.2 c
    refine ex_iload_n hΦ dX7_drift_5 rfl ?_
    refine ex_bipush hΦ dX7_drift_6 (by decide) ?_
    refine ex_icmp_le 14 hΦ dX7_drift_8 (by decide) o1 ⟨by decide, by decide⟩ (fun c => ?_) (fun c => ?_)
    · have h := h.1 c
      obtain ⟨o2, h⟩ := h
      refine ex_aload_n hΦ dX7_drift_14 rfl o2.1 ?_
      refine ex_getf hΦ fl_X7_29 o2 dX7_drift_15 ?_
      obtain ⟨o3, h⟩ := h
      refine ex_getf hΦ fl_X7_122 o3 dX7_drift_18 ?_
      obtain ⟨o4, h⟩ := h
      refine ex_if_ne 34 hΦ dX7_drift_21 (by decide) o4 (fun c => ?_) (fun c => ?_)
      · have h := h.1 c
        refine ex_ldc hΦ dX7_drift_34 qw581 ?_
        exact ex_returni hΦ hR dX7_drift_36 h
      · have h := h.2 c
        refine ex_aload_n hΦ dX7_drift_24 rfl o2.1 ?_
        refine ex_getf hΦ fl_X7_19 o2 dX7_drift_25 ?_
        obtain ⟨o5, h⟩ := h
        refine ex_getf hΦ fl_X7_95 o5 dX7_drift_28 ?_
        obtain ⟨o6, h⟩ := h
        refine ex_if_ne 37 hΦ dX7_drift_31 (by decide) o6 (fun c => ?_) (fun c => ?_)
        · have h := h.1 c
          refine ex_aload_n hΦ dX7_drift_37 rfl o2.1 ?_
          refine ex_getf hΦ fl_X7_39 o2 dX7_drift_38 ?_
          obtain ⟨o7, h⟩ := h
          refine ex_getf hΦ fl_X7_110 o7 dX7_drift_41 ?_
          refine ex_ldc hΦ dX7_drift_44 qw582 ?_
          obtain ⟨o8, h⟩ := h
          refine ex_icmp_le 52 hΦ dX7_drift_46 (by decide) o8 ⟨by decide, by decide⟩ (fun c => ?_) (fun c => ?_)
          · have h := h.1 c
            refine ex_aload_n hΦ dX7_drift_52 rfl o2.1 ?_
            refine ex_getf hΦ fl_X7_46 o2 dX7_drift_53 ?_
            refine ex_aload_n hΦ dX7_drift_56 rfl o2.1 ?_
            refine ex_getf hΦ fl_X7_39 o2 dX7_drift_57 ?_
            obtain ⟨o9, h⟩ := h
            refine ex_callVv [(2, (μ x0 5))] [(2, (μ x0 5)), (2, (μ x0 6))] hΦ lkV_X7_192 ⟨by decide, by decide⟩ (Nat.le_of_ble_eq_true rfl) rfl (by decide) 0 (by decide) rfl o9 dX7_drift_60 rfl h (fun μ10 h => ?_)
            refine ex_iconst hΦ dX7_drift_63 ?_
            refine ex_istore_n (L' := [some (2, x0), some (0, x1), some (0, 0)]) hΦ dX7_drift_64 (by decide) rfl ?_
            exact h
          · have h := h.2 c
            refine ex_ldc hΦ dX7_drift_49 qw583 ?_
            exact ex_returni hΦ hR dX7_drift_51 h
        · have h := h.2 c
          refine ex_ldc hΦ dX7_drift_34 qw581 ?_
          exact ex_returni hΦ hR dX7_drift_36 h
    · have h := h.2 c
      refine ex_ldc hΦ dX7_drift_11 qw380 ?_
      exact ex_returni hΦ hR dX7_drift_13 h
theorem eX7_undo {G : Gm} {S : List Sh} {μ : Mem} {Q : Int → Mem → Prop} {x0 x1 : Int} (h : ∀ Φ : Fr, St G Φ cX7_undo RX7 2 6 155 0 0 → Rt G Φ (Pi S Q) 0 0 (some .int) → Ex G Φ 2 0 [some (2, x0), some (0, x1)] [] S μ 0 0) : Ci G mX7_undo [(2, x0), (0, x1)] S μ Q :=
  call_of' (plainFor_of_name (by decide +kernel)) [some (2, x0), some (0, x1)] rfl (Nat.le_of_ble_eq_true rfl) (fun Φ hΦ hR => h Φ hΦ hR)
theorem bX7_undo_0 {G : Gm} {Φ : Fr} {S : List Sh} {μ : Mem} {Q : Int → Mem → Prop} (hΦ : St G Φ cX7_undo RX7 2 6 155 0 0) (hR : Rt G Φ (Pi S Q) 0 0 (some .int)) {x0 x1 : Int} (h : R32 x1 ∧ ((x1 < 1 → Q (-1000000002) μ) ∧ (¬ (x1 < 1) → (x1 ≤ 30 → So S x0 (.inl 7) ∧ (So S (μ x0 6) (.inl 0) ∧ (R32 (μ (μ x0 6) 2) ∧ ((x1 ≤ (μ (μ x0 6) 2) → Cv G mX0_takeBack [(2, (μ x0 6)), (0, x1), (2, (μ x0 5))] S μ (fun μ5 => Cv G mX7_reckonNow [(2, x0)] S μ5 (fun μ6 => So S (μ6 x0 5) (.inl 5) ∧ Q (μ6 (μ6 x0 5) 0) μ6))) ∧ (¬ (x1 ≤ (μ (μ x0 6) 2)) → Q (-1000000003) μ))))) ∧ (¬ (x1 ≤ 30) → Q (-1000000002) μ)))) : Ex G Φ 2 0 [some (2, x0), some (0, x1)] [] S μ 0 0 := by
  refine ex_iload_n hΦ dX7_undo_0 rfl ?_
  refine ex_iconst hΦ dX7_undo_1 ?_
  obtain ⟨o1, h⟩ := h
  refine ex_icmp_lt 11 hΦ dX7_undo_2 (by decide) o1 ⟨by decide, by decide⟩ (fun c => ?_) (fun c => ?_)
  · have h := h.1 c
    refine ex_ldc hΦ dX7_undo_11 qw380 ?_
    exact ex_returni hΦ hR dX7_undo_13 h
  · have h := h.2 c
    refine ex_iload_n hΦ dX7_undo_5 rfl ?_
    refine ex_bipush hΦ dX7_undo_6 (by decide) ?_
    refine ex_icmp_le 14 hΦ dX7_undo_8 (by decide) o1 ⟨by decide, by decide⟩ (fun c => ?_) (fun c => ?_)
    · have h := h.1 c
      refine ex_iload_n hΦ dX7_undo_14 rfl ?_
      obtain ⟨o2, h⟩ := h
      refine ex_aload_n hΦ dX7_undo_15 rfl o2.1 ?_
      refine ex_getf hΦ fl_X7_46 o2 dX7_undo_16 ?_
      obtain ⟨o3, h⟩ := h
      refine ex_getf hΦ fl_X7_135 o3 dX7_undo_19 ?_
      obtain ⟨o4, h⟩ := h
      refine ex_icmp_le 28 hΦ dX7_undo_22 (by decide) o1 o4 (fun c => ?_) (fun c => ?_)
      · have h := h.1 c
        refine ex_aload_n hΦ dX7_undo_28 rfl o2.1 ?_
        refine ex_getf hΦ fl_X7_46 o2 dX7_undo_29 ?_
        refine ex_iload_n hΦ dX7_undo_32 rfl ?_
        refine ex_aload_n hΦ dX7_undo_33 rfl o2.1 ?_
        refine ex_getf hΦ fl_X7_39 o2 dX7_undo_34 ?_
        refine ex_callVv [(0, x1), (2, (μ x0 5))] [(2, (μ x0 5)), (0, x1), (2, (μ x0 6))] hΦ lkV_X7_210 ⟨by decide, by decide⟩ (Nat.le_of_ble_eq_true rfl) rfl (by decide) 0 (by decide) rfl o3 dX7_undo_37 rfl h (fun μ5 h => ?_)
        refine ex_aload_n hΦ dX7_undo_40 rfl o2.1 ?_
        refine ex_callVv [] [(2, x0)] hΦ lkV_X7_92 ⟨by decide, by decide⟩ (Nat.le_of_ble_eq_true rfl) rfl (by decide) 7 (by decide) rfl o2 dX7_undo_41 rfl h (fun μ6 h => ?_)
        refine ex_aload_n hΦ dX7_undo_44 rfl o2.1 ?_
        refine ex_getf hΦ fl_X7_39 o2 dX7_undo_45 ?_
        obtain ⟨o7, h⟩ := h
        refine ex_getf hΦ fl_X7_110 o7 dX7_undo_48 ?_
        exact ex_returni hΦ hR dX7_undo_51 h
      · have h := h.2 c
        refine ex_ldc hΦ dX7_undo_25 qw581 ?_
        exact ex_returni hΦ hR dX7_undo_27 h
    · have h := h.2 c
      refine ex_ldc hΦ dX7_undo_11 qw380 ?_
      exact ex_returni hΦ hR dX7_undo_13 h
theorem eX7_next {G : Gm} {S : List Sh} {μ : Mem} {Q : Int → Mem → Prop} {x0 x1 : Int} (h : ∀ Φ : Fr, St G Φ cX7_next RX7 2 6 155 0 0 → Rt G Φ (Pi S Q) 0 0 (some .int) → Ex G Φ 2 0 [some (2, x0), some (0, x1)] [] S μ 0 0) : Ci G mX7_next [(2, x0), (0, x1)] S μ Q :=
  call_of' (plainFor_of_name (by decide +kernel)) [some (2, x0), some (0, x1)] rfl (Nat.le_of_ble_eq_true rfl) (fun Φ hΦ hR => h Φ hΦ hR)
theorem bX7_next_0 {G : Gm} {Φ : Fr} {S : List Sh} {μ : Mem} {Q : Int → Mem → Prop} (hΦ : St G Φ cX7_next RX7 2 6 155 0 0) (hR : Rt G Φ (Pi S Q) 0 0 (some .int)) {x0 x1 : Int} (h : So S x0 (.inl 7) ∧ (Ci G mX7_hasFeast [(2, x0), (0, x1)] S μ (fun r2 μ2 => R32 r2 ∧ ((r2 ≠ 0 → 0 ≤ x1 ∧ (x1 ≤ 31 ∧ Ci G mX7_dayOfAll [(2, x0), (0, (1 * 2 ^ (Int.toNat x1))), (0, 9999)] S μ2 (fun r6 μ6 => Q r6 μ6))) ∧ (r2 = 0 → Q (-1000000001) μ2))))) : Ex G Φ 2 0 [some (2, x0), some (0, x1)] [] S μ 0 0 := by
  obtain ⟨o1, h⟩ := h
  refine ex_aload_n hΦ dX7_next_0 rfl o1.1 ?_
  refine ex_iload_n hΦ dX7_next_1 rfl ?_
  refine ex_callVi [(0, x1)] [(0, x1), (2, x0)] hΦ lkV_X7_179 ⟨by decide, by decide⟩ (Nat.le_of_ble_eq_true rfl) rfl (by decide) 7 (by decide) rfl o1 dX7_next_2 rfl h (fun r2 μ2 h => ?_)
  obtain ⟨o3, h⟩ := h
  refine ex_if_ne 11 hΦ dX7_next_5 (by decide) o3 (fun c => ?_) (fun c => ?_)
  · have h := h.1 c
    refine ex_aload_n hΦ dX7_next_11 rfl o1.1 ?_
    refine ex_iconst hΦ dX7_next_12 ?_
    refine ex_iload_n hΦ dX7_next_13 rfl ?_
    obtain ⟨o4, h⟩ := h
    obtain ⟨o5, h⟩ := h
    refine ex_ishl hΦ dX7_next_14 o4 o5 ?_
    refine ex_sipush hΦ dX7_next_15 (by decide) ?_
    refine ex_callVi [(0, (1 * 2 ^ (Int.toNat x1))), (0, 9999)] [(0, 9999), (0, (1 * 2 ^ (Int.toNat x1))), (2, x0)] hΦ lkV_X7_214 ⟨by decide, by decide⟩ (Nat.le_of_ble_eq_true rfl) rfl (by decide) 7 (by decide) rfl o1 dX7_next_18 rfl h (fun r6 μ6 h => ?_)
    exact ex_returni hΦ hR dX7_next_21 h
  · have h := h.2 c
    refine ex_ldc hΦ dX7_next_8 qw551 ?_
    exact ex_returni hΦ hR dX7_next_10 h
theorem eX7_together {G : Gm} {S : List Sh} {μ : Mem} {Q : Int → Mem → Prop} {x0 x1 : Int} (h : ∀ Φ : Fr, St G Φ cX7_together RX7 2 6 155 0 0 → Rt G Φ (Pi S Q) 0 0 (some .int) → Ex G Φ 2 0 [some (2, x0), some (0, x1)] [] S μ 0 0) : Ci G mX7_together [(2, x0), (0, x1)] S μ Q :=
  call_of' (plainFor_of_name (by decide +kernel)) [some (2, x0), some (0, x1)] rfl (Nat.le_of_ble_eq_true rfl) (fun Φ hΦ hR => h Φ hΦ hR)
theorem bX7_together_0 {G : Gm} {Φ : Fr} {S : List Sh} {μ : Mem} {Q : Int → Mem → Prop} (hΦ : St G Φ cX7_together RX7 2 6 155 0 0) (hR : Rt G Φ (Pi S Q) 0 0 (some .int)) {x0 x1 : Int} (h : So S x0 (.inl 7) ∧ (So S (μ x0 1) (.inl 6) ∧ (Ci G mX7_hasBitsBeyond [(0, x1), (0, (μ (μ x0 1) 2))] S μ (fun r3 μ3 => R32 r3 ∧ ((r3 = 0 → Ci G mX7_dayOfAll [(2, x0), (0, x1), (0, 99999)] S μ3 (fun r5 μ5 => Q r5 μ5)) ∧ (¬ (r3 = 0) → Q (-1000000001) μ3)))))) : Ex G Φ 2 0 [some (2, x0), some (0, x1)] [] S μ 0 0 := by
  refine ex_iload_n hΦ dX7_together_0 rfl ?_
  obtain ⟨o1, h⟩ := h
  refine ex_aload_n hΦ dX7_together_1 rfl o1.1 ?_
  refine ex_getf hΦ fl_X7_19 o1 dX7_together_2 ?_
  obtain ⟨o2, h⟩ := h
  refine ex_getf hΦ fl_X7_104 o2 dX7_together_5 ?_
  refine ex_callSi [(0, x1), (0, (μ (μ x0 1) 2))] [(0, (μ (μ x0 1) 2)), (0, x1)] hΦ lkS_X7_217 ⟨by decide, by decide⟩ (Nat.le_of_ble_eq_true rfl) rfl (by decide) dX7_together_8 rfl h (fun r3 μ3 h => ?_)
  obtain ⟨o4, h⟩ := h
  refine ex_if_eq 17 hΦ dX7_together_11 (by decide) o4 (fun c => ?_) (fun c => ?_)
  · have h := h.1 c
    refine ex_aload_n hΦ dX7_together_17 rfl o1.1 ?_
    refine ex_iload_n hΦ dX7_together_18 rfl ?_
    refine ex_ldc hΦ dX7_together_19 qw576 ?_
    refine ex_callVi [(0, x1), (0, 99999)] [(0, 99999), (0, x1), (2, x0)] hΦ lkV_X7_214 ⟨by decide, by decide⟩ (Nat.le_of_ble_eq_true rfl) rfl (by decide) 7 (by decide) rfl o1 dX7_together_21 rfl h (fun r5 μ5 h => ?_)
    exact ex_returni hΦ hR dX7_together_24 h
  · have h := h.2 c
    refine ex_ldc hΦ dX7_together_14 qw551 ?_
    exact ex_returni hΦ hR dX7_together_16 h
theorem eX7_again {G : Gm} {S : List Sh} {μ : Mem} {Q : Int → Mem → Prop} {x0 : Int} (h : ∀ Φ : Fr, St G Φ cX7_again RX7 3 3 81 0 0 → Rt G Φ (Pi S Q) 0 0 (some .int) → Ex G Φ 3 0 [some (2, x0), none, none] [] S μ 0 0) : Ci G mX7_again [(2, x0)] S μ Q :=
  call_of' (plainFor_of_name (by decide +kernel)) [some (2, x0), none, none] rfl (Nat.le_of_ble_eq_true rfl) (fun Φ hΦ hR => h Φ hΦ hR)
theorem bX7_again_0 {G : Gm} {Φ : Fr} {S : List Sh} {μ : Mem} {Q : Int → Mem → Prop} (hΦ : St G Φ cX7_again RX7 3 3 81 0 0) (hR : Rt G Φ (Pi S Q) 0 0 (some .int)) {x0 : Int} (h : So S x0 (.inl 7) ∧ (So S (μ x0 3) (.inl 3) ∧ (Cj G mX7_roundOf [(2, x0), (0, (μ (μ x0 3) 4))] S μ (fun r3 μ3 => R64 r3 ∧ ((r3 < 1 → Q (-1) μ3) ∧ (¬ (r3 < 1) → (r3 ≤ 999999999 → Q r3 μ3) ∧ (¬ (r3 ≤ 999999999) → Q (-1) μ3))))))) : Ex G Φ 3 0 [some (2, x0), none, none] [] S μ 0 0 := by
  obtain ⟨o1, h⟩ := h
  refine ex_aload_n hΦ dX7_again_0 rfl o1.1 ?_
  refine ex_aload_n hΦ dX7_again_1 rfl o1.1 ?_
  refine ex_getf hΦ fl_X7_29 o1 dX7_again_2 ?_
  obtain ⟨o2, h⟩ := h
  refine ex_getf hΦ fl_X7_129 o2 dX7_again_5 ?_
  refine ex_callVj [(0, (μ (μ x0 3) 4))] [(0, (μ (μ x0 3) 4)), (2, x0)] hΦ lkV_X7_221 ⟨by decide, by decide⟩ (Nat.le_of_ble_eq_true rfl) rfl (by decide) 7 (by decide) rfl o1 dX7_again_8 rfl h (fun r3 μ3 h => ?_)
  refine ex_lstore_n (L' := [some (2, x0), some (1, r3), none]) hΦ dX7_again_11 (by decide) rfl ?_
  refine ex_lload_n hΦ dX7_again_12 rfl ?_
  refine ex_lconst (x := 1) hΦ dX7_again_13 (by decide) ?_
  obtain ⟨o4, h⟩ := h
  refine ex_lcmp hΦ dX7_again_14 o4 ⟨by decide, by decide⟩ ?_
  refine ex_lif_lt 26 hΦ dX7_again_15 (by decide) (fun c => ?_) (fun c => ?_)
  · have h := h.1 c
    refine ex_iconst hΦ dX7_again_26 ?_
    refine ex_goto 32 hΦ dX7_again_27 (by decide) ?_
    exact ex_returni hΦ hR dX7_again_32 h
  · have h := h.2 c
    refine ex_lload_n hΦ dX7_again_18 rfl ?_
    refine ex_ldc2 hΦ dX7_again_19 qw654 ?_
    refine ex_lcmp hΦ dX7_again_22 o4 ⟨by decide, by decide⟩ ?_
    refine ex_lif_le 30 hΦ dX7_again_23 (by decide) (fun c => ?_) (fun c => ?_)
    · have h := h.1 c
      refine ex_lload_n hΦ dX7_again_30 rfl ?_
      refine ex_l2i hΦ dX7_again_31 ?_
      exact ex_returni hΦ hR dX7_again_32 h
    · have h := h.2 c
      refine ex_iconst hΦ dX7_again_26 ?_
      refine ex_goto 32 hΦ dX7_again_27 (by decide) ?_
      exact ex_returni hΦ hR dX7_again_32 h
theorem bX7_added_68 {G : Gm} {Φ : Fr} {S : List Sh} {μ : Mem} {Q : Int → Mem → Prop} (hΦ : St G Φ cX7_added RX7 9 2 48 0 0) (hR : Rt G Φ (Pi S Q) 0 0 (some .int)) {x0 x1 x2 x3 x4 x5 x7 x8 : Int} (h : R32 x8 ∧ ((30 < x8 → Ci G mX7_howManyOrOne [(0, x7), (0, x4)] S μ (fun r2 μ2 => Q r2 μ2)) ∧ (¬ (30 < x8) → Cj G mX7_leftOver [(1, x5), (1, x8)] S μ (fun r3 μ3 => R32 x2 ∧ (R64 r3 ∧ (R64 x2 ∧ ((r3 ≠ x2 → Ex G Φ 9 68 [some (2, x0), some (0, x1), some (0, x2), some (0, x3), some (0, x4), some (1, x5), none, some (0, x7), some (0, (x8 + 1))] [] S μ3 0 0) ∧ (r3 = x2 → 0 ≤ x8 ∧ (x8 ≤ 31 ∧ Ex G Φ 9 68 [some (2, x0), some (0, x1), some (0, x2), some (0, x3), some (0, x4), some (1, x5), none, some (0, (mor x7 (1 * 2 ^ (Int.toNat x8)))), some (0, (x8 + 1))] [] S μ3 0 0))))))))) : Ex G Φ 9 68 [some (2, x0), some (0, x1), some (0, x2), some (0, x3), some (0, x4), some (1, x5), none, some (0, x7), some (0, x8)] [] S μ 0 0 := by
  refine ex_iload hΦ dX7_added_68 rfl ?_
  refine ex_bipush hΦ dX7_added_70 (by decide) ?_
  obtain ⟨o1, h⟩ := h
  refine ex_icmp_gt 104 hΦ dX7_added_72 (by decide) o1 ⟨by decide, by decide⟩ (fun c => ?_) (fun c => ?_)
  · have h := h.1 c
    refine ex_iload hΦ dX7_added_104 rfl ?_
    refine ex_iload hΦ dX7_added_106 rfl ?_
    refine ex_callSi [(0, x7), (0, x4)] [(0, x4), (0, x7)] hΦ lkS_X7_234 ⟨by decide, by decide⟩ (Nat.le_of_ble_eq_true rfl) rfl (by decide) dX7_added_108 rfl h (fun r2 μ2 h => ?_)
    exact ex_returni hΦ hR dX7_added_111 h
  · have h := h.2 c
    refine ex_lload hΦ dX7_added_75 rfl ?_
    refine ex_iload hΦ dX7_added_77 rfl ?_
    refine ex_i2l hΦ dX7_added_79 o1 ?_
    refine ex_callSj [(1, x5), (1, x8)] [(1, x8), (1, x5)] hΦ lkS_X7_231 ⟨by decide, by decide⟩ (Nat.le_of_ble_eq_true rfl) rfl (by decide) dX7_added_80 rfl h (fun r3 μ3 h => ?_)
    refine ex_iload_n hΦ dX7_added_83 rfl ?_
    obtain ⟨o4, h⟩ := h
    refine ex_i2l hΦ dX7_added_84 o4 ?_
    obtain ⟨o5, h⟩ := h
    obtain ⟨o6, h⟩ := h
    refine ex_lcmp hΦ dX7_added_85 o5 o6 ?_
    refine ex_lif_ne 98 hΦ dX7_added_86 (by decide) (fun c => ?_) (fun c => ?_)
    · have h := h.1 c
      refine ex_iinc (L' := [some (2, x0), some (0, x1), some (0, x2), some (0, x3), some (0, x4), some (1, x5), none, some (0, x7), some (0, (x8 + 1))]) hΦ dX7_added_98 rfl (by decide) rfl ?_
      refine ex_goto 68 hΦ dX7_added_101 (by decide) ?_
      exact h
    · have h := h.2 c
      refine ex_iload hΦ dX7_added_89 rfl ?_
      refine ex_iconst hΦ dX7_added_91 ?_
      refine ex_iload hΦ dX7_added_92 rfl ?_
      obtain ⟨o7, h⟩ := h
      obtain ⟨o8, h⟩ := h
      refine ex_ishl hΦ dX7_added_94 o7 o8 ?_
      refine ex_ior hΦ dX7_added_95 ?_
      refine ex_istore (L' := [some (2, x0), some (0, x1), some (0, x2), some (0, x3), some (0, x4), some (1, x5), none, some (0, (mor x7 (1 * 2 ^ (Int.toNat x8)))), some (0, x8)]) hΦ dX7_added_96 (by decide) rfl ?_
      refine ex_iinc (L' := [some (2, x0), some (0, x1), some (0, x2), some (0, x3), some (0, x4), some (1, x5), none, some (0, (mor x7 (1 * 2 ^ (Int.toNat x8)))), some (0, (x8 + 1))]) hΦ dX7_added_98 rfl (by decide) rfl ?_
      refine ex_goto 68 hΦ dX7_added_101 (by decide) ?_
      exact h
theorem eX7_added {G : Gm} {S : List Sh} {μ : Mem} {Q : Int → Mem → Prop} {x0 x1 x2 x3 x4 : Int} (h : ∀ Φ : Fr, St G Φ cX7_added RX7 9 2 48 0 0 → Rt G Φ (Pi S Q) 0 0 (some .int) → Ex G Φ 9 0 [some (2, x0), some (0, x1), some (0, x2), some (0, x3), some (0, x4), none, none, none, none] [] S μ 0 0) : Ci G mX7_added [(2, x0), (0, x1), (0, x2), (0, x3), (0, x4)] S μ Q :=
  call_of' (plainFor_of_name (by decide +kernel)) [some (2, x0), some (0, x1), some (0, x2), some (0, x3), some (0, x4), none, none, none, none] rfl (Nat.le_of_ble_eq_true rfl) (fun Φ hΦ hR => h Φ hΦ hR)
theorem bX7_added_0 {G : Gm} {Φ : Fr} {S : List Sh} {μ : Mem} {Q : Int → Mem → Prop} (hΦ : St G Φ cX7_added RX7 9 2 48 0 0) (hR : Rt G Φ (Pi S Q) 0 0 (some .int)) {x0 x1 x2 x3 x4 : Int} (h : So S x0 (.inl 7) ∧ (Ci G mX7_hasWheel [(2, x0), (0, x1)] S μ (fun r2 μ2 => R32 r2 ∧ ((r2 ≠ 0 → R32 x2 ∧ ((x2 < 0 → Q (-1000000002) μ2) ∧ (¬ (x2 < 0) → (29 < x2 → Q (-1000000002) μ2) ∧ (¬ (29 < x2) → R32 x3 ∧ ((x3 < 0 → Q (-1000000002) μ2) ∧ (¬ (x3 < 0) → (x3 ≤ 9999 → So S (μ2 x0 3) (.inl 3) ∧ (Ai S (μ2 (μ2 x0 3) 0) 1 x1 ∧ (Ai S (μ2 (μ2 x0 3) 1) 1 x1 ∧ Cj G mX7_floorPart [(1, ((-(μ2 (μ2 (μ2 x0 3) 0) x1)) * x3)), (1, (μ2 (μ2 (μ2 x0 3) 1) x1))] S μ2 (fun r9 μ9 => Ex G Φ 9 68 [some (2, x0), some (0, x1), some (0, x2), some (0, x3), some (0, x4), some (1, r9), none, some (0, 0), some (0, 3)] [] S μ9 0 0)))) ∧ (¬ (x3 ≤ 9999) → Q (-1000000002) μ2))))))) ∧ (r2 = 0 → Q (-1000000001) μ2))))) : Ex G Φ 9 0 [some (2, x0), some (0, x1), some (0, x2), some (0, x3), some (0, x4), none, none, none, none] [] S μ 0 0 := by
  obtain ⟨o1, h⟩ := h
  refine ex_aload_n hΦ dX7_added_0 rfl o1.1 ?_
  refine ex_iload_n hΦ dX7_added_1 rfl ?_
  refine ex_callVi [(0, x1)] [(0, x1), (2, x0)] hΦ lkV_X7_142 ⟨by decide, by decide⟩ (Nat.le_of_ble_eq_true rfl) rfl (by decide) 7 (by decide) rfl o1 dX7_added_2 rfl h (fun r2 μ2 h => ?_)
  obtain ⟨o3, h⟩ := h
  refine ex_if_ne 11 hΦ dX7_added_5 (by decide) o3 (fun c => ?_) (fun c => ?_)
  · have h := h.1 c
    refine ex_iload_n hΦ dX7_added_11 rfl ?_
    obtain ⟨o4, h⟩ := h
    refine ex_if_lt 32 hΦ dX7_added_12 (by decide) o4 (fun c => ?_) (fun c => ?_)
    · have h := h.1 c
      refine ex_ldc hΦ dX7_added_32 qw380 ?_
      exact ex_returni hΦ hR dX7_added_34 h
    · have h := h.2 c
      refine ex_iload_n hΦ dX7_added_15 rfl ?_
      refine ex_bipush hΦ dX7_added_16 (by decide) ?_
      refine ex_icmp_gt 32 hΦ dX7_added_18 (by decide) o4 ⟨by decide, by decide⟩ (fun c => ?_) (fun c => ?_)
      · have h := h.1 c
        refine ex_ldc hΦ dX7_added_32 qw380 ?_
        exact ex_returni hΦ hR dX7_added_34 h
      · have h := h.2 c
        refine ex_iload_n hΦ dX7_added_21 rfl ?_
        obtain ⟨o5, h⟩ := h
        refine ex_if_lt 32 hΦ dX7_added_22 (by decide) o5 (fun c => ?_) (fun c => ?_)
        · have h := h.1 c
          refine ex_ldc hΦ dX7_added_32 qw380 ?_
          exact ex_returni hΦ hR dX7_added_34 h
        · have h := h.2 c
          refine ex_iload_n hΦ dX7_added_25 rfl ?_
          refine ex_sipush hΦ dX7_added_26 (by decide) ?_
          refine ex_icmp_le 35 hΦ dX7_added_29 (by decide) o5 ⟨by decide, by decide⟩ (fun c => ?_) (fun c => ?_)
          · have h := h.1 c
            refine ex_aload_n hΦ dX7_added_35 rfl o1.1 ?_
            refine ex_getf hΦ fl_X7_29 o1 dX7_added_36 ?_
            obtain ⟨o6, h⟩ := h
            refine ex_getf hΦ fl_X7_154 o6 dX7_added_39 ?_
            refine ex_iload_n hΦ dX7_added_42 rfl ?_
            obtain ⟨o7, h⟩ := h
            refine ex_lald' hΦ o7 dX7_added_43 ?_
            refine ex_lneg hΦ dX7_added_44 ?_
            refine ex_iload_n hΦ dX7_added_45 rfl ?_
            refine ex_i2l hΦ dX7_added_46 o5 ?_
            refine ex_lmul hΦ dX7_added_47 ?_
            refine ex_aload_n hΦ dX7_added_48 rfl o1.1 ?_
            refine ex_getf hΦ fl_X7_29 o1 dX7_added_49 ?_
            refine ex_getf hΦ fl_X7_158 o6 dX7_added_52 ?_
            refine ex_iload_n hΦ dX7_added_55 rfl ?_
            obtain ⟨o8, h⟩ := h
            refine ex_lald' hΦ o8 dX7_added_56 ?_
            refine ex_callSj [(1, ((-(μ2 (μ2 (μ2 x0 3) 0) x1)) * x3)), (1, (μ2 (μ2 (μ2 x0 3) 1) x1))] [(1, (μ2 (μ2 (μ2 x0 3) 1) x1)), (1, ((-(μ2 (μ2 (μ2 x0 3) 0) x1)) * x3))] hΦ lkS_X7_227 ⟨by decide, by decide⟩ (Nat.le_of_ble_eq_true rfl) rfl (by decide) dX7_added_57 rfl h (fun r9 μ9 h => ?_)
            refine ex_lstore (L' := [some (2, x0), some (0, x1), some (0, x2), some (0, x3), some (0, x4), some (1, r9), none, none, none]) hΦ dX7_added_60 (by decide) rfl ?_
            refine ex_iconst hΦ dX7_added_62 ?_
            refine ex_istore (L' := [some (2, x0), some (0, x1), some (0, x2), some (0, x3), some (0, x4), some (1, r9), none, some (0, 0), none]) hΦ dX7_added_63 (by decide) rfl ?_
            refine ex_iconst hΦ dX7_added_65 ?_
            refine ex_istore (L' := [some (2, x0), some (0, x1), some (0, x2), some (0, x3), some (0, x4), some (1, r9), none, some (0, 0), some (0, 3)]) hΦ dX7_added_66 (by decide) rfl ?_
            exact h
          · have h := h.2 c
            refine ex_ldc hΦ dX7_added_32 qw380 ?_
            exact ex_returni hΦ hR dX7_added_34 h
  · have h := h.2 c
    refine ex_ldc hΦ dX7_added_8 qw551 ?_
    exact ex_returni hΦ hR dX7_added_10 h
theorem eX7_alike {G : Gm} {S : List Sh} {μ : Mem} {Q : Int → Mem → Prop} {x0 x1 x2 : Int} (h : ∀ Φ : Fr, St G Φ cX7_alike RX7 3 2 43 0 0 → Rt G Φ (Pi S Q) 0 0 (some .int) → Ex G Φ 3 0 [some (2, x0), some (0, x1), some (0, x2)] [] S μ 0 0) : Ci G mX7_alike [(2, x0), (0, x1), (0, x2)] S μ Q :=
  call_of' (plainFor_of_name (by decide +kernel)) [some (2, x0), some (0, x1), some (0, x2)] rfl (Nat.le_of_ble_eq_true rfl) (fun Φ hΦ hR => h Φ hΦ hR)
theorem bX7_alike_0 {G : Gm} {Φ : Fr} {S : List Sh} {μ : Mem} {Q : Int → Mem → Prop} (hΦ : St G Φ cX7_alike RX7 3 2 43 0 0) (hR : Rt G Φ (Pi S Q) 0 0 (some .int)) {x0 x1 x2 : Int} (h : So S x0 (.inl 7) ∧ (Ci G mX7_areTwoWheels [(2, x0), (0, x1), (0, x2)] S μ (fun r2 μ2 => R32 r2 ∧ ((r2 ≠ 0 → So S (μ2 x0 3) (.inl 3) ∧ (Ci G mX3_turns [(2, (μ2 x0 3)), (0, x1)] S μ2 (fun r5 μ5 => R32 r5 ∧ ((r5 = 0 → Q (-1000000003) μ5) ∧ (¬ (r5 = 0) → So S (μ5 x0 3) (.inl 3) ∧ (Ci G mX3_turns [(2, (μ5 x0 3)), (0, x2)] S μ5 (fun r8 μ8 => R32 r8 ∧ ((r8 ≠ 0 → So S (μ8 x0 3) (.inl 3) ∧ (Ci G mX3_turnAlike [(2, (μ8 x0 3)), (0, x1), (0, x2)] S μ8 (fun r11 μ11 => R32 r11 ∧ ((r11 = 0 → Q 0 μ11) ∧ (¬ (r11 = 0) → Q 1 μ11))))) ∧ (r8 = 0 → Q (-1000000003) μ8))))))))) ∧ (r2 = 0 → Q (-1000000001) μ2))))) : Ex G Φ 3 0 [some (2, x0), some (0, x1), some (0, x2)] [] S μ 0 0 := by
  obtain ⟨o1, h⟩ := h
  refine ex_aload_n hΦ dX7_alike_0 rfl o1.1 ?_
  refine ex_iload_n hΦ dX7_alike_1 rfl ?_
  refine ex_iload_n hΦ dX7_alike_2 rfl ?_
  refine ex_callVi [(0, x1), (0, x2)] [(0, x2), (0, x1), (2, x0)] hΦ lkV_X7_237 ⟨by decide, by decide⟩ (Nat.le_of_ble_eq_true rfl) rfl (by decide) 7 (by decide) rfl o1 dX7_alike_3 rfl h (fun r2 μ2 h => ?_)
  obtain ⟨o3, h⟩ := h
  refine ex_if_ne 12 hΦ dX7_alike_6 (by decide) o3 (fun c => ?_) (fun c => ?_)
  · have h := h.1 c
    refine ex_aload_n hΦ dX7_alike_12 rfl o1.1 ?_
    refine ex_getf hΦ fl_X7_29 o1 dX7_alike_13 ?_
    refine ex_iload_n hΦ dX7_alike_16 rfl ?_
    obtain ⟨o4, h⟩ := h
    refine ex_callVi [(0, x1)] [(0, x1), (2, (μ2 x0 3))] hΦ lkV_X7_240 ⟨by decide, by decide⟩ (Nat.le_of_ble_eq_true rfl) rfl (by decide) 3 (by decide) rfl o4 dX7_alike_17 rfl h (fun r5 μ5 h => ?_)
    obtain ⟨o6, h⟩ := h
    refine ex_if_eq 34 hΦ dX7_alike_20 (by decide) o6 (fun c => ?_) (fun c => ?_)
    · have h := h.1 c
      refine ex_ldc hΦ dX7_alike_34 qw581 ?_
      exact ex_returni hΦ hR dX7_alike_36 h
    · have h := h.2 c
      refine ex_aload_n hΦ dX7_alike_23 rfl o1.1 ?_
      refine ex_getf hΦ fl_X7_29 o1 dX7_alike_24 ?_
      refine ex_iload_n hΦ dX7_alike_27 rfl ?_
      obtain ⟨o7, h⟩ := h
      refine ex_callVi [(0, x2)] [(0, x2), (2, (μ5 x0 3))] hΦ lkV_X7_240 ⟨by decide, by decide⟩ (Nat.le_of_ble_eq_true rfl) rfl (by decide) 3 (by decide) rfl o7 dX7_alike_28 rfl h (fun r8 μ8 h => ?_)
      obtain ⟨o9, h⟩ := h
      refine ex_if_ne 37 hΦ dX7_alike_31 (by decide) o9 (fun c => ?_) (fun c => ?_)
      · have h := h.1 c
        refine ex_aload_n hΦ dX7_alike_37 rfl o1.1 ?_
        refine ex_getf hΦ fl_X7_29 o1 dX7_alike_38 ?_
        refine ex_iload_n hΦ dX7_alike_41 rfl ?_
        refine ex_iload_n hΦ dX7_alike_42 rfl ?_
        obtain ⟨o10, h⟩ := h
        refine ex_callVi [(0, x1), (0, x2)] [(0, x2), (0, x1), (2, (μ8 x0 3))] hΦ lkV_X7_243 ⟨by decide, by decide⟩ (Nat.le_of_ble_eq_true rfl) rfl (by decide) 3 (by decide) rfl o10 dX7_alike_43 rfl h (fun r11 μ11 h => ?_)
        obtain ⟨o12, h⟩ := h
        refine ex_if_eq 53 hΦ dX7_alike_46 (by decide) o12 (fun c => ?_) (fun c => ?_)
        · have h := h.1 c
          refine ex_iconst hΦ dX7_alike_53 ?_
          exact ex_returni hΦ hR dX7_alike_54 h
        · have h := h.2 c
          refine ex_iconst hΦ dX7_alike_49 ?_
          refine ex_goto 54 hΦ dX7_alike_50 (by decide) ?_
          exact ex_returni hΦ hR dX7_alike_54 h
      · have h := h.2 c
        refine ex_ldc hΦ dX7_alike_34 qw581 ?_
        exact ex_returni hΦ hR dX7_alike_36 h
  · have h := h.2 c
    refine ex_ldc hΦ dX7_alike_9 qw551 ?_
    exact ex_returni hΦ hR dX7_alike_11 h
theorem eX7_idlers {G : Gm} {S : List Sh} {μ : Mem} {Q : Int → Mem → Prop} {x0 x1 x2 x3 : Int} (h : ∀ Φ : Fr, St G Φ cX7_idlers RX7 4 7 183 0 0 → Rt G Φ (Pi S Q) 0 0 (some .int) → Ex G Φ 4 0 [some (2, x0), some (0, x1), some (0, x2), some (0, x3)] [] S μ 0 0) : Ci G mX7_idlers [(2, x0), (0, x1), (0, x2), (0, x3)] S μ Q :=
  call_of' (plainFor_of_name (by decide +kernel)) [some (2, x0), some (0, x1), some (0, x2), some (0, x3)] rfl (Nat.le_of_ble_eq_true rfl) (fun Φ hΦ hR => h Φ hΦ hR)
theorem bX7_idlers_0 {G : Gm} {Φ : Fr} {S : List Sh} {μ : Mem} {Q : Int → Mem → Prop} (hΦ : St G Φ cX7_idlers RX7 4 7 183 0 0) (hR : Rt G Φ (Pi S Q) 0 0 (some .int)) {x0 x1 x2 x3 : Int} (h : So S x0 (.inl 7) ∧ (Ci G mX7_areTwoWheels [(2, x0), (0, x1), (0, x2)] S μ (fun r2 μ2 => R32 r2 ∧ ((r2 ≠ 0 → R32 x3 ∧ ((x3 < 0 → Q (-1000000002) μ2) ∧ (¬ (x3 < 0) → (x3 ≤ 1 → Ci G mX7_fewestIdlers [(2, x0), (0, x1), (0, x2)] S μ2 (fun r5 μ5 => Ci G mX7_howManyOrWhich [(0, r5), (0, x3)] S μ5 (fun r6 μ6 => Q r6 μ6))) ∧ (¬ (x3 ≤ 1) → Q (-1000000002) μ2)))) ∧ (r2 = 0 → Q (-1000000001) μ2))))) : Ex G Φ 4 0 [some (2, x0), some (0, x1), some (0, x2), some (0, x3)] [] S μ 0 0 := by
  obtain ⟨o1, h⟩ := h
  refine ex_aload_n hΦ dX7_idlers_0 rfl o1.1 ?_
  refine ex_iload_n hΦ dX7_idlers_1 rfl ?_
  refine ex_iload_n hΦ dX7_idlers_2 rfl ?_
  refine ex_callVi [(0, x1), (0, x2)] [(0, x2), (0, x1), (2, x0)] hΦ lkV_X7_237 ⟨by decide, by decide⟩ (Nat.le_of_ble_eq_true rfl) rfl (by decide) 7 (by decide) rfl o1 dX7_idlers_3 rfl h (fun r2 μ2 h => ?_)
  obtain ⟨o3, h⟩ := h
  refine ex_if_ne 12 hΦ dX7_idlers_6 (by decide) o3 (fun c => ?_) (fun c => ?_)
  · have h := h.1 c
    refine ex_iload_n hΦ dX7_idlers_12 rfl ?_
    obtain ⟨o4, h⟩ := h
    refine ex_if_lt 21 hΦ dX7_idlers_13 (by decide) o4 (fun c => ?_) (fun c => ?_)
    · have h := h.1 c
      refine ex_ldc hΦ dX7_idlers_21 qw380 ?_
      exact ex_returni hΦ hR dX7_idlers_23 h
    · have h := h.2 c
      refine ex_iload_n hΦ dX7_idlers_16 rfl ?_
      refine ex_iconst hΦ dX7_idlers_17 ?_
      refine ex_icmp_le 24 hΦ dX7_idlers_18 (by decide) o4 ⟨by decide, by decide⟩ (fun c => ?_) (fun c => ?_)
      · have h := h.1 c
        refine ex_aload_n hΦ dX7_idlers_24 rfl o1.1 ?_
        refine ex_iload_n hΦ dX7_idlers_25 rfl ?_
        refine ex_iload_n hΦ dX7_idlers_26 rfl ?_
        refine ex_callVi [(0, x1), (0, x2)] [(0, x2), (0, x1), (2, x0)] hΦ lkV_X7_246 ⟨by decide, by decide⟩ (Nat.le_of_ble_eq_true rfl) rfl (by decide) 7 (by decide) rfl o1 dX7_idlers_27 rfl h (fun r5 μ5 h => ?_)
        refine ex_iload_n hΦ dX7_idlers_30 rfl ?_
        refine ex_callSi [(0, r5), (0, x3)] [(0, x3), (0, r5)] hΦ lkS_X7_249 ⟨by decide, by decide⟩ (Nat.le_of_ble_eq_true rfl) rfl (by decide) dX7_idlers_31 rfl h (fun r6 μ6 h => ?_)
        exact ex_returni hΦ hR dX7_idlers_34 h
      · have h := h.2 c
        refine ex_ldc hΦ dX7_idlers_21 qw380 ?_
        exact ex_returni hΦ hR dX7_idlers_23 h
  · have h := h.2 c
    refine ex_ldc hΦ dX7_idlers_9 qw551 ?_
    exact ex_returni hΦ hR dX7_idlers_11 h
theorem eX7_free {G : Gm} {S : List Sh} {μ : Mem} {Q : Int → Mem → Prop} {x0 x1 : Int} (h : ∀ Φ : Fr, St G Φ cX7_free RX7 2 7 181 0 0 → Rt G Φ (Pi S Q) 0 0 (some .int) → Ex G Φ 2 0 [some (2, x0), some (0, x1)] [] S μ 0 0) : Ci G mX7_free [(2, x0), (0, x1)] S μ Q :=
  call_of' (plainFor_of_name (by decide +kernel)) [some (2, x0), some (0, x1)] rfl (Nat.le_of_ble_eq_true rfl) (fun Φ hΦ hR => h Φ hΦ hR)
theorem bX7_free_0 {G : Gm} {Φ : Fr} {S : List Sh} {μ : Mem} {Q : Int → Mem → Prop} (hΦ : St G Φ cX7_free RX7 2 7 181 0 0) (hR : Rt G Φ (Pi S Q) 0 0 (some .int)) {x0 x1 : Int} (h : R32 x1 ∧ ((x1 < 0 → Q (-1000000002) μ) ∧ (¬ (x1 < 0) → (x1 ≤ 1 → So S x0 (.inl 7) ∧ Ci G mX7_fewestCuts [(2, x0), (0, 0)] S μ (fun r3 μ3 => Ci G mX7_howManyOrWhich [(0, r3), (0, x1)] S μ3 (fun r4 μ4 => Q r4 μ4))) ∧ (¬ (x1 ≤ 1) → Q (-1000000002) μ)))) : Ex G Φ 2 0 [some (2, x0), some (0, x1)] [] S μ 0 0 := by
  refine ex_iload_n hΦ dX7_free_0 rfl ?_
  obtain ⟨o1, h⟩ := h
  refine ex_if_lt 9 hΦ dX7_free_1 (by decide) o1 (fun c => ?_) (fun c => ?_)
  · have h := h.1 c
    refine ex_ldc hΦ dX7_free_9 qw380 ?_
    exact ex_returni hΦ hR dX7_free_11 h
  · have h := h.2 c
    refine ex_iload_n hΦ dX7_free_4 rfl ?_
    refine ex_iconst hΦ dX7_free_5 ?_
    refine ex_icmp_le 12 hΦ dX7_free_6 (by decide) o1 ⟨by decide, by decide⟩ (fun c => ?_) (fun c => ?_)
    · have h := h.1 c
      obtain ⟨o2, h⟩ := h
      refine ex_aload_n hΦ dX7_free_12 rfl o2.1 ?_
      refine ex_iconst hΦ dX7_free_13 ?_
      refine ex_callVi [(0, 0)] [(0, 0), (2, x0)] hΦ lkV_X7_252 ⟨by decide, by decide⟩ (Nat.le_of_ble_eq_true rfl) rfl (by decide) 7 (by decide) rfl o2 dX7_free_14 rfl h (fun r3 μ3 h => ?_)
      refine ex_iload_n hΦ dX7_free_17 rfl ?_
      refine ex_callSi [(0, r3), (0, x1)] [(0, x1), (0, r3)] hΦ lkS_X7_249 ⟨by decide, by decide⟩ (Nat.le_of_ble_eq_true rfl) rfl (by decide) dX7_free_18 rfl h (fun r4 μ4 h => ?_)
      exact ex_returni hΦ hR dX7_free_21 h
    · have h := h.2 c
      refine ex_ldc hΦ dX7_free_9 qw380 ?_
      exact ex_returni hΦ hR dX7_free_11 h
theorem eX7_rest {G : Gm} {S : List Sh} {μ : Mem} {Q : Int → Mem → Prop} {x0 x1 x2 : Int} (h : ∀ Φ : Fr, St G Φ cX7_rest RX7 3 7 181 0 0 → Rt G Φ (Pi S Q) 0 0 (some .int) → Ex G Φ 3 0 [some (2, x0), some (0, x1), some (0, x2)] [] S μ 0 0) : Ci G mX7_rest [(2, x0), (0, x1), (0, x2)] S μ Q :=
  call_of' (plainFor_of_name (by decide +kernel)) [some (2, x0), some (0, x1), some (0, x2)] rfl (Nat.le_of_ble_eq_true rfl) (fun Φ hΦ hR => h Φ hΦ hR)
theorem bX7_rest_0 {G : Gm} {Φ : Fr} {S : List Sh} {μ : Mem} {Q : Int → Mem → Prop} (hΦ : St G Φ cX7_rest RX7 3 7 181 0 0) (hR : Rt G Φ (Pi S Q) 0 0 (some .int)) {x0 x1 x2 : Int} (h : So S x0 (.inl 7) ∧ (So S (μ x0 1) (.inl 6) ∧ (Ci G mX7_hasBitsBeyond [(0, x1), (0, (μ (μ x0 1) 0))] S μ (fun r3 μ3 => R32 r3 ∧ ((r3 = 0 → R32 x2 ∧ ((x2 < 0 → Q (-1000000002) μ3) ∧ (¬ (x2 < 0) → (x2 ≤ 1 → Ci G mX7_fewestCuts [(2, x0), (0, x1)] S μ3 (fun r6 μ6 => Ci G mX7_howManyOrWhich [(0, r6), (0, x2)] S μ6 (fun r7 μ7 => Q r7 μ7))) ∧ (¬ (x2 ≤ 1) → Q (-1000000002) μ3)))) ∧ (¬ (r3 = 0) → Q (-1000000001) μ3)))))) : Ex G Φ 3 0 [some (2, x0), some (0, x1), some (0, x2)] [] S μ 0 0 := by
  refine ex_iload_n hΦ dX7_rest_0 rfl ?_
  obtain ⟨o1, h⟩ := h
  refine ex_aload_n hΦ dX7_rest_1 rfl o1.1 ?_
  refine ex_getf hΦ fl_X7_19 o1 dX7_rest_2 ?_
  obtain ⟨o2, h⟩ := h
  refine ex_getf hΦ fl_X7_95 o2 dX7_rest_5 ?_
  refine ex_callSi [(0, x1), (0, (μ (μ x0 1) 0))] [(0, (μ (μ x0 1) 0)), (0, x1)] hΦ lkS_X7_217 ⟨by decide, by decide⟩ (Nat.le_of_ble_eq_true rfl) rfl (by decide) dX7_rest_8 rfl h (fun r3 μ3 h => ?_)
  obtain ⟨o4, h⟩ := h
  refine ex_if_eq 17 hΦ dX7_rest_11 (by decide) o4 (fun c => ?_) (fun c => ?_)
  · have h := h.1 c
    refine ex_iload_n hΦ dX7_rest_17 rfl ?_
    obtain ⟨o5, h⟩ := h
    refine ex_if_lt 26 hΦ dX7_rest_18 (by decide) o5 (fun c => ?_) (fun c => ?_)
    · have h := h.1 c
      refine ex_ldc hΦ dX7_rest_26 qw380 ?_
      exact ex_returni hΦ hR dX7_rest_28 h
    · have h := h.2 c
      refine ex_iload_n hΦ dX7_rest_21 rfl ?_
      refine ex_iconst hΦ dX7_rest_22 ?_
      refine ex_icmp_le 29 hΦ dX7_rest_23 (by decide) o5 ⟨by decide, by decide⟩ (fun c => ?_) (fun c => ?_)
      · have h := h.1 c
        refine ex_aload_n hΦ dX7_rest_29 rfl o1.1 ?_
        refine ex_iload_n hΦ dX7_rest_30 rfl ?_
        refine ex_callVi [(0, x1)] [(0, x1), (2, x0)] hΦ lkV_X7_252 ⟨by decide, by decide⟩ (Nat.le_of_ble_eq_true rfl) rfl (by decide) 7 (by decide) rfl o1 dX7_rest_31 rfl h (fun r6 μ6 h => ?_)
        refine ex_iload_n hΦ dX7_rest_34 rfl ?_
        refine ex_callSi [(0, r6), (0, x2)] [(0, x2), (0, r6)] hΦ lkS_X7_249 ⟨by decide, by decide⟩ (Nat.le_of_ble_eq_true rfl) rfl (by decide) dX7_rest_35 rfl h (fun r7 μ7 h => ?_)
        exact ex_returni hΦ hR dX7_rest_38 h
      · have h := h.2 c
        refine ex_ldc hΦ dX7_rest_26 qw380 ?_
        exact ex_returni hΦ hR dX7_rest_28 h
  · have h := h.2 c
    refine ex_ldc hΦ dX7_rest_14 qw551 ?_
    exact ex_returni hΦ hR dX7_rest_16 h
theorem eX7_wear {G : Gm} {S : List Sh} {μ : Mem} {Q : Int → Mem → Prop} {x0 x1 x2 : Int} (h : ∀ Φ : Fr, St G Φ cX7_wear RX7 3 4 102 0 0 → Rt G Φ (Pi S Q) 0 0 (some .int) → Ex G Φ 3 0 [some (2, x0), some (0, x1), some (0, x2)] [] S μ 0 0) : Ci G mX7_wear [(2, x0), (0, x1), (0, x2)] S μ Q :=
  call_of' (plainFor_of_name (by decide +kernel)) [some (2, x0), some (0, x1), some (0, x2)] rfl (Nat.le_of_ble_eq_true rfl) (fun Φ hΦ hR => h Φ hΦ hR)
theorem bX7_wear_0 {G : Gm} {Φ : Fr} {S : List Sh} {μ : Mem} {Q : Int → Mem → Prop} (hΦ : St G Φ cX7_wear RX7 3 4 102 0 0) (hR : Rt G Φ (Pi S Q) 0 0 (some .int)) {x0 x1 x2 : Int} (h : So S x0 (.inl 7) ∧ (Ci G mX7_hasLink [(2, x0), (0, x1)] S μ (fun r2 μ2 => R32 r2 ∧ ((r2 ≠ 0 → R32 x2 ∧ ((x2 < 0 → Q (-1000000002) μ2) ∧ (¬ (x2 < 0) → (x2 ≤ 1 → So S (μ2 x0 1) (.inl 6) ∧ (Ai S (μ2 (μ2 x0 1) 8) 0 x1 ∧ (R32 (μ2 (μ2 (μ2 x0 1) 8) x1) ∧ (((μ2 (μ2 (μ2 x0 1) 8) x1) = 0 → (x2 ≠ 0 → Ci G mX7_daysToMeet [(2, x0), (0, x1)] S μ2 (fun r8 μ8 => Q r8 μ8)) ∧ (x2 = 0 → Ci G mX7_teethMet [(2, x0), (0, x1)] S μ2 (fun r9 μ9 => Q r9 μ9))) ∧ (¬ ((μ2 (μ2 (μ2 x0 1) 8) x1) = 0) → Q (-1000000003) μ2))))) ∧ (¬ (x2 ≤ 1) → Q (-1000000002) μ2)))) ∧ (r2 = 0 → Q (-1000000001) μ2))))) : Ex G Φ 3 0 [some (2, x0), some (0, x1), some (0, x2)] [] S μ 0 0 := by
  obtain ⟨o1, h⟩ := h
  refine ex_aload_n hΦ dX7_wear_0 rfl o1.1 ?_
  refine ex_iload_n hΦ dX7_wear_1 rfl ?_
  refine ex_callVi [(0, x1)] [(0, x1), (2, x0)] hΦ lkV_X7_161 ⟨by decide, by decide⟩ (Nat.le_of_ble_eq_true rfl) rfl (by decide) 7 (by decide) rfl o1 dX7_wear_2 rfl h (fun r2 μ2 h => ?_)
  obtain ⟨o3, h⟩ := h
  refine ex_if_ne 11 hΦ dX7_wear_5 (by decide) o3 (fun c => ?_) (fun c => ?_)
  · have h := h.1 c
    refine ex_iload_n hΦ dX7_wear_11 rfl ?_
    obtain ⟨o4, h⟩ := h
    refine ex_if_lt 20 hΦ dX7_wear_12 (by decide) o4 (fun c => ?_) (fun c => ?_)
    · have h := h.1 c
      refine ex_ldc hΦ dX7_wear_20 qw380 ?_
      exact ex_returni hΦ hR dX7_wear_22 h
    · have h := h.2 c
      refine ex_iload_n hΦ dX7_wear_15 rfl ?_
      refine ex_iconst hΦ dX7_wear_16 ?_
      refine ex_icmp_le 23 hΦ dX7_wear_17 (by decide) o4 ⟨by decide, by decide⟩ (fun c => ?_) (fun c => ?_)
      · have h := h.1 c
        refine ex_aload_n hΦ dX7_wear_23 rfl o1.1 ?_
        refine ex_getf hΦ fl_X7_19 o1 dX7_wear_24 ?_
        obtain ⟨o5, h⟩ := h
        refine ex_getf hΦ fl_X7_164 o5 dX7_wear_27 ?_
        refine ex_iload_n hΦ dX7_wear_30 rfl ?_
        obtain ⟨o6, h⟩ := h
        refine ex_iald' hΦ o6 dX7_wear_31 ?_
        obtain ⟨o7, h⟩ := h
        refine ex_if_eq 38 hΦ dX7_wear_32 (by decide) o7 (fun c => ?_) (fun c => ?_)
        · have h := h.1 c
          refine ex_iload_n hΦ dX7_wear_38 rfl ?_
          refine ex_if_ne 50 hΦ dX7_wear_39 (by decide) o4 (fun c => ?_) (fun c => ?_)
          · have h := h.1 c
            refine ex_aload_n hΦ dX7_wear_50 rfl o1.1 ?_
            refine ex_iload_n hΦ dX7_wear_51 rfl ?_
            refine ex_callVi [(0, x1)] [(0, x1), (2, x0)] hΦ lkV_X7_258 ⟨by decide, by decide⟩ (Nat.le_of_ble_eq_true rfl) rfl (by decide) 7 (by decide) rfl o1 dX7_wear_52 rfl h (fun r8 μ8 h => ?_)
            exact ex_returni hΦ hR dX7_wear_55 h
          · have h := h.2 c
            refine ex_aload_n hΦ dX7_wear_42 rfl o1.1 ?_
            refine ex_iload_n hΦ dX7_wear_43 rfl ?_
            refine ex_callVi [(0, x1)] [(0, x1), (2, x0)] hΦ lkV_X7_255 ⟨by decide, by decide⟩ (Nat.le_of_ble_eq_true rfl) rfl (by decide) 7 (by decide) rfl o1 dX7_wear_44 rfl h (fun r9 μ9 h => ?_)
            refine ex_goto 55 hΦ dX7_wear_47 (by decide) ?_
            exact ex_returni hΦ hR dX7_wear_55 h
        · have h := h.2 c
          refine ex_ldc hΦ dX7_wear_35 qw581 ?_
          exact ex_returni hΦ hR dX7_wear_37 h
      · have h := h.2 c
        refine ex_ldc hΦ dX7_wear_20 qw380 ?_
        exact ex_returni hΦ hR dX7_wear_22 h
  · have h := h.2 c
    refine ex_ldc hΦ dX7_wear_8 qw551 ?_
    exact ex_returni hΦ hR dX7_wear_10 h
theorem eX7_slips {G : Gm} {S : List Sh} {μ : Mem} {Q : Int → Mem → Prop} {x0 x1 x2 : Int} (h : ∀ Φ : Fr, St G Φ cX7_slips RX7 3 3 74 0 0 → Rt G Φ (Pi S Q) 0 0 (some .int) → Ex G Φ 3 0 [some (2, x0), some (0, x1), some (0, x2)] [] S μ 0 0) : Ci G mX7_slips [(2, x0), (0, x1), (0, x2)] S μ Q :=
  call_of' (plainFor_of_name (by decide +kernel)) [some (2, x0), some (0, x1), some (0, x2)] rfl (Nat.le_of_ble_eq_true rfl) (fun Φ hΦ hR => h Φ hΦ hR)
theorem bX7_slips_0 {G : Gm} {Φ : Fr} {S : List Sh} {μ : Mem} {Q : Int → Mem → Prop} (hΦ : St G Φ cX7_slips RX7 3 3 74 0 0) (hR : Rt G Φ (Pi S Q) 0 0 (some .int)) {x0 x1 x2 : Int} (h : So S x0 (.inl 7) ∧ (Ci G mX7_hasWheel [(2, x0), (0, x1)] S μ (fun r2 μ2 => R32 r2 ∧ ((r2 ≠ 0 → R32 x2 ∧ ((x2 < 0 → Q (-1000000002) μ2) ∧ (¬ (x2 < 0) → (x2 ≤ 99 → So S (μ2 x0 3) (.inl 3) ∧ (Ci G mX3_turns [(2, (μ2 x0 3)), (0, x1)] S μ2 (fun r6 μ6 => R32 r6 ∧ ((r6 = 0 → Q 0 μ6) ∧ (¬ (r6 = 0) → Ci G mX7_oddsOfNoSlip [(2, x0), (0, x1), (0, x2)] S μ6 (fun r8 μ8 => Q r8 μ8)))))) ∧ (¬ (x2 ≤ 99) → Q (-1000000002) μ2)))) ∧ (r2 = 0 → Q (-1000000001) μ2))))) : Ex G Φ 3 0 [some (2, x0), some (0, x1), some (0, x2)] [] S μ 0 0 := by
  obtain ⟨o1, h⟩ := h
  refine ex_aload_n hΦ dX7_slips_0 rfl o1.1 ?_
  refine ex_iload_n hΦ dX7_slips_1 rfl ?_
  refine ex_callVi [(0, x1)] [(0, x1), (2, x0)] hΦ lkV_X7_142 ⟨by decide, by decide⟩ (Nat.le_of_ble_eq_true rfl) rfl (by decide) 7 (by decide) rfl o1 dX7_slips_2 rfl h (fun r2 μ2 h => ?_)
  obtain ⟨o3, h⟩ := h
  refine ex_if_ne 11 hΦ dX7_slips_5 (by decide) o3 (fun c => ?_) (fun c => ?_)
  · have h := h.1 c
    refine ex_iload_n hΦ dX7_slips_11 rfl ?_
    obtain ⟨o4, h⟩ := h
    refine ex_if_lt 21 hΦ dX7_slips_12 (by decide) o4 (fun c => ?_) (fun c => ?_)
    · have h := h.1 c
      refine ex_ldc hΦ dX7_slips_21 qw380 ?_
      exact ex_returni hΦ hR dX7_slips_23 h
    · have h := h.2 c
      refine ex_iload_n hΦ dX7_slips_15 rfl ?_
      refine ex_bipush hΦ dX7_slips_16 (by decide) ?_
      refine ex_icmp_le 24 hΦ dX7_slips_18 (by decide) o4 ⟨by decide, by decide⟩ (fun c => ?_) (fun c => ?_)
      · have h := h.1 c
        refine ex_aload_n hΦ dX7_slips_24 rfl o1.1 ?_
        refine ex_getf hΦ fl_X7_29 o1 dX7_slips_25 ?_
        refine ex_iload_n hΦ dX7_slips_28 rfl ?_
        obtain ⟨o5, h⟩ := h
        refine ex_callVi [(0, x1)] [(0, x1), (2, (μ2 x0 3))] hΦ lkV_X7_240 ⟨by decide, by decide⟩ (Nat.le_of_ble_eq_true rfl) rfl (by decide) 3 (by decide) rfl o5 dX7_slips_29 rfl h (fun r6 μ6 h => ?_)
        obtain ⟨o7, h⟩ := h
        refine ex_if_eq 44 hΦ dX7_slips_32 (by decide) o7 (fun c => ?_) (fun c => ?_)
        · have h := h.1 c
          refine ex_iconst hΦ dX7_slips_44 ?_
          exact ex_returni hΦ hR dX7_slips_45 h
        · have h := h.2 c
          refine ex_aload_n hΦ dX7_slips_35 rfl o1.1 ?_
          refine ex_iload_n hΦ dX7_slips_36 rfl ?_
          refine ex_iload_n hΦ dX7_slips_37 rfl ?_
          refine ex_callVi [(0, x1), (0, x2)] [(0, x2), (0, x1), (2, x0)] hΦ lkV_X7_261 ⟨by decide, by decide⟩ (Nat.le_of_ble_eq_true rfl) rfl (by decide) 7 (by decide) rfl o1 dX7_slips_38 rfl h (fun r8 μ8 h => ?_)
          refine ex_goto 45 hΦ dX7_slips_41 (by decide) ?_
          exact ex_returni hΦ hR dX7_slips_45 h
      · have h := h.2 c
        refine ex_ldc hΦ dX7_slips_21 qw380 ?_
        exact ex_returni hΦ hR dX7_slips_23 h
  · have h := h.2 c
    refine ex_ldc hΦ dX7_slips_8 qw551 ?_
    exact ex_returni hΦ hR dX7_slips_10 h
theorem bX7_hidden_59 {G : Gm} {Φ : Fr} {S : List Sh} {μ : Mem} {Q : Int → Mem → Prop} (hΦ : St G Φ cX7_hidden RX7 8 6 161 0 0) (hR : Rt G Φ (Pi S Q) 0 0 (some .int)) {x0 x1 x2 x3 x4 x5 x6 : Int} (h : So S x0 (.inl 7) ∧ (So S (μ x0 1) (.inl 6) ∧ (R32 x6 ∧ (R32 (μ (μ x0 1) 0) ∧ (((μ (μ x0 1) 0) ≤ x6 → R32 x4 ∧ ((x4 ≠ (-1) → Q (-1) μ) ∧ (x4 = (-1) → Q x5 μ))) ∧ (¬ ((μ (μ x0 1) 0) ≤ x6) → Ex G Φ 8 77 [some (2, x0), some (0, x1), some (0, x2), some (0, x3), some (0, x4), some (0, x5), some (0, x6), some (0, (x6 + 1))] [] S μ 0 0)))))) : Ex G Φ 8 59 [some (2, x0), some (0, x1), some (0, x2), some (0, x3), some (0, x4), some (0, x5), some (0, x6), none] [] S μ 0 0 := by
  refine ex_iload hΦ dX7_hidden_59 rfl ?_
  obtain ⟨o1, h⟩ := h
  refine ex_aload_n hΦ dX7_hidden_61 rfl o1.1 ?_
  refine ex_getf hΦ fl_X7_19 o1 dX7_hidden_62 ?_
  obtain ⟨o2, h⟩ := h
  refine ex_getf hΦ fl_X7_95 o2 dX7_hidden_65 ?_
  obtain ⟨o3, h⟩ := h
  obtain ⟨o4, h⟩ := h
  refine ex_icmp_ge 158 hΦ dX7_hidden_68 (by decide) o3 o4 (fun c => ?_) (fun c => ?_)
  · have h := h.1 c
    refine ex_iload hΦ dX7_hidden_158 rfl ?_
    refine ex_iconst hΦ dX7_hidden_160 ?_
    obtain ⟨o5, h⟩ := h
    refine ex_icmp_ne 169 hΦ dX7_hidden_161 (by decide) o5 ⟨by decide, by decide⟩ (fun c => ?_) (fun c => ?_)
    · have h := h.1 c
      refine ex_iconst hΦ dX7_hidden_169 ?_
      exact ex_returni hΦ hR dX7_hidden_170 h
    · have h := h.2 c
      refine ex_iload hΦ dX7_hidden_164 rfl ?_
      refine ex_goto 170 hΦ dX7_hidden_166 (by decide) ?_
      exact ex_returni hΦ hR dX7_hidden_170 h
  · have h := h.2 c
    refine ex_iload hΦ dX7_hidden_71 rfl ?_
    refine ex_iconst hΦ dX7_hidden_73 ?_
    refine ex_iadd hΦ dX7_hidden_74 ?_
    refine ex_istore (L' := [some (2, x0), some (0, x1), some (0, x2), some (0, x3), some (0, x4), some (0, x5), some (0, x6), some (0, (x6 + 1))]) hΦ dX7_hidden_75 (by decide) rfl ?_
    exact h
theorem bX7_hidden_77 {G : Gm} {Φ : Fr} {S : List Sh} {μ : Mem} {Q : Int → Mem → Prop} (hΦ : St G Φ cX7_hidden RX7 8 6 161 0 0) (hR : Rt G Φ (Pi S Q) 0 0 (some .int)) {x0 x1 x2 x3 x4 x5 x6 x7 : Int} (h : So S x0 (.inl 7) ∧ (So S (μ x0 1) (.inl 6) ∧ (R32 x7 ∧ (R32 (μ (μ x0 1) 0) ∧ (((μ (μ x0 1) 0) ≤ x7 → Ex G Φ 8 59 [some (2, x0), some (0, x1), some (0, x2), some (0, x3), some (0, x4), some (0, x5), some (0, (x6 + 1)), none] [] S μ 0 0) ∧ (¬ ((μ (μ x0 1) 0) ≤ x7) → So S (μ x0 3) (.inl 3) ∧ (Ci G mX3_turns [(2, (μ x0 3)), (0, x6)] S μ (fun r6 μ6 => So S (μ6 x0 3) (.inl 3) ∧ (Ci G mX3_turns [(2, (μ6 x0 3)), (0, x7)] S μ6 (fun r8 μ8 => R32 r6 ∧ (R32 r8 ∧ ((r6 = r8 → Ex G Φ 8 77 [some (2, x0), some (0, x1), some (0, x2), some (0, x3), some (0, x4), some (0, x5), some (0, x6), some (0, (x7 + 1))] [] S μ8 0 0) ∧ (¬ (r6 = r8) → Ci G mX7_wouldTurn [(2, x0), (0, x1), (0, x3), (0, x2), (0, x6), (0, x7)] S μ8 (fun r11 μ11 => R32 r11 ∧ ((r11 ≠ 0 → R32 x5 ∧ (R32 x4 ∧ ((x5 ≠ x4 → Ex G Φ 8 77 [some (2, x0), some (0, x1), some (0, x2), some (0, x3), some (0, x4), some (0, (x5 + 1)), some (0, x6), some (0, (x7 + 1))] [] S μ11 0 0) ∧ (x5 = x4 → Q ((100 * x6) + x7) μ11)))) ∧ (r11 = 0 → Ex G Φ 8 77 [some (2, x0), some (0, x1), some (0, x2), some (0, x3), some (0, x4), some (0, x5), some (0, x6), some (0, (x7 + 1))] [] S μ11 0 0)))))))))))))))) : Ex G Φ 8 77 [some (2, x0), some (0, x1), some (0, x2), some (0, x3), some (0, x4), some (0, x5), some (0, x6), some (0, x7)] [] S μ 0 0 := by
  refine ex_iload hΦ dX7_hidden_77 rfl ?_
  obtain ⟨o1, h⟩ := h
  refine ex_aload_n hΦ dX7_hidden_79 rfl o1.1 ?_
  refine ex_getf hΦ fl_X7_19 o1 dX7_hidden_80 ?_
  obtain ⟨o2, h⟩ := h
  refine ex_getf hΦ fl_X7_95 o2 dX7_hidden_83 ?_
  obtain ⟨o3, h⟩ := h
  obtain ⟨o4, h⟩ := h
  refine ex_icmp_ge 152 hΦ dX7_hidden_86 (by decide) o3 o4 (fun c => ?_) (fun c => ?_)
  · have h := h.1 c
    refine ex_iinc (L' := [some (2, x0), some (0, x1), some (0, x2), some (0, x3), some (0, x4), some (0, x5), some (0, (x6 + 1)), some (0, x7)]) hΦ dX7_hidden_152 rfl (by decide) rfl ?_
    refine ex_goto 59 hΦ dX7_hidden_155 (by decide) ?_
    refine ex_forget (L' := [some (2, x0), some (0, x1), some (0, x2), some (0, x3), some (0, x4), some (0, x5), some (0, (x6 + 1)), none]) [7] rfl ?_
    exact h
  · have h := h.2 c
    refine ex_aload_n hΦ dX7_hidden_89 rfl o1.1 ?_
    refine ex_getf hΦ fl_X7_29 o1 dX7_hidden_90 ?_
    refine ex_iload hΦ dX7_hidden_93 rfl ?_
    obtain ⟨o5, h⟩ := h
    refine ex_callVi [(0, x6)] [(0, x6), (2, (μ x0 3))] hΦ lkV_X7_240 ⟨by decide, by decide⟩ (Nat.le_of_ble_eq_true rfl) rfl (by decide) 3 (by decide) rfl o5 dX7_hidden_95 rfl h (fun r6 μ6 h => ?_)
    refine ex_aload_n hΦ dX7_hidden_98 rfl o1.1 ?_
    refine ex_getf hΦ fl_X7_29 o1 dX7_hidden_99 ?_
    refine ex_iload hΦ dX7_hidden_102 rfl ?_
    obtain ⟨o7, h⟩ := h
    refine ex_callVi [(0, x7)] [(0, x7), (2, (μ6 x0 3)), (0, r6)] hΦ lkV_X7_240 ⟨by decide, by decide⟩ (Nat.le_of_ble_eq_true rfl) rfl (by decide) 3 (by decide) rfl o7 dX7_hidden_104 rfl h (fun r8 μ8 h => ?_)
    obtain ⟨o9, h⟩ := h
    obtain ⟨o10, h⟩ := h
    refine ex_icmp_eq 146 hΦ dX7_hidden_107 (by decide) o9 o10 (fun c => ?_) (fun c => ?_)
    · have h := h.1 c
      refine ex_iinc (L' := [some (2, x0), some (0, x1), some (0, x2), some (0, x3), some (0, x4), some (0, x5), some (0, x6), some (0, (x7 + 1))]) hΦ dX7_hidden_146 rfl (by decide) rfl ?_
      refine ex_goto 77 hΦ dX7_hidden_149 (by decide) ?_
      exact h
    · have h := h.2 c
      refine ex_aload_n hΦ dX7_hidden_110 rfl o1.1 ?_
      refine ex_iload_n hΦ dX7_hidden_111 rfl ?_
      refine ex_iload_n hΦ dX7_hidden_112 rfl ?_
      refine ex_iload_n hΦ dX7_hidden_113 rfl ?_
      refine ex_iload hΦ dX7_hidden_114 rfl ?_
      refine ex_iload hΦ dX7_hidden_116 rfl ?_
      refine ex_callVi [(0, x1), (0, x3), (0, x2), (0, x6), (0, x7)] [(0, x7), (0, x6), (0, x2), (0, x3), (0, x1), (2, x0)] hΦ lkV_X7_264 ⟨by decide, by decide⟩ (Nat.le_of_ble_eq_true rfl) rfl (by decide) 7 (by decide) rfl o1 dX7_hidden_118 rfl h (fun r11 μ11 h => ?_)
      obtain ⟨o12, h⟩ := h
      refine ex_if_ne 127 hΦ dX7_hidden_121 (by decide) o12 (fun c => ?_) (fun c => ?_)
      · have h := h.1 c
        refine ex_iload hΦ dX7_hidden_127 rfl ?_
        refine ex_iload hΦ dX7_hidden_129 rfl ?_
        obtain ⟨o13, h⟩ := h
        obtain ⟨o14, h⟩ := h
        refine ex_icmp_ne 143 hΦ dX7_hidden_131 (by decide) o13 o14 (fun c => ?_) (fun c => ?_)
        · have h := h.1 c
          refine ex_iinc (L' := [some (2, x0), some (0, x1), some (0, x2), some (0, x3), some (0, x4), some (0, (x5 + 1)), some (0, x6), some (0, x7)]) hΦ dX7_hidden_143 rfl (by decide) rfl ?_
          refine ex_iinc (L' := [some (2, x0), some (0, x1), some (0, x2), some (0, x3), some (0, x4), some (0, (x5 + 1)), some (0, x6), some (0, (x7 + 1))]) hΦ dX7_hidden_146 rfl (by decide) rfl ?_
          refine ex_goto 77 hΦ dX7_hidden_149 (by decide) ?_
          exact h
        · have h := h.2 c
          refine ex_bipush hΦ dX7_hidden_134 (by decide) ?_
          refine ex_iload hΦ dX7_hidden_136 rfl ?_
          refine ex_imul hΦ dX7_hidden_138 ?_
          refine ex_iload hΦ dX7_hidden_139 rfl ?_
          refine ex_iadd hΦ dX7_hidden_141 ?_
          exact ex_returni hΦ hR dX7_hidden_142 h
      · have h := h.2 c
        refine ex_goto 146 hΦ dX7_hidden_124 (by decide) ?_
        refine ex_iinc (L' := [some (2, x0), some (0, x1), some (0, x2), some (0, x3), some (0, x4), some (0, x5), some (0, x6), some (0, (x7 + 1))]) hΦ dX7_hidden_146 rfl (by decide) rfl ?_
        refine ex_goto 77 hΦ dX7_hidden_149 (by decide) ?_
        exact h
theorem eX7_hidden {G : Gm} {S : List Sh} {μ : Mem} {Q : Int → Mem → Prop} {x0 x1 x2 x3 x4 : Int} (h : ∀ Φ : Fr, St G Φ cX7_hidden RX7 8 6 161 0 0 → Rt G Φ (Pi S Q) 0 0 (some .int) → Ex G Φ 8 0 [some (2, x0), some (0, x1), some (0, x2), some (0, x3), some (0, x4), none, none, none] [] S μ 0 0) : Ci G mX7_hidden [(2, x0), (0, x1), (0, x2), (0, x3), (0, x4)] S μ Q :=
  call_of' (plainFor_of_name (by decide +kernel)) [some (2, x0), some (0, x1), some (0, x2), some (0, x3), some (0, x4), none, none, none] rfl (Nat.le_of_ble_eq_true rfl) (fun Φ hΦ hR => h Φ hΦ hR)
theorem bX7_hidden_0 {G : Gm} {Φ : Fr} {S : List Sh} {μ : Mem} {Q : Int → Mem → Prop} (hΦ : St G Φ cX7_hidden RX7 8 6 161 0 0) (hR : Rt G Φ (Pi S Q) 0 0 (some .int)) {x0 x1 x2 x3 x4 : Int} (h : So S x0 (.inl 7) ∧ (Ci G mX7_hasWheel [(2, x0), (0, x1)] S μ (fun r2 μ2 => R32 r2 ∧ ((r2 ≠ 0 → R32 x2 ∧ ((x2 < 0 → Q (-1000000002) μ2) ∧ (¬ (x2 < 0) → (2 < x2 → Q (-1000000002) μ2) ∧ (¬ (2 < x2) → R32 x3 ∧ ((x3 < (-30) → Q (-1000000002) μ2) ∧ (¬ (x3 < (-30)) → (30 < x3 → Q (-1000000002) μ2) ∧ (¬ (30 < x3) → (x3 ≠ 0 → So S (μ2 x0 3) (.inl 3) ∧ (Ci G mX3_turns [(2, (μ2 x0 3)), (0, x1)] S μ2 (fun r7 μ7 => R32 r7 ∧ ((r7 = 0 → Ex G Φ 8 59 [some (2, x0), some (0, x1), some (0, x2), some (0, x3), some (0, x4), some (0, 0), some (0, 0), none] [] S μ7 0 0) ∧ (¬ (r7 = 0) → Q (-1000000003) μ7))))) ∧ (x3 = 0 → Q (-1000000002) μ2)))))))) ∧ (r2 = 0 → Q (-1000000001) μ2))))) : Ex G Φ 8 0 [some (2, x0), some (0, x1), some (0, x2), some (0, x3), some (0, x4), none, none, none] [] S μ 0 0 := by
  obtain ⟨o1, h⟩ := h
  refine ex_aload_n hΦ dX7_hidden_0 rfl o1.1 ?_
  refine ex_iload_n hΦ dX7_hidden_1 rfl ?_
  refine ex_callVi [(0, x1)] [(0, x1), (2, x0)] hΦ lkV_X7_142 ⟨by decide, by decide⟩ (Nat.le_of_ble_eq_true rfl) rfl (by decide) 7 (by decide) rfl o1 dX7_hidden_2 rfl h (fun r2 μ2 h => ?_)
  obtain ⟨o3, h⟩ := h
  refine ex_if_ne 11 hΦ dX7_hidden_5 (by decide) o3 (fun c => ?_) (fun c => ?_)
  · have h := h.1 c
    refine ex_iload_n hΦ dX7_hidden_11 rfl ?_
    obtain ⟨o4, h⟩ := h
    refine ex_if_lt 36 hΦ dX7_hidden_12 (by decide) o4 (fun c => ?_) (fun c => ?_)
    · have h := h.1 c
      refine ex_ldc hΦ dX7_hidden_36 qw380 ?_
      exact ex_returni hΦ hR dX7_hidden_38 h
    · have h := h.2 c
      refine ex_iload_n hΦ dX7_hidden_15 rfl ?_
      refine ex_iconst hΦ dX7_hidden_16 ?_
      refine ex_icmp_gt 36 hΦ dX7_hidden_17 (by decide) o4 ⟨by decide, by decide⟩ (fun c => ?_) (fun c => ?_)
      · have h := h.1 c
        refine ex_ldc hΦ dX7_hidden_36 qw380 ?_
        exact ex_returni hΦ hR dX7_hidden_38 h
      · have h := h.2 c
        refine ex_iload_n hΦ dX7_hidden_20 rfl ?_
        refine ex_bipush hΦ dX7_hidden_21 (by decide) ?_
        obtain ⟨o5, h⟩ := h
        refine ex_icmp_lt 36 hΦ dX7_hidden_23 (by decide) o5 ⟨by decide, by decide⟩ (fun c => ?_) (fun c => ?_)
        · have h := h.1 c
          refine ex_ldc hΦ dX7_hidden_36 qw380 ?_
          exact ex_returni hΦ hR dX7_hidden_38 h
        · have h := h.2 c
          refine ex_iload_n hΦ dX7_hidden_26 rfl ?_
          refine ex_bipush hΦ dX7_hidden_27 (by decide) ?_
          refine ex_icmp_gt 36 hΦ dX7_hidden_29 (by decide) o5 ⟨by decide, by decide⟩ (fun c => ?_) (fun c => ?_)
          · have h := h.1 c
            refine ex_ldc hΦ dX7_hidden_36 qw380 ?_
            exact ex_returni hΦ hR dX7_hidden_38 h
          · have h := h.2 c
            refine ex_iload_n hΦ dX7_hidden_32 rfl ?_
            refine ex_if_ne 39 hΦ dX7_hidden_33 (by decide) o5 (fun c => ?_) (fun c => ?_)
            · have h := h.1 c
              refine ex_aload_n hΦ dX7_hidden_39 rfl o1.1 ?_
              refine ex_getf hΦ fl_X7_29 o1 dX7_hidden_40 ?_
              refine ex_iload_n hΦ dX7_hidden_43 rfl ?_
              obtain ⟨o6, h⟩ := h
              refine ex_callVi [(0, x1)] [(0, x1), (2, (μ2 x0 3))] hΦ lkV_X7_240 ⟨by decide, by decide⟩ (Nat.le_of_ble_eq_true rfl) rfl (by decide) 3 (by decide) rfl o6 dX7_hidden_44 rfl h (fun r7 μ7 h => ?_)
              obtain ⟨o8, h⟩ := h
              refine ex_if_eq 53 hΦ dX7_hidden_47 (by decide) o8 (fun c => ?_) (fun c => ?_)
              · have h := h.1 c
                refine ex_iconst hΦ dX7_hidden_53 ?_
                refine ex_istore (L' := [some (2, x0), some (0, x1), some (0, x2), some (0, x3), some (0, x4), some (0, 0), none, none]) hΦ dX7_hidden_54 (by decide) rfl ?_
                refine ex_iconst hΦ dX7_hidden_56 ?_
                refine ex_istore (L' := [some (2, x0), some (0, x1), some (0, x2), some (0, x3), some (0, x4), some (0, 0), some (0, 0), none]) hΦ dX7_hidden_57 (by decide) rfl ?_
                exact h
              · have h := h.2 c
                refine ex_ldc hΦ dX7_hidden_50 qw581 ?_
                exact ex_returni hΦ hR dX7_hidden_52 h
            · have h := h.2 c
              refine ex_ldc hΦ dX7_hidden_36 qw380 ?_
              exact ex_returni hΦ hR dX7_hidden_38 h
  · have h := h.2 c
    refine ex_ldc hΦ dX7_hidden_8 qw551 ?_
    exact ex_returni hΦ hR dX7_hidden_10 h
theorem eX7_stood {G : Gm} {S : List Sh} {μ : Mem} {Q : Int → Mem → Prop} {x0 x1 x2 x3 : Int} (h : ∀ Φ : Fr, St G Φ cX7_stood RX7 4 1 23 0 0 → Rt G Φ (Pi S Q) 0 0 (some .int) → Ex G Φ 4 0 [some (2, x0), some (0, x1), some (0, x2), some (0, x3)] [] S μ 0 0) : Ci G mX7_stood [(2, x0), (0, x1), (0, x2), (0, x3)] S μ Q :=
  call_of' (plainFor_of_name (by decide +kernel)) [some (2, x0), some (0, x1), some (0, x2), some (0, x3)] rfl (Nat.le_of_ble_eq_true rfl) (fun Φ hΦ hR => h Φ hΦ hR)
theorem bX7_stood_0 {G : Gm} {Φ : Fr} {S : List Sh} {μ : Mem} {Q : Int → Mem → Prop} (hΦ : St G Φ cX7_stood RX7 4 1 23 0 0) (hR : Rt G Φ (Pi S Q) 0 0 (some .int)) {x0 x1 x2 x3 : Int} (h : So S x0 (.inl 7) ∧ (Ci G mX7_hasWheel [(2, x0), (0, x1)] S μ (fun r2 μ2 => R32 r2 ∧ ((r2 ≠ 0 → R32 x2 ∧ ((x2 < 0 → Q (-1000000002) μ2) ∧ (¬ (x2 < 0) → (999 < x2 → Q (-1000000002) μ2) ∧ (¬ (999 < x2) → R32 x3 ∧ ((x3 < 0 → Q (-1000000002) μ2) ∧ (¬ (x3 < 0) → (x3 ≤ 29 → So S (μ2 x0 8) (.inl 2) ∧ Ci G mX2_put [(2, (μ2 x0 8)), (0, x1), (0, x2), (0, x3)] S μ2 (fun r7 μ7 => Q r7 μ7)) ∧ (¬ (x3 ≤ 29) → Q (-1000000002) μ2))))))) ∧ (r2 = 0 → Q (-1000000001) μ2))))) : Ex G Φ 4 0 [some (2, x0), some (0, x1), some (0, x2), some (0, x3)] [] S μ 0 0 := by
  obtain ⟨o1, h⟩ := h
  refine ex_aload_n hΦ dX7_stood_0 rfl o1.1 ?_
  refine ex_iload_n hΦ dX7_stood_1 rfl ?_
  refine ex_callVi [(0, x1)] [(0, x1), (2, x0)] hΦ lkV_X7_142 ⟨by decide, by decide⟩ (Nat.le_of_ble_eq_true rfl) rfl (by decide) 7 (by decide) rfl o1 dX7_stood_2 rfl h (fun r2 μ2 h => ?_)
  obtain ⟨o3, h⟩ := h
  refine ex_if_ne 11 hΦ dX7_stood_5 (by decide) o3 (fun c => ?_) (fun c => ?_)
  · have h := h.1 c
    refine ex_iload_n hΦ dX7_stood_11 rfl ?_
    obtain ⟨o4, h⟩ := h
    refine ex_if_lt 32 hΦ dX7_stood_12 (by decide) o4 (fun c => ?_) (fun c => ?_)
    · have h := h.1 c
      refine ex_ldc hΦ dX7_stood_32 qw380 ?_
      exact ex_returni hΦ hR dX7_stood_34 h
    · have h := h.2 c
      refine ex_iload_n hΦ dX7_stood_15 rfl ?_
      refine ex_sipush hΦ dX7_stood_16 (by decide) ?_
      refine ex_icmp_gt 32 hΦ dX7_stood_19 (by decide) o4 ⟨by decide, by decide⟩ (fun c => ?_) (fun c => ?_)
      · have h := h.1 c
        refine ex_ldc hΦ dX7_stood_32 qw380 ?_
        exact ex_returni hΦ hR dX7_stood_34 h
      · have h := h.2 c
        refine ex_iload_n hΦ dX7_stood_22 rfl ?_
        obtain ⟨o5, h⟩ := h
        refine ex_if_lt 32 hΦ dX7_stood_23 (by decide) o5 (fun c => ?_) (fun c => ?_)
        · have h := h.1 c
          refine ex_ldc hΦ dX7_stood_32 qw380 ?_
          exact ex_returni hΦ hR dX7_stood_34 h
        · have h := h.2 c
          refine ex_iload_n hΦ dX7_stood_26 rfl ?_
          refine ex_bipush hΦ dX7_stood_27 (by decide) ?_
          refine ex_icmp_le 35 hΦ dX7_stood_29 (by decide) o5 ⟨by decide, by decide⟩ (fun c => ?_) (fun c => ?_)
          · have h := h.1 c
            refine ex_aload_n hΦ dX7_stood_35 rfl o1.1 ?_
            refine ex_getf hΦ fl_X7_61 o1 dX7_stood_36 ?_
            refine ex_iload_n hΦ dX7_stood_39 rfl ?_
            refine ex_iload_n hΦ dX7_stood_40 rfl ?_
            refine ex_iload_n hΦ dX7_stood_41 rfl ?_
            obtain ⟨o6, h⟩ := h
            refine ex_callVi [(0, x1), (0, x2), (0, x3)] [(0, x3), (0, x2), (0, x1), (2, (μ2 x0 8))] hΦ lkV_X7_268 ⟨by decide, by decide⟩ (Nat.le_of_ble_eq_true rfl) rfl (by decide) 2 (by decide) rfl o6 dX7_stood_42 rfl h (fun r7 μ7 h => ?_)
            exact ex_returni hΦ hR dX7_stood_45 h
          · have h := h.2 c
            refine ex_ldc hΦ dX7_stood_32 qw380 ?_
            exact ex_returni hΦ hR dX7_stood_34 h
  · have h := h.2 c
    refine ex_ldc hΦ dX7_stood_8 qw551 ?_
    exact ex_returni hΦ hR dX7_stood_10 h
theorem eX7_teeth {G : Gm} {S : List Sh} {μ : Mem} {Q : Int → Mem → Prop} {x0 x1 x2 : Int} (h : ∀ Φ : Fr, St G Φ cX7_teeth RX7 3 7 164 0 0 → Rt G Φ (Pi S Q) 0 0 (some .int) → Ex G Φ 3 0 [some (2, x0), some (0, x1), some (0, x2)] [] S μ 0 0) : Ci G mX7_teeth [(2, x0), (0, x1), (0, x2)] S μ Q :=
  call_of' (plainFor_of_name (by decide +kernel)) [some (2, x0), some (0, x1), some (0, x2)] rfl (Nat.le_of_ble_eq_true rfl) (fun Φ hΦ hR => h Φ hΦ hR)
theorem bX7_teeth_0 {G : Gm} {Φ : Fr} {S : List Sh} {μ : Mem} {Q : Int → Mem → Prop} (hΦ : St G Φ cX7_teeth RX7 3 7 164 0 0) (hR : Rt G Φ (Pi S Q) 0 0 (some .int)) {x0 x1 x2 : Int} (h : So S x0 (.inl 7) ∧ (Ci G mX7_hasWheel [(2, x0), (0, x1)] S μ (fun r2 μ2 => R32 r2 ∧ ((r2 ≠ 0 → Ci G mX7_teethThatFit [(2, x0), (0, x1)] S μ2 (fun r4 μ4 => Ci G mX7_howManyOrOne [(0, r4), (0, x2)] S μ4 (fun r5 μ5 => Q r5 μ5))) ∧ (r2 = 0 → Q (-1000000001) μ2))))) : Ex G Φ 3 0 [some (2, x0), some (0, x1), some (0, x2)] [] S μ 0 0 := by
  obtain ⟨o1, h⟩ := h
  refine ex_aload_n hΦ dX7_teeth_0 rfl o1.1 ?_
  refine ex_iload_n hΦ dX7_teeth_1 rfl ?_
  refine ex_callVi [(0, x1)] [(0, x1), (2, x0)] hΦ lkV_X7_142 ⟨by decide, by decide⟩ (Nat.le_of_ble_eq_true rfl) rfl (by decide) 7 (by decide) rfl o1 dX7_teeth_2 rfl h (fun r2 μ2 h => ?_)
  obtain ⟨o3, h⟩ := h
  refine ex_if_ne 11 hΦ dX7_teeth_5 (by decide) o3 (fun c => ?_) (fun c => ?_)
  · have h := h.1 c
    refine ex_aload_n hΦ dX7_teeth_11 rfl o1.1 ?_
    refine ex_iload_n hΦ dX7_teeth_12 rfl ?_
    refine ex_callVi [(0, x1)] [(0, x1), (2, x0)] hΦ lkV_X7_272 ⟨by decide, by decide⟩ (Nat.le_of_ble_eq_true rfl) rfl (by decide) 7 (by decide) rfl o1 dX7_teeth_13 rfl h (fun r4 μ4 h => ?_)
    refine ex_iload_n hΦ dX7_teeth_16 rfl ?_
    refine ex_callSi [(0, r4), (0, x2)] [(0, x2), (0, r4)] hΦ lkS_X7_234 ⟨by decide, by decide⟩ (Nat.le_of_ble_eq_true rfl) rfl (by decide) dX7_teeth_17 rfl h (fun r5 μ5 h => ?_)
    exact ex_returni hΦ hR dX7_teeth_20 h
  · have h := h.2 c
    refine ex_ldc hΦ dX7_teeth_8 qw551 ?_
    exact ex_returni hΦ hR dX7_teeth_10 h
theorem bX7_look_28 {G : Gm} {Φ : Fr} {S : List Sh} {μ : Mem} {Q : Int → Mem → Prop} (hΦ : St G Φ cX7_look RX7 7 7 164 0 0) (hR : Rt G Φ (Pi S Q) 0 0 (some .int)) {x0 x1 x2 x3 x4 x5 : Int} (h : R32 x5 ∧ ((30 < x5 → Q x4 μ) ∧ (¬ (30 < x5) → So S x0 (.inl 7) ∧ (Ci G mX7_greatestPart [(2, x0), (0, x1), (0, x5), (0, x2)] S μ (fun r3 μ3 => R32 r3 ∧ (R32 x3 ∧ ((x3 ≤ r3 → Ex G Φ 7 28 [some (2, x0), some (0, x1), some (0, x2), some (0, x3), some (0, x4), some (0, (x5 + 1)), none] [] S μ3 0 0) ∧ (¬ (x3 ≤ r3) → Ex G Φ 7 28 [some (2, x0), some (0, x1), some (0, x2), some (0, r3), some (0, x5), some (0, (x5 + 1)), none] [] S μ3 0 0)))))))) : Ex G Φ 7 28 [some (2, x0), some (0, x1), some (0, x2), some (0, x3), some (0, x4), some (0, x5), none] [] S μ 0 0 := by
  refine ex_iload hΦ dX7_look_28 rfl ?_
  refine ex_bipush hΦ dX7_look_30 (by decide) ?_
  obtain ⟨o1, h⟩ := h
  refine ex_icmp_gt 64 hΦ dX7_look_32 (by decide) o1 ⟨by decide, by decide⟩ (fun c => ?_) (fun c => ?_)
  · have h := h.1 c
    refine ex_iload hΦ dX7_look_64 rfl ?_
    exact ex_returni hΦ hR dX7_look_66 h
  · have h := h.2 c
    obtain ⟨o2, h⟩ := h
    refine ex_aload_n hΦ dX7_look_35 rfl o2.1 ?_
    refine ex_iload_n hΦ dX7_look_36 rfl ?_
    refine ex_iload hΦ dX7_look_37 rfl ?_
    refine ex_iload_n hΦ dX7_look_39 rfl ?_
    refine ex_callVi [(0, x1), (0, x5), (0, x2)] [(0, x2), (0, x5), (0, x1), (2, x0)] hΦ lkV_X7_280 ⟨by decide, by decide⟩ (Nat.le_of_ble_eq_true rfl) rfl (by decide) 7 (by decide) rfl o2 dX7_look_40 rfl h (fun r3 μ3 h => ?_)
    refine ex_istore (L' := [some (2, x0), some (0, x1), some (0, x2), some (0, x3), some (0, x4), some (0, x5), some (0, r3)]) hΦ dX7_look_43 (by decide) rfl ?_
    refine ex_iload hΦ dX7_look_45 rfl ?_
    refine ex_iload_n hΦ dX7_look_47 rfl ?_
    obtain ⟨o4, h⟩ := h
    obtain ⟨o5, h⟩ := h
    refine ex_icmp_ge 58 hΦ dX7_look_48 (by decide) o4 o5 (fun c => ?_) (fun c => ?_)
    · have h := h.1 c
      refine ex_iinc (L' := [some (2, x0), some (0, x1), some (0, x2), some (0, x3), some (0, x4), some (0, (x5 + 1)), some (0, r3)]) hΦ dX7_look_58 rfl (by decide) rfl ?_
      refine ex_goto 28 hΦ dX7_look_61 (by decide) ?_
      refine ex_forget (L' := [some (2, x0), some (0, x1), some (0, x2), some (0, x3), some (0, x4), some (0, (x5 + 1)), none]) [6] rfl ?_
      exact h
    · have h := h.2 c
      refine ex_iload hΦ dX7_look_51 rfl ?_
      refine ex_istore_n (L' := [some (2, x0), some (0, x1), some (0, x2), some (0, r3), some (0, x4), some (0, x5), some (0, r3)]) hΦ dX7_look_53 (by decide) rfl ?_
      refine ex_iload hΦ dX7_look_54 rfl ?_
      refine ex_istore (L' := [some (2, x0), some (0, x1), some (0, x2), some (0, r3), some (0, x5), some (0, x5), some (0, r3)]) hΦ dX7_look_56 (by decide) rfl ?_
      refine ex_iinc (L' := [some (2, x0), some (0, x1), some (0, x2), some (0, r3), some (0, x5), some (0, (x5 + 1)), some (0, r3)]) hΦ dX7_look_58 rfl (by decide) rfl ?_
      refine ex_goto 28 hΦ dX7_look_61 (by decide) ?_
      refine ex_forget (L' := [some (2, x0), some (0, x1), some (0, x2), some (0, r3), some (0, x5), some (0, (x5 + 1)), none]) [6] rfl ?_
      exact h
theorem eX7_look {G : Gm} {S : List Sh} {μ : Mem} {Q : Int → Mem → Prop} {x0 x1 : Int} (h : ∀ Φ : Fr, St G Φ cX7_look RX7 7 7 164 0 0 → Rt G Φ (Pi S Q) 0 0 (some .int) → Ex G Φ 7 0 [some (2, x0), some (0, x1), none, none, none, none, none] [] S μ 0 0) : Ci G mX7_look [(2, x0), (0, x1)] S μ Q :=
  call_of' (plainFor_of_name (by decide +kernel)) [some (2, x0), some (0, x1), none, none, none, none, none] rfl (Nat.le_of_ble_eq_true rfl) (fun Φ hΦ hR => h Φ hΦ hR)
theorem bX7_look_0 {G : Gm} {Φ : Fr} {S : List Sh} {μ : Mem} {Q : Int → Mem → Prop} (hΦ : St G Φ cX7_look RX7 7 7 164 0 0) (hR : Rt G Φ (Pi S Q) 0 0 (some .int)) {x0 x1 : Int} (h : So S x0 (.inl 7) ∧ (Ci G mX7_hasWheel [(2, x0), (0, x1)] S μ (fun r2 μ2 => R32 r2 ∧ ((r2 ≠ 0 → Ci G mX7_teethThatFit [(2, x0), (0, x1)] S μ2 (fun r4 μ4 => Ci G mJ6_bitCount_0f7a4 [(0, r4)] S μ4 (fun r5 μ5 => Ex G Φ 7 28 [some (2, x0), some (0, x1), some (0, r4), some (0, r5), some (0, (-1)), some (0, 1), none] [] S μ5 0 0))) ∧ (r2 = 0 → Q (-1000000001) μ2))))) : Ex G Φ 7 0 [some (2, x0), some (0, x1), none, none, none, none, none] [] S μ 0 0 := by
  obtain ⟨o1, h⟩ := h
  refine ex_aload_n hΦ dX7_look_0 rfl o1.1 ?_
  refine ex_iload_n hΦ dX7_look_1 rfl ?_
  refine ex_callVi [(0, x1)] [(0, x1), (2, x0)] hΦ lkV_X7_142 ⟨by decide, by decide⟩ (Nat.le_of_ble_eq_true rfl) rfl (by decide) 7 (by decide) rfl o1 dX7_look_2 rfl h (fun r2 μ2 h => ?_)
  obtain ⟨o3, h⟩ := h
  refine ex_if_ne 11 hΦ dX7_look_5 (by decide) o3 (fun c => ?_) (fun c => ?_)
  · have h := h.1 c
    refine ex_aload_n hΦ dX7_look_11 rfl o1.1 ?_
    refine ex_iload_n hΦ dX7_look_12 rfl ?_
    refine ex_callVi [(0, x1)] [(0, x1), (2, x0)] hΦ lkV_X7_272 ⟨by decide, by decide⟩ (Nat.le_of_ble_eq_true rfl) rfl (by decide) 7 (by decide) rfl o1 dX7_look_13 rfl h (fun r4 μ4 h => ?_)
    refine ex_istore_n (L' := [some (2, x0), some (0, x1), some (0, r4), none, none, none, none]) hΦ dX7_look_16 (by decide) rfl ?_
    refine ex_iload_n hΦ dX7_look_17 rfl ?_
    refine ex_callSi [(0, r4)] [(0, r4)] hΦ lkS_X7_275 ⟨by decide, by decide⟩ (Nat.le_of_ble_eq_true rfl) rfl (by decide) dX7_look_18 rfl h (fun r5 μ5 h => ?_)
    refine ex_istore_n (L' := [some (2, x0), some (0, x1), some (0, r4), some (0, r5), none, none, none]) hΦ dX7_look_21 (by decide) rfl ?_
    refine ex_iconst hΦ dX7_look_22 ?_
    refine ex_istore (L' := [some (2, x0), some (0, x1), some (0, r4), some (0, r5), some (0, (-1)), none, none]) hΦ dX7_look_23 (by decide) rfl ?_
    refine ex_iconst hΦ dX7_look_25 ?_
    refine ex_istore (L' := [some (2, x0), some (0, x1), some (0, r4), some (0, r5), some (0, (-1)), some (0, 1), none]) hΦ dX7_look_26 (by decide) rfl ?_
    exact h
  · have h := h.2 c
    refine ex_ldc hΦ dX7_look_8 qw551 ?_
    exact ex_returni hΦ hR dX7_look_10 h
theorem eX7_write {G : Gm} {S : List Sh} {μ : Mem} {Q : Int → Mem → Prop} {x0 x1 x2 x3 : Int} (h : ∀ Φ : Fr, St G Φ cX7_write RX7 4 1 23 0 0 → Rt G Φ (Pi S Q) 0 0 (some .int) → Ex G Φ 4 0 [some (2, x0), some (0, x1), some (0, x2), some (0, x3)] [] S μ 0 0) : Ci G mX7_write [(2, x0), (0, x1), (0, x2), (0, x3)] S μ Q :=
  call_of' (plainFor_of_name (by decide +kernel)) [some (2, x0), some (0, x1), some (0, x2), some (0, x3)] rfl (Nat.le_of_ble_eq_true rfl) (fun Φ hΦ hR => h Φ hΦ hR)
theorem bX7_write_0 {G : Gm} {Φ : Fr} {S : List Sh} {μ : Mem} {Q : Int → Mem → Prop} (hΦ : St G Φ cX7_write RX7 4 1 23 0 0) (hR : Rt G Φ (Pi S Q) 0 0 (some .int)) {x0 x1 x2 x3 : Int} (h : So S x0 (.inl 7) ∧ (Ci G mX7_hasWheel [(2, x0), (0, x1)] S μ (fun r2 μ2 => R32 r2 ∧ ((r2 ≠ 0 → R32 x2 ∧ ((x2 < 0 → Q (-1000000002) μ2) ∧ (¬ (x2 < 0) → (99999 < x2 → Q (-1000000002) μ2) ∧ (¬ (99999 < x2) → R32 x3 ∧ ((x3 < 0 → Q (-1000000002) μ2) ∧ (¬ (x3 < 0) → (x3 ≤ 29 → So S (μ2 x0 9) (.inl 2) ∧ Ci G mX2_put [(2, (μ2 x0 9)), (0, x1), (0, x2), (0, x3)] S μ2 (fun r7 μ7 => Q r7 μ7)) ∧ (¬ (x3 ≤ 29) → Q (-1000000002) μ2))))))) ∧ (r2 = 0 → Q (-1000000001) μ2))))) : Ex G Φ 4 0 [some (2, x0), some (0, x1), some (0, x2), some (0, x3)] [] S μ 0 0 := by
  obtain ⟨o1, h⟩ := h
  refine ex_aload_n hΦ dX7_write_0 rfl o1.1 ?_
  refine ex_iload_n hΦ dX7_write_1 rfl ?_
  refine ex_callVi [(0, x1)] [(0, x1), (2, x0)] hΦ lkV_X7_142 ⟨by decide, by decide⟩ (Nat.le_of_ble_eq_true rfl) rfl (by decide) 7 (by decide) rfl o1 dX7_write_2 rfl h (fun r2 μ2 h => ?_)
  obtain ⟨o3, h⟩ := h
  refine ex_if_ne 11 hΦ dX7_write_5 (by decide) o3 (fun c => ?_) (fun c => ?_)
  · have h := h.1 c
    refine ex_iload_n hΦ dX7_write_11 rfl ?_
    obtain ⟨o4, h⟩ := h
    refine ex_if_lt 31 hΦ dX7_write_12 (by decide) o4 (fun c => ?_) (fun c => ?_)
    · have h := h.1 c
      refine ex_ldc hΦ dX7_write_31 qw380 ?_
      exact ex_returni hΦ hR dX7_write_33 h
    · have h := h.2 c
      refine ex_iload_n hΦ dX7_write_15 rfl ?_
      refine ex_ldc hΦ dX7_write_16 qw576 ?_
      refine ex_icmp_gt 31 hΦ dX7_write_18 (by decide) o4 ⟨by decide, by decide⟩ (fun c => ?_) (fun c => ?_)
      · have h := h.1 c
        refine ex_ldc hΦ dX7_write_31 qw380 ?_
        exact ex_returni hΦ hR dX7_write_33 h
      · have h := h.2 c
        refine ex_iload_n hΦ dX7_write_21 rfl ?_
        obtain ⟨o5, h⟩ := h
        refine ex_if_lt 31 hΦ dX7_write_22 (by decide) o5 (fun c => ?_) (fun c => ?_)
        · have h := h.1 c
          refine ex_ldc hΦ dX7_write_31 qw380 ?_
          exact ex_returni hΦ hR dX7_write_33 h
        · have h := h.2 c
          refine ex_iload_n hΦ dX7_write_25 rfl ?_
          refine ex_bipush hΦ dX7_write_26 (by decide) ?_
          refine ex_icmp_le 34 hΦ dX7_write_28 (by decide) o5 ⟨by decide, by decide⟩ (fun c => ?_) (fun c => ?_)
          · have h := h.1 c
            refine ex_aload_n hΦ dX7_write_34 rfl o1.1 ?_
            refine ex_getf hΦ fl_X7_65 o1 dX7_write_35 ?_
            refine ex_iload_n hΦ dX7_write_38 rfl ?_
            refine ex_iload_n hΦ dX7_write_39 rfl ?_
            refine ex_iload_n hΦ dX7_write_40 rfl ?_
            obtain ⟨o6, h⟩ := h
            refine ex_callVi [(0, x1), (0, x2), (0, x3)] [(0, x3), (0, x2), (0, x1), (2, (μ2 x0 9))] hΦ lkV_X7_268 ⟨by decide, by decide⟩ (Nat.le_of_ble_eq_true rfl) rfl (by decide) 2 (by decide) rfl o6 dX7_write_41 rfl h (fun r7 μ7 h => ?_)
            exact ex_returni hΦ hR dX7_write_44 h
          · have h := h.2 c
            refine ex_ldc hΦ dX7_write_31 qw380 ?_
            exact ex_returni hΦ hR dX7_write_33 h
  · have h := h.2 c
    refine ex_ldc hΦ dX7_write_8 qw551 ?_
    exact ex_returni hΦ hR dX7_write_10 h
theorem bX7_judge_2 {G : Gm} {Φ : Fr} {S : List Sh} {μ : Mem} {Q : Int → Mem → Prop} (hΦ : St G Φ cX7_judge RX7 2 4 95 0 0) (hR : Rt G Φ (Pi S Q) 0 0 (some .int)) {x0 x1 : Int} (h : So S x0 (.inl 7) ∧ (So S (μ x0 9) (.inl 2) ∧ (R32 x1 ∧ (R32 (μ (μ x0 9) 3) ∧ (((μ (μ x0 9) 3) ≤ x1 → Q (-1) μ) ∧ (¬ ((μ (μ x0 9) 3) ≤ x1) → Ai S (μ (μ x0 9) 0) 0 x1 ∧ (Ai S (μ (μ x0 9) 1) 0 x1 ∧ (Ci G mX7_placeIn [(2, x0), (0, (μ (μ (μ x0 9) 0) x1)), (0, (μ (μ (μ x0 9) 1) x1))] S μ (fun r7 μ7 => So S (μ7 x0 9) (.inl 2) ∧ (Ai S (μ7 (μ7 x0 9) 2) 0 x1 ∧ (R32 r7 ∧ (R32 (μ7 (μ7 (μ7 x0 9) 2) x1) ∧ ((r7 = (μ7 (μ7 (μ7 x0 9) 2) x1) → Ex G Φ 2 2 [some (2, x0), some (0, (x1 + 1))] [] S μ7 0 0) ∧ (¬ (r7 = (μ7 (μ7 (μ7 x0 9) 2) x1)) → Q x1 μ7)))))))))))))) : Ex G Φ 2 2 [some (2, x0), some (0, x1)] [] S μ 0 0 := by
  refine ex_iload_n hΦ dX7_judge_2 rfl ?_
  obtain ⟨o1, h⟩ := h
  refine ex_aload_n hΦ dX7_judge_3 rfl o1.1 ?_
  refine ex_getf hΦ fl_X7_65 o1 dX7_judge_4 ?_
  obtain ⟨o2, h⟩ := h
  refine ex_getf hΦ fl_X7_132 o2 dX7_judge_7 ?_
  obtain ⟨o3, h⟩ := h
  obtain ⟨o4, h⟩ := h
  refine ex_icmp_ge 55 hΦ dX7_judge_10 (by decide) o3 o4 (fun c => ?_) (fun c => ?_)
  · have h := h.1 c
    refine ex_iconst hΦ dX7_judge_55 ?_
    exact ex_returni hΦ hR dX7_judge_56 h
  · have h := h.2 c
    refine ex_aload_n hΦ dX7_judge_13 rfl o1.1 ?_
    refine ex_aload_n hΦ dX7_judge_14 rfl o1.1 ?_
    refine ex_getf hΦ fl_X7_65 o1 dX7_judge_15 ?_
    refine ex_getf hΦ fl_X7_283 o2 dX7_judge_18 ?_
    refine ex_iload_n hΦ dX7_judge_21 rfl ?_
    obtain ⟨o5, h⟩ := h
    refine ex_iald' hΦ o5 dX7_judge_22 ?_
    refine ex_aload_n hΦ dX7_judge_23 rfl o1.1 ?_
    refine ex_getf hΦ fl_X7_65 o1 dX7_judge_24 ?_
    refine ex_getf hΦ fl_X7_285 o2 dX7_judge_27 ?_
    refine ex_iload_n hΦ dX7_judge_30 rfl ?_
    obtain ⟨o6, h⟩ := h
    refine ex_iald' hΦ o6 dX7_judge_31 ?_
    refine ex_callVi [(0, (μ (μ (μ x0 9) 0) x1)), (0, (μ (μ (μ x0 9) 1) x1))] [(0, (μ (μ (μ x0 9) 1) x1)), (0, (μ (μ (μ x0 9) 0) x1)), (2, x0)] hΦ lkV_X7_150 ⟨by decide, by decide⟩ (Nat.le_of_ble_eq_true rfl) rfl (by decide) 7 (by decide) rfl o1 dX7_judge_32 rfl h (fun r7 μ7 h => ?_)
    refine ex_aload_n hΦ dX7_judge_35 rfl o1.1 ?_
    refine ex_getf hΦ fl_X7_65 o1 dX7_judge_36 ?_
    obtain ⟨o8, h⟩ := h
    refine ex_getf hΦ fl_X7_288 o8 dX7_judge_39 ?_
    refine ex_iload_n hΦ dX7_judge_42 rfl ?_
    obtain ⟨o9, h⟩ := h
    refine ex_iald' hΦ o9 dX7_judge_43 ?_
    obtain ⟨o10, h⟩ := h
    obtain ⟨o11, h⟩ := h
    refine ex_icmp_eq 49 hΦ dX7_judge_44 (by decide) o10 o11 (fun c => ?_) (fun c => ?_)
    · have h := h.1 c
      refine ex_iinc (L' := [some (2, x0), some (0, (x1 + 1))]) hΦ dX7_judge_49 rfl (by decide) rfl ?_
      refine ex_goto 2 hΦ dX7_judge_52 (by decide) ?_
      exact h
    · have h := h.2 c
      refine ex_iload_n hΦ dX7_judge_47 rfl ?_
      exact ex_returni hΦ hR dX7_judge_48 h
theorem eX7_judge {G : Gm} {S : List Sh} {μ : Mem} {Q : Int → Mem → Prop} {x0 : Int} (h : ∀ Φ : Fr, St G Φ cX7_judge RX7 2 4 95 0 0 → Rt G Φ (Pi S Q) 0 0 (some .int) → Ex G Φ 2 0 [some (2, x0), none] [] S μ 0 0) : Ci G mX7_judge [(2, x0)] S μ Q :=
  call_of' (plainFor_of_name (by decide +kernel)) [some (2, x0), none] rfl (Nat.le_of_ble_eq_true rfl) (fun Φ hΦ hR => h Φ hΦ hR)
theorem bX7_judge_0 {G : Gm} {Φ : Fr} {S : List Sh} {μ : Mem} {Q : Int → Mem → Prop} (hΦ : St G Φ cX7_judge RX7 2 4 95 0 0) (hR : Rt G Φ (Pi S Q) 0 0 (some .int)) {x0 : Int} (h : Ex G Φ 2 2 [some (2, x0), some (0, 0)] [] S μ 0 0) : Ex G Φ 2 0 [some (2, x0), none] [] S μ 0 0 := by
  refine ex_iconst hΦ dX7_judge_0 ?_
  refine ex_istore_n (L' := [some (2, x0), some (0, 0)]) hΦ dX7_judge_1 (by decide) rfl ?_
  exact h
theorem eX7_tear {G : Gm} {S : List Sh} {μ : Mem} {Q : Int → Mem → Prop} {x0 : Int} (h : ∀ Φ : Fr, St G Φ cX7_tear RX7 2 0 0 0 0 → Rt G Φ (Pi S Q) 0 0 (some .int) → Ex G Φ 2 0 [some (2, x0), none] [] S μ 0 0) : Ci G mX7_tear [(2, x0)] S μ Q :=
  call_of' (plainFor_of_name (by decide +kernel)) [some (2, x0), none] rfl (Nat.le_of_ble_eq_true rfl) (fun Φ hΦ hR => h Φ hΦ hR)
theorem bX7_tear_0 {G : Gm} {Φ : Fr} {S : List Sh} {μ : Mem} {Q : Int → Mem → Prop} (hΦ : St G Φ cX7_tear RX7 2 0 0 0 0) (hR : Rt G Φ (Pi S Q) 0 0 (some .int)) {x0 : Int} (h : So S x0 (.inl 7) ∧ (So S (μ x0 8) (.inl 2) ∧ (So S (μ x0 9) (.inl 2) ∧ (∀ m4 : Mem, m4 = mu μ (μ x0 8) 3 0 → (So S (m4 x0 9) (.inl 2) ∧ (∀ m6 : Mem, m6 = mu m4 (m4 x0 9) 3 0 → (Q ((μ (μ x0 8) 3) + (μ (μ x0 9) 3)) m6))))))) : Ex G Φ 2 0 [some (2, x0), none] [] S μ 0 0 := by
  obtain ⟨o1, h⟩ := h
  refine ex_aload_n hΦ dX7_tear_0 rfl o1.1 ?_
  refine ex_getf hΦ fl_X7_61 o1 dX7_tear_1 ?_
  obtain ⟨o2, h⟩ := h
  refine ex_getf hΦ fl_X7_132 o2 dX7_tear_4 ?_
  refine ex_aload_n hΦ dX7_tear_7 rfl o1.1 ?_
  refine ex_getf hΦ fl_X7_65 o1 dX7_tear_8 ?_
  obtain ⟨o3, h⟩ := h
  refine ex_getf hΦ fl_X7_132 o3 dX7_tear_11 ?_
  refine ex_iadd hΦ dX7_tear_14 ?_
  refine ex_istore_n (L' := [some (2, x0), some (0, ((μ (μ x0 8) 3) + (μ (μ x0 9) 3)))]) hΦ dX7_tear_15 (by decide) rfl ?_
  refine ex_aload_n hΦ dX7_tear_16 rfl o1.1 ?_
  refine ex_getf hΦ fl_X7_61 o1 dX7_tear_17 ?_
  refine ex_iconst hΦ dX7_tear_20 ?_
  obtain ⟨m4, hm4⟩ : ∃ m : Mem, m = mu μ (μ x0 8) 3 0 := ⟨_, rfl⟩
  have h := h m4 hm4
  refine ex_putf' hΦ fl_X7_132 o2 rfl rfl dX7_tear_21 hm4 ?_
  refine ex_aload_n hΦ dX7_tear_24 rfl o1.1 ?_
  refine ex_getf hΦ fl_X7_65 o1 dX7_tear_25 ?_
  refine ex_iconst hΦ dX7_tear_28 ?_
  obtain ⟨o5, h⟩ := h
  obtain ⟨m6, hm6⟩ : ∃ m : Mem, m = mu m4 (m4 x0 9) 3 0 := ⟨_, rfl⟩
  have h := h m6 hm6
  refine ex_putf' hΦ fl_X7_132 o5 rfl rfl dX7_tear_29 hm6 ?_
  refine ex_iload_n hΦ dX7_tear_32 rfl ?_
  exact ex_returni hΦ hR dX7_tear_33 h
theorem eX7_seed {G : Gm} {S : List Sh} {μ : Mem} {Q : Int → Mem → Prop} {x0 x1 : Int} (h : ∀ Φ : Fr, St G Φ cX7_seed RX7 3 0 0 0 0 → Rt G Φ (Pi S Q) 0 0 (some .int) → Ex G Φ 3 0 [some (2, x0), some (0, x1), none] [] S μ 0 0) : Ci G mX7_seed [(2, x0), (0, x1)] S μ Q :=
  call_of' (plainFor_of_name (by decide +kernel)) [some (2, x0), some (0, x1), none] rfl (Nat.le_of_ble_eq_true rfl) (fun Φ hΦ hR => h Φ hΦ hR)
theorem bX7_seed_0 {G : Gm} {Φ : Fr} {S : List Sh} {μ : Mem} {Q : Int → Mem → Prop} (hΦ : St G Φ cX7_seed RX7 3 0 0 0 0) (hR : Rt G Φ (Pi S Q) 0 0 (some .int)) {x0 x1 : Int} (h : R32 x1 ∧ ((0 ≤ x1 → So S x0 (.inl 7) ∧ (∀ m3 : Mem, m3 = mu μ x0 12 x1 → (Q (μ x0 12) m3))) ∧ (¬ (0 ≤ x1) → Q (-1000000002) μ))) : Ex G Φ 3 0 [some (2, x0), some (0, x1), none] [] S μ 0 0 := by
  refine ex_iload_n hΦ dX7_seed_0 rfl ?_
  obtain ⟨o1, h⟩ := h
  refine ex_if_ge 7 hΦ dX7_seed_1 (by decide) o1 (fun c => ?_) (fun c => ?_)
  · have h := h.1 c
    obtain ⟨o2, h⟩ := h
    refine ex_aload_n hΦ dX7_seed_7 rfl o2.1 ?_
    refine ex_getf hΦ fl_X7_289 o2 dX7_seed_8 ?_
    refine ex_istore_n (L' := [some (2, x0), some (0, x1), some (0, (μ x0 12))]) hΦ dX7_seed_11 (by decide) rfl ?_
    refine ex_aload_n hΦ dX7_seed_12 rfl o2.1 ?_
    refine ex_iload_n hΦ dX7_seed_13 rfl ?_
    obtain ⟨m3, hm3⟩ : ∃ m : Mem, m = mu μ x0 12 x1 := ⟨_, rfl⟩
    have h := h m3 hm3
    refine ex_putf' hΦ fl_X7_289 o2 rfl rfl dX7_seed_14 hm3 ?_
    refine ex_iload_n hΦ dX7_seed_17 rfl ?_
    exact ex_returni hΦ hR dX7_seed_18 h
  · have h := h.2 c
    refine ex_ldc hΦ dX7_seed_4 qw380 ?_
    exact ex_returni hΦ hR dX7_seed_6 h
theorem eX7_keep {G : Gm} {S : List Sh} {μ : Mem} {Q : Int → Mem → Prop} {x0 x1 : Int} (h : ∀ Φ : Fr, St G Φ cX7_keep RX7 2 2 47 0 0 → Rt G Φ (Pi S Q) 0 0 (some .int) → Ex G Φ 2 0 [some (2, x0), some (0, x1)] [] S μ 0 0) : Ci G mX7_keep [(2, x0), (0, x1)] S μ Q :=
  call_of' (plainFor_of_name (by decide +kernel)) [some (2, x0), some (0, x1)] rfl (Nat.le_of_ble_eq_true rfl) (fun Φ hΦ hR => h Φ hΦ hR)
theorem bX7_keep_0 {G : Gm} {Φ : Fr} {S : List Sh} {μ : Mem} {Q : Int → Mem → Prop} (hΦ : St G Φ cX7_keep RX7 2 2 47 0 0) (hR : Rt G Φ (Pi S Q) 0 0 (some .int)) {x0 x1 : Int} (h : R32 x1 ∧ ((x1 < 0 → Q (-1000000001) μ) ∧ (¬ (x1 < 0) → (x1 < 2 → So S x0 (.inl 7) ∧ (Ai S (μ x0 7) 4 x1 ∧ (So S (μ (μ x0 7) x1) (.inl 1) ∧ (So S (μ (μ (μ x0 7) x1) 0) (.inl 5) ∧ (Cv G mX5_become [(2, (μ (μ (μ x0 7) x1) 0)), (2, (μ x0 5))] S μ (fun μ6 => Ai S (μ6 x0 7) 4 x1 ∧ (So S (μ6 (μ6 x0 7) x1) (.inl 1) ∧ (∀ m9 : Mem, m9 = mu μ6 (μ6 (μ6 x0 7) x1) 1 (μ6 x0 12) → (Ai S (m9 x0 7) 4 x1 ∧ (So S (m9 (m9 x0 7) x1) (.inl 1) ∧ (∀ m12 : Mem, m12 = mu m9 (m9 (m9 x0 7) x1) 2 1 → (So S (m12 x0 6) (.inl 0) ∧ (∀ m14 : Mem, m14 = mu m12 (m12 x0 6) 2 0 → (Q 1 m14)))))))))))))) ∧ (¬ (x1 < 2) → Q (-1000000001) μ)))) : Ex G Φ 2 0 [some (2, x0), some (0, x1)] [] S μ 0 0 := by
  refine ex_iload_n hΦ dX7_keep_0 rfl ?_
  obtain ⟨o1, h⟩ := h
  refine ex_if_lt 9 hΦ dX7_keep_1 (by decide) o1 (fun c => ?_) (fun c => ?_)
  · have h := h.1 c
    refine ex_ldc hΦ dX7_keep_9 qw551 ?_
    exact ex_returni hΦ hR dX7_keep_11 h
  · have h := h.2 c
    refine ex_iload_n hΦ dX7_keep_4 rfl ?_
    refine ex_iconst hΦ dX7_keep_5 ?_
    refine ex_icmp_lt 12 hΦ dX7_keep_6 (by decide) o1 ⟨by decide, by decide⟩ (fun c => ?_) (fun c => ?_)
    · have h := h.1 c
      obtain ⟨o2, h⟩ := h
      refine ex_aload_n hΦ dX7_keep_12 rfl o2.1 ?_
      refine ex_getf hΦ fl_X7_52 o2 dX7_keep_13 ?_
      refine ex_iload_n hΦ dX7_keep_16 rfl ?_
      obtain ⟨o3, h⟩ := h
      refine ex_aald4' hΦ o3 dX7_keep_17 ?_
      obtain ⟨o4, h⟩ := h
      refine ex_getf hΦ fl_X7_292 o4 dX7_keep_18 ?_
      refine ex_aload_n hΦ dX7_keep_21 rfl o2.1 ?_
      refine ex_getf hΦ fl_X7_39 o2 dX7_keep_22 ?_
      obtain ⟨o5, h⟩ := h
      refine ex_callVv [(2, (μ x0 5))] [(2, (μ x0 5)), (2, (μ (μ (μ x0 7) x1) 0))] hΦ lkV_X7_295 ⟨by decide, by decide⟩ (Nat.le_of_ble_eq_true rfl) rfl (by decide) 5 (by decide) rfl o5 dX7_keep_25 rfl h (fun μ6 h => ?_)
      refine ex_aload_n hΦ dX7_keep_28 rfl o2.1 ?_
      refine ex_getf hΦ fl_X7_52 o2 dX7_keep_29 ?_
      refine ex_iload_n hΦ dX7_keep_32 rfl ?_
      obtain ⟨o7, h⟩ := h
      refine ex_aald4' hΦ o7 dX7_keep_33 ?_
      refine ex_aload_n hΦ dX7_keep_34 rfl o2.1 ?_
      refine ex_getf hΦ fl_X7_289 o2 dX7_keep_35 ?_
      obtain ⟨o8, h⟩ := h
      obtain ⟨m9, hm9⟩ : ∃ m : Mem, m = mu μ6 (μ6 (μ6 x0 7) x1) 1 (μ6 x0 12) := ⟨_, rfl⟩
      have h := h m9 hm9
      refine ex_putf' hΦ fl_X7_298 o8 rfl rfl dX7_keep_38 hm9 ?_
      refine ex_aload_n hΦ dX7_keep_41 rfl o2.1 ?_
      refine ex_getf hΦ fl_X7_52 o2 dX7_keep_42 ?_
      refine ex_iload_n hΦ dX7_keep_45 rfl ?_
      obtain ⟨o10, h⟩ := h
      refine ex_aald4' hΦ o10 dX7_keep_46 ?_
      refine ex_iconst hΦ dX7_keep_47 ?_
      obtain ⟨o11, h⟩ := h
      obtain ⟨m12, hm12⟩ : ∃ m : Mem, m = mu m9 (m9 (m9 x0 7) x1) 2 1 := ⟨_, rfl⟩
      have h := h m12 hm12
      refine ex_putz' hΦ fl_X7_299 o11 rfl rfl (by decide) (by decide) dX7_keep_48 hm12 ?_
      refine ex_aload_n hΦ dX7_keep_51 rfl o2.1 ?_
      refine ex_getf hΦ fl_X7_46 o2 dX7_keep_52 ?_
      refine ex_iconst hΦ dX7_keep_55 ?_
      obtain ⟨o13, h⟩ := h
      obtain ⟨m14, hm14⟩ : ∃ m : Mem, m = mu m12 (m12 x0 6) 2 0 := ⟨_, rfl⟩
      have h := h m14 hm14
      refine ex_putf' hΦ fl_X7_135 o13 rfl rfl dX7_keep_56 hm14 ?_
      refine ex_iconst hΦ dX7_keep_59 ?_
      exact ex_returni hΦ hR dX7_keep_60 h
    · have h := h.2 c
      refine ex_ldc hΦ dX7_keep_9 qw551 ?_
      exact ex_returni hΦ hR dX7_keep_11 h
theorem eX7_goBack {G : Gm} {S : List Sh} {μ : Mem} {Q : Int → Mem → Prop} {x0 x1 : Int} (h : ∀ Φ : Fr, St G Φ cX7_goBack RX7 2 6 155 0 0 → Rt G Φ (Pi S Q) 0 0 (some .int) → Ex G Φ 2 0 [some (2, x0), some (0, x1)] [] S μ 0 0) : Ci G mX7_goBack [(2, x0), (0, x1)] S μ Q :=
  call_of' (plainFor_of_name (by decide +kernel)) [some (2, x0), some (0, x1)] rfl (Nat.le_of_ble_eq_true rfl) (fun Φ hΦ hR => h Φ hΦ hR)
theorem bX7_goBack_0 {G : Gm} {Φ : Fr} {S : List Sh} {μ : Mem} {Q : Int → Mem → Prop} (hΦ : St G Φ cX7_goBack RX7 2 6 155 0 0) (hR : Rt G Φ (Pi S Q) 0 0 (some .int)) {x0 x1 : Int} (h : R32 x1 ∧ ((x1 < 0 → Q (-1000000001) μ) ∧ (¬ (x1 < 0) → (x1 < 2 → So S x0 (.inl 7) ∧ (Ai S (μ x0 7) 4 x1 ∧ (So S (μ (μ x0 7) x1) (.inl 1) ∧ (R32 (μ (μ (μ x0 7) x1) 2) ∧ (((μ (μ (μ x0 7) x1) 2) ≠ 0 → So S (μ x0 5) (.inl 5) ∧ (Cv G mX5_become [(2, (μ x0 5)), (2, (μ (μ (μ x0 7) x1) 0))] S μ (fun μ7 => Ai S (μ7 x0 7) 4 x1 ∧ (So S (μ7 (μ7 x0 7) x1) (.inl 1) ∧ (∀ m10 : Mem, m10 = mu μ7 x0 12 (μ7 (μ7 (μ7 x0 7) x1) 1) → (So S (m10 x0 6) (.inl 0) ∧ (∀ m12 : Mem, m12 = mu m10 (m10 x0 6) 2 0 → (Cv G mX7_reckonNow [(2, x0)] S m12 (fun μ13 => Q 1 μ13))))))))) ∧ ((μ (μ (μ x0 7) x1) 2) = 0 → Q (-1000000003) μ)))))) ∧ (¬ (x1 < 2) → Q (-1000000001) μ)))) : Ex G Φ 2 0 [some (2, x0), some (0, x1)] [] S μ 0 0 := by
  refine ex_iload_n hΦ dX7_goBack_0 rfl ?_
  obtain ⟨o1, h⟩ := h
  refine ex_if_lt 9 hΦ dX7_goBack_1 (by decide) o1 (fun c => ?_) (fun c => ?_)
  · have h := h.1 c
    refine ex_ldc hΦ dX7_goBack_9 qw551 ?_
    exact ex_returni hΦ hR dX7_goBack_11 h
  · have h := h.2 c
    refine ex_iload_n hΦ dX7_goBack_4 rfl ?_
    refine ex_iconst hΦ dX7_goBack_5 ?_
    refine ex_icmp_lt 12 hΦ dX7_goBack_6 (by decide) o1 ⟨by decide, by decide⟩ (fun c => ?_) (fun c => ?_)
    · have h := h.1 c
      obtain ⟨o2, h⟩ := h
      refine ex_aload_n hΦ dX7_goBack_12 rfl o2.1 ?_
      refine ex_getf hΦ fl_X7_52 o2 dX7_goBack_13 ?_
      refine ex_iload_n hΦ dX7_goBack_16 rfl ?_
      obtain ⟨o3, h⟩ := h
      refine ex_aald4' hΦ o3 dX7_goBack_17 ?_
      obtain ⟨o4, h⟩ := h
      refine ex_getf hΦ fl_X7_299 o4 dX7_goBack_18 ?_
      obtain ⟨o5, h⟩ := h
      refine ex_if_ne 27 hΦ dX7_goBack_21 (by decide) o5 (fun c => ?_) (fun c => ?_)
      · have h := h.1 c
        refine ex_aload_n hΦ dX7_goBack_27 rfl o2.1 ?_
        refine ex_getf hΦ fl_X7_39 o2 dX7_goBack_28 ?_
        refine ex_aload_n hΦ dX7_goBack_31 rfl o2.1 ?_
        refine ex_getf hΦ fl_X7_52 o2 dX7_goBack_32 ?_
        refine ex_iload_n hΦ dX7_goBack_35 rfl ?_
        refine ex_aald4' hΦ o3 dX7_goBack_36 ?_
        refine ex_getf hΦ fl_X7_292 o4 dX7_goBack_37 ?_
        obtain ⟨o6, h⟩ := h
        refine ex_callVv [(2, (μ (μ (μ x0 7) x1) 0))] [(2, (μ (μ (μ x0 7) x1) 0)), (2, (μ x0 5))] hΦ lkV_X7_295 ⟨by decide, by decide⟩ (Nat.le_of_ble_eq_true rfl) rfl (by decide) 5 (by decide) rfl o6 dX7_goBack_40 rfl h (fun μ7 h => ?_)
        refine ex_aload_n hΦ dX7_goBack_43 rfl o2.1 ?_
        refine ex_aload_n hΦ dX7_goBack_44 rfl o2.1 ?_
        refine ex_getf hΦ fl_X7_52 o2 dX7_goBack_45 ?_
        refine ex_iload_n hΦ dX7_goBack_48 rfl ?_
        obtain ⟨o8, h⟩ := h
        refine ex_aald4' hΦ o8 dX7_goBack_49 ?_
        obtain ⟨o9, h⟩ := h
        refine ex_getf hΦ fl_X7_298 o9 dX7_goBack_50 ?_
        obtain ⟨m10, hm10⟩ : ∃ m : Mem, m = mu μ7 x0 12 (μ7 (μ7 (μ7 x0 7) x1) 1) := ⟨_, rfl⟩
        have h := h m10 hm10
        refine ex_putf' hΦ fl_X7_289 o2 rfl rfl dX7_goBack_53 hm10 ?_
        refine ex_aload_n hΦ dX7_goBack_56 rfl o2.1 ?_
        refine ex_getf hΦ fl_X7_46 o2 dX7_goBack_57 ?_
        refine ex_iconst hΦ dX7_goBack_60 ?_
        obtain ⟨o11, h⟩ := h
        obtain ⟨m12, hm12⟩ : ∃ m : Mem, m = mu m10 (m10 x0 6) 2 0 := ⟨_, rfl⟩
        have h := h m12 hm12
        refine ex_putf' hΦ fl_X7_135 o11 rfl rfl dX7_goBack_61 hm12 ?_
        refine ex_aload_n hΦ dX7_goBack_64 rfl o2.1 ?_
        refine ex_callVv [] [(2, x0)] hΦ lkV_X7_92 ⟨by decide, by decide⟩ (Nat.le_of_ble_eq_true rfl) rfl (by decide) 7 (by decide) rfl o2 dX7_goBack_65 rfl h (fun μ13 h => ?_)
        refine ex_iconst hΦ dX7_goBack_68 ?_
        exact ex_returni hΦ hR dX7_goBack_69 h
      · have h := h.2 c
        refine ex_ldc hΦ dX7_goBack_24 qw581 ?_
        exact ex_returni hΦ hR dX7_goBack_26 h
    · have h := h.2 c
      refine ex_ldc hΦ dX7_goBack_9 qw551 ?_
      exact ex_returni hΦ hR dX7_goBack_11 h
theorem eX7_hasWheel {G : Gm} {S : List Sh} {μ : Mem} {Q : Int → Mem → Prop} {x0 x1 : Int} (h : ∀ Φ : Fr, St G Φ cX7_hasWheel RX7 2 0 0 0 0 → Rt G Φ (Pi S Q) 0 0 (some .boolean) → Ex G Φ 2 0 [some (2, x0), some (0, x1)] [] S μ 0 0) : Ci G mX7_hasWheel [(2, x0), (0, x1)] S μ Q :=
  call_of' (plainFor_of_name (by decide +kernel)) [some (2, x0), some (0, x1)] rfl (Nat.le_of_ble_eq_true rfl) (fun Φ hΦ hR => h Φ hΦ hR)
theorem bX7_hasWheel_0 {G : Gm} {Φ : Fr} {S : List Sh} {μ : Mem} {Q : Int → Mem → Prop} (hΦ : St G Φ cX7_hasWheel RX7 2 0 0 0 0) (hR : Rt G Φ (Pi S Q) 0 0 (some .boolean)) {x0 x1 : Int} (h : R32 x1 ∧ ((x1 < 0 → Q 0 μ) ∧ (¬ (x1 < 0) → So S x0 (.inl 7) ∧ (So S (μ x0 1) (.inl 6) ∧ (R32 (μ (μ x0 1) 0) ∧ (((μ (μ x0 1) 0) ≤ x1 → Q 0 μ) ∧ (¬ ((μ (μ x0 1) 0) ≤ x1) → Q 1 μ))))))) : Ex G Φ 2 0 [some (2, x0), some (0, x1)] [] S μ 0 0 := by
  refine ex_iload_n hΦ dX7_hasWheel_0 rfl ?_
  obtain ⟨o1, h⟩ := h
  refine ex_if_lt 19 hΦ dX7_hasWheel_1 (by decide) o1 (fun c => ?_) (fun c => ?_)
  · have h := h.1 c
    refine ex_iconst hΦ dX7_hasWheel_19 ?_
    exact ex_returnz hΦ hR (by decide) (by decide) dX7_hasWheel_20 h
  · have h := h.2 c
    refine ex_iload_n hΦ dX7_hasWheel_4 rfl ?_
    obtain ⟨o2, h⟩ := h
    refine ex_aload_n hΦ dX7_hasWheel_5 rfl o2.1 ?_
    refine ex_getf hΦ fl_X7_19 o2 dX7_hasWheel_6 ?_
    obtain ⟨o3, h⟩ := h
    refine ex_getf hΦ fl_X7_95 o3 dX7_hasWheel_9 ?_
    obtain ⟨o4, h⟩ := h
    refine ex_icmp_ge 19 hΦ dX7_hasWheel_12 (by decide) o1 o4 (fun c => ?_) (fun c => ?_)
    · have h := h.1 c
      refine ex_iconst hΦ dX7_hasWheel_19 ?_
      exact ex_returnz hΦ hR (by decide) (by decide) dX7_hasWheel_20 h
    · have h := h.2 c
      refine ex_iconst hΦ dX7_hasWheel_15 ?_
      refine ex_goto 20 hΦ dX7_hasWheel_16 (by decide) ?_
      exact ex_returnz hΦ hR (by decide) (by decide) dX7_hasWheel_20 h
theorem eX7_hasLink {G : Gm} {S : List Sh} {μ : Mem} {Q : Int → Mem → Prop} {x0 x1 : Int} (h : ∀ Φ : Fr, St G Φ cX7_hasLink RX7 2 0 0 0 0 → Rt G Φ (Pi S Q) 0 0 (some .boolean) → Ex G Φ 2 0 [some (2, x0), some (0, x1)] [] S μ 0 0) : Ci G mX7_hasLink [(2, x0), (0, x1)] S μ Q :=
  call_of' (plainFor_of_name (by decide +kernel)) [some (2, x0), some (0, x1)] rfl (Nat.le_of_ble_eq_true rfl) (fun Φ hΦ hR => h Φ hΦ hR)
theorem bX7_hasLink_0 {G : Gm} {Φ : Fr} {S : List Sh} {μ : Mem} {Q : Int → Mem → Prop} (hΦ : St G Φ cX7_hasLink RX7 2 0 0 0 0) (hR : Rt G Φ (Pi S Q) 0 0 (some .boolean)) {x0 x1 : Int} (h : R32 x1 ∧ ((x1 < 0 → Q 0 μ) ∧ (¬ (x1 < 0) → So S x0 (.inl 7) ∧ (So S (μ x0 1) (.inl 6) ∧ (R32 (μ (μ x0 1) 1) ∧ (((μ (μ x0 1) 1) ≤ x1 → Q 0 μ) ∧ (¬ ((μ (μ x0 1) 1) ≤ x1) → Q 1 μ))))))) : Ex G Φ 2 0 [some (2, x0), some (0, x1)] [] S μ 0 0 := by
  refine ex_iload_n hΦ dX7_hasLink_0 rfl ?_
  obtain ⟨o1, h⟩ := h
  refine ex_if_lt 19 hΦ dX7_hasLink_1 (by decide) o1 (fun c => ?_) (fun c => ?_)
  · have h := h.1 c
    refine ex_iconst hΦ dX7_hasLink_19 ?_
    exact ex_returnz hΦ hR (by decide) (by decide) dX7_hasLink_20 h
  · have h := h.2 c
    refine ex_iload_n hΦ dX7_hasLink_4 rfl ?_
    obtain ⟨o2, h⟩ := h
    refine ex_aload_n hΦ dX7_hasLink_5 rfl o2.1 ?_
    refine ex_getf hΦ fl_X7_19 o2 dX7_hasLink_6 ?_
    obtain ⟨o3, h⟩ := h
    refine ex_getf hΦ fl_X7_101 o3 dX7_hasLink_9 ?_
    obtain ⟨o4, h⟩ := h
    refine ex_icmp_ge 19 hΦ dX7_hasLink_12 (by decide) o1 o4 (fun c => ?_) (fun c => ?_)
    · have h := h.1 c
      refine ex_iconst hΦ dX7_hasLink_19 ?_
      exact ex_returnz hΦ hR (by decide) (by decide) dX7_hasLink_20 h
    · have h := h.2 c
      refine ex_iconst hΦ dX7_hasLink_15 ?_
      refine ex_goto 20 hΦ dX7_hasLink_16 (by decide) ?_
      exact ex_returnz hΦ hR (by decide) (by decide) dX7_hasLink_20 h
theorem eX7_hasFeast {G : Gm} {S : List Sh} {μ : Mem} {Q : Int → Mem → Prop} {x0 x1 : Int} (h : ∀ Φ : Fr, St G Φ cX7_hasFeast RX7 2 0 0 0 0 → Rt G Φ (Pi S Q) 0 0 (some .boolean) → Ex G Φ 2 0 [some (2, x0), some (0, x1)] [] S μ 0 0) : Ci G mX7_hasFeast [(2, x0), (0, x1)] S μ Q :=
  call_of' (plainFor_of_name (by decide +kernel)) [some (2, x0), some (0, x1)] rfl (Nat.le_of_ble_eq_true rfl) (fun Φ hΦ hR => h Φ hΦ hR)
theorem bX7_hasFeast_0 {G : Gm} {Φ : Fr} {S : List Sh} {μ : Mem} {Q : Int → Mem → Prop} (hΦ : St G Φ cX7_hasFeast RX7 2 0 0 0 0) (hR : Rt G Φ (Pi S Q) 0 0 (some .boolean)) {x0 x1 : Int} (h : R32 x1 ∧ ((x1 < 0 → Q 0 μ) ∧ (¬ (x1 < 0) → So S x0 (.inl 7) ∧ (So S (μ x0 1) (.inl 6) ∧ (R32 (μ (μ x0 1) 2) ∧ (((μ (μ x0 1) 2) ≤ x1 → Q 0 μ) ∧ (¬ ((μ (μ x0 1) 2) ≤ x1) → Q 1 μ))))))) : Ex G Φ 2 0 [some (2, x0), some (0, x1)] [] S μ 0 0 := by
  refine ex_iload_n hΦ dX7_hasFeast_0 rfl ?_
  obtain ⟨o1, h⟩ := h
  refine ex_if_lt 19 hΦ dX7_hasFeast_1 (by decide) o1 (fun c => ?_) (fun c => ?_)
  · have h := h.1 c
    refine ex_iconst hΦ dX7_hasFeast_19 ?_
    exact ex_returnz hΦ hR (by decide) (by decide) dX7_hasFeast_20 h
  · have h := h.2 c
    refine ex_iload_n hΦ dX7_hasFeast_4 rfl ?_
    obtain ⟨o2, h⟩ := h
    refine ex_aload_n hΦ dX7_hasFeast_5 rfl o2.1 ?_
    refine ex_getf hΦ fl_X7_19 o2 dX7_hasFeast_6 ?_
    obtain ⟨o3, h⟩ := h
    refine ex_getf hΦ fl_X7_104 o3 dX7_hasFeast_9 ?_
    obtain ⟨o4, h⟩ := h
    refine ex_icmp_ge 19 hΦ dX7_hasFeast_12 (by decide) o1 o4 (fun c => ?_) (fun c => ?_)
    · have h := h.1 c
      refine ex_iconst hΦ dX7_hasFeast_19 ?_
      exact ex_returnz hΦ hR (by decide) (by decide) dX7_hasFeast_20 h
    · have h := h.2 c
      refine ex_iconst hΦ dX7_hasFeast_15 ?_
      refine ex_goto 20 hΦ dX7_hasFeast_16 (by decide) ?_
      exact ex_returnz hΦ hR (by decide) (by decide) dX7_hasFeast_20 h
theorem eX7_areTwoWheels {G : Gm} {S : List Sh} {μ : Mem} {Q : Int → Mem → Prop} {x0 x1 x2 : Int} (h : ∀ Φ : Fr, St G Φ cX7_areTwoWheels RX7 3 1 21 0 0 → Rt G Φ (Pi S Q) 0 0 (some .boolean) → Ex G Φ 3 0 [some (2, x0), some (0, x1), some (0, x2)] [] S μ 0 0) : Ci G mX7_areTwoWheels [(2, x0), (0, x1), (0, x2)] S μ Q :=
  call_of' (plainFor_of_name (by decide +kernel)) [some (2, x0), some (0, x1), some (0, x2)] rfl (Nat.le_of_ble_eq_true rfl) (fun Φ hΦ hR => h Φ hΦ hR)
theorem bX7_areTwoWheels_0 {G : Gm} {Φ : Fr} {S : List Sh} {μ : Mem} {Q : Int → Mem → Prop} (hΦ : St G Φ cX7_areTwoWheels RX7 3 1 21 0 0) (hR : Rt G Φ (Pi S Q) 0 0 (some .boolean)) {x0 x1 x2 : Int} (h : So S x0 (.inl 7) ∧ (Ci G mX7_hasWheel [(2, x0), (0, x1)] S μ (fun r2 μ2 => R32 r2 ∧ ((r2 = 0 → Q 0 μ2) ∧ (¬ (r2 = 0) → Ci G mX7_hasWheel [(2, x0), (0, x2)] S μ2 (fun r4 μ4 => R32 r4 ∧ ((r4 = 0 → Q 0 μ4) ∧ (¬ (r4 = 0) → R32 x1 ∧ (R32 x2 ∧ ((x1 = x2 → Q 0 μ4) ∧ (¬ (x1 = x2) → Q 1 μ4))))))))))) : Ex G Φ 3 0 [some (2, x0), some (0, x1), some (0, x2)] [] S μ 0 0 := by
  obtain ⟨o1, h⟩ := h
  refine ex_aload_n hΦ dX7_areTwoWheels_0 rfl o1.1 ?_
  refine ex_iload_n hΦ dX7_areTwoWheels_1 rfl ?_
  refine ex_callVi [(0, x1)] [(0, x1), (2, x0)] hΦ lkV_X7_142 ⟨by decide, by decide⟩ (Nat.le_of_ble_eq_true rfl) rfl (by decide) 7 (by decide) rfl o1 dX7_areTwoWheels_2 rfl h (fun r2 μ2 h => ?_)
  obtain ⟨o3, h⟩ := h
  refine ex_if_eq 25 hΦ dX7_areTwoWheels_5 (by decide) o3 (fun c => ?_) (fun c => ?_)
  · have h := h.1 c
    refine ex_iconst hΦ dX7_areTwoWheels_25 ?_
    exact ex_returnz hΦ hR (by decide) (by decide) dX7_areTwoWheels_26 h
  · have h := h.2 c
    refine ex_aload_n hΦ dX7_areTwoWheels_8 rfl o1.1 ?_
    refine ex_iload_n hΦ dX7_areTwoWheels_9 rfl ?_
    refine ex_callVi [(0, x2)] [(0, x2), (2, x0)] hΦ lkV_X7_142 ⟨by decide, by decide⟩ (Nat.le_of_ble_eq_true rfl) rfl (by decide) 7 (by decide) rfl o1 dX7_areTwoWheels_10 rfl h (fun r4 μ4 h => ?_)
    obtain ⟨o5, h⟩ := h
    refine ex_if_eq 25 hΦ dX7_areTwoWheels_13 (by decide) o5 (fun c => ?_) (fun c => ?_)
    · have h := h.1 c
      refine ex_iconst hΦ dX7_areTwoWheels_25 ?_
      exact ex_returnz hΦ hR (by decide) (by decide) dX7_areTwoWheels_26 h
    · have h := h.2 c
      refine ex_iload_n hΦ dX7_areTwoWheels_16 rfl ?_
      refine ex_iload_n hΦ dX7_areTwoWheels_17 rfl ?_
      obtain ⟨o6, h⟩ := h
      obtain ⟨o7, h⟩ := h
      refine ex_icmp_eq 25 hΦ dX7_areTwoWheels_18 (by decide) o6 o7 (fun c => ?_) (fun c => ?_)
      · have h := h.1 c
        refine ex_iconst hΦ dX7_areTwoWheels_25 ?_
        exact ex_returnz hΦ hR (by decide) (by decide) dX7_areTwoWheels_26 h
      · have h := h.2 c
        refine ex_iconst hΦ dX7_areTwoWheels_21 ?_
        refine ex_goto 26 hΦ dX7_areTwoWheels_22 (by decide) ?_
        exact ex_returnz hΦ hR (by decide) (by decide) dX7_areTwoWheels_26 h
theorem eX7_hasBitsBeyond {G : Gm} {S : List Sh} {μ : Mem} {Q : Int → Mem → Prop} {x0 x1 : Int} (h : ∀ Φ : Fr, St G Φ cX7_hasBitsBeyond RX7 2 0 0 0 0 → Rt G Φ (Pi S Q) 0 0 (some .boolean) → Ex G Φ 2 0 [some (0, x0), some (0, x1)] [] S μ 0 0) : Ci G mX7_hasBitsBeyond [(0, x0), (0, x1)] S μ Q :=
  call_of' (plainFor_of_name (by decide +kernel)) [some (0, x0), some (0, x1)] rfl (Nat.le_of_ble_eq_true rfl) (fun Φ hΦ hR => h Φ hΦ hR)
theorem bX7_hasBitsBeyond_0 {G : Gm} {Φ : Fr} {S : List Sh} {μ : Mem} {Q : Int → Mem → Prop} (hΦ : St G Φ cX7_hasBitsBeyond RX7 2 0 0 0 0) (hR : Rt G Φ (Pi S Q) 0 0 (some .boolean)) {x0 x1 : Int} (h : R32 x0 ∧ (0 ≤ x1 ∧ (x1 ≤ 31 ∧ (R32 (x0 / 2 ^ (Int.toNat x1)) ∧ (((x0 / 2 ^ (Int.toNat x1)) = 0 → Q 0 μ) ∧ (¬ ((x0 / 2 ^ (Int.toNat x1)) = 0) → Q 1 μ)))))) : Ex G Φ 2 0 [some (0, x0), some (0, x1)] [] S μ 0 0 := by
  refine ex_iload_n hΦ dX7_hasBitsBeyond_0 rfl ?_
  refine ex_iload_n hΦ dX7_hasBitsBeyond_1 rfl ?_
  obtain ⟨o1, h⟩ := h
  obtain ⟨o2, h⟩ := h
  obtain ⟨o3, h⟩ := h
  refine ex_ishr hΦ dX7_hasBitsBeyond_2 o1 o2 o3 ?_
  obtain ⟨o4, h⟩ := h
  refine ex_if_eq 10 hΦ dX7_hasBitsBeyond_3 (by decide) o4 (fun c => ?_) (fun c => ?_)
  · have h := h.1 c
    refine ex_iconst hΦ dX7_hasBitsBeyond_10 ?_
    exact ex_returnz hΦ hR (by decide) (by decide) dX7_hasBitsBeyond_11 h
  · have h := h.2 c
    refine ex_iconst hΦ dX7_hasBitsBeyond_6 ?_
    refine ex_goto 11 hΦ dX7_hasBitsBeyond_7 (by decide) ?_
    exact ex_returnz hΦ hR (by decide) (by decide) dX7_hasBitsBeyond_11 h
theorem eX7_isOn {G : Gm} {S : List Sh} {μ : Mem} {Q : Int → Mem → Prop} {x0 x1 : Int} (h : ∀ Φ : Fr, St G Φ cX7_isOn RX7 2 0 0 0 0 → Rt G Φ (Pi S Q) 0 0 (some .boolean) → Ex G Φ 2 0 [some (2, x0), some (0, x1)] [] S μ 0 0) : Ci G mX7_isOn [(2, x0), (0, x1)] S μ Q :=
  call_of' (plainFor_of_name (by decide +kernel)) [some (2, x0), some (0, x1)] rfl (Nat.le_of_ble_eq_true rfl) (fun Φ hΦ hR => h Φ hΦ hR)
theorem bX7_isOn_0 {G : Gm} {Φ : Fr} {S : List Sh} {μ : Mem} {Q : Int → Mem → Prop} (hΦ : St G Φ cX7_isOn RX7 2 0 0 0 0) (hR : Rt G Φ (Pi S Q) 0 0 (some .boolean)) {x0 x1 : Int} (h : So S x0 (.inl 7) ∧ (So S (μ x0 5) (.inl 5) ∧ (R32 (μ (μ x0 5) 2) ∧ (0 ≤ x1 ∧ (x1 ≤ 31 ∧ (R32 (((μ (μ x0 5) 2) / 2 ^ (Int.toNat x1)) % 2) ∧ (((((μ (μ x0 5) 2) / 2 ^ (Int.toNat x1)) % 2) ≠ 0 → Q 0 μ) ∧ ((((μ (μ x0 5) 2) / 2 ^ (Int.toNat x1)) % 2) = 0 → Q 1 μ)))))))) : Ex G Φ 2 0 [some (2, x0), some (0, x1)] [] S μ 0 0 := by
  obtain ⟨o1, h⟩ := h
  refine ex_aload_n hΦ dX7_isOn_0 rfl o1.1 ?_
  refine ex_getf hΦ fl_X7_39 o1 dX7_isOn_1 ?_
  obtain ⟨o2, h⟩ := h
  refine ex_getf hΦ fl_X7_126 o2 dX7_isOn_4 ?_
  refine ex_iload_n hΦ dX7_isOn_7 rfl ?_
  obtain ⟨o3, h⟩ := h
  obtain ⟨o4, h⟩ := h
  obtain ⟨o5, h⟩ := h
  refine ex_ishr hΦ dX7_isOn_8 o3 o4 o5 ?_
  refine ex_iconst hΦ dX7_isOn_9 ?_
  refine ex_iand1 hΦ dX7_isOn_10 ?_
  obtain ⟨o6, h⟩ := h
  refine ex_if_ne 18 hΦ dX7_isOn_11 (by decide) o6 (fun c => ?_) (fun c => ?_)
  · have h := h.1 c
    refine ex_iconst hΦ dX7_isOn_18 ?_
    exact ex_returnz hΦ hR (by decide) (by decide) dX7_isOn_19 h
  · have h := h.2 c
    refine ex_iconst hΦ dX7_isOn_14 ?_
    refine ex_goto 19 hΦ dX7_isOn_15 (by decide) ?_
    exact ex_returnz hΦ hR (by decide) (by decide) dX7_isOn_19 h
theorem eX7_linksOn {G : Gm} {S : List Sh} {μ : Mem} {Q : Int → Mem → Prop} {x0 : Int} (h : ∀ Φ : Fr, St G Φ cX7_linksOn RX7 1 0 0 0 0 → Rt G Φ (Pi S Q) 0 0 (some .int) → Ex G Φ 1 0 [some (2, x0)] [] S μ 0 0) : Ci G mX7_linksOn [(2, x0)] S μ Q :=
  call_of' (plainFor_of_name (by decide +kernel)) [some (2, x0)] rfl (Nat.le_of_ble_eq_true rfl) (fun Φ hΦ hR => h Φ hΦ hR)
theorem bX7_linksOn_0 {G : Gm} {Φ : Fr} {S : List Sh} {μ : Mem} {Q : Int → Mem → Prop} (hΦ : St G Φ cX7_linksOn RX7 1 0 0 0 0) (hR : Rt G Φ (Pi S Q) 0 0 (some .int)) {x0 : Int} (h : So S x0 (.inl 7) ∧ (So S (μ x0 1) (.inl 6) ∧ (0 ≤ (μ (μ x0 1) 1) ∧ ((μ (μ x0 1) 1) ≤ 31 ∧ (So S (μ x0 5) (.inl 5) ∧ Q (mand ((1 * 2 ^ (Int.toNat (μ (μ x0 1) 1))) - 1) (mxor (μ (μ x0 5) 2) (-1))) μ))))) : Ex G Φ 1 0 [some (2, x0)] [] S μ 0 0 := by
  refine ex_iconst hΦ dX7_linksOn_0 ?_
  obtain ⟨o1, h⟩ := h
  refine ex_aload_n hΦ dX7_linksOn_1 rfl o1.1 ?_
  refine ex_getf hΦ fl_X7_19 o1 dX7_linksOn_2 ?_
  obtain ⟨o2, h⟩ := h
  refine ex_getf hΦ fl_X7_101 o2 dX7_linksOn_5 ?_
  obtain ⟨o3, h⟩ := h
  obtain ⟨o4, h⟩ := h
  refine ex_ishl hΦ dX7_linksOn_8 o3 o4 ?_
  refine ex_iconst hΦ dX7_linksOn_9 ?_
  refine ex_isub hΦ dX7_linksOn_10 ?_
  refine ex_aload_n hΦ dX7_linksOn_11 rfl o1.1 ?_
  refine ex_getf hΦ fl_X7_39 o1 dX7_linksOn_12 ?_
  obtain ⟨o5, h⟩ := h
  refine ex_getf hΦ fl_X7_126 o5 dX7_linksOn_15 ?_
  refine ex_iconst hΦ dX7_linksOn_18 ?_
  refine ex_ixor hΦ dX7_linksOn_19 ?_
  refine ex_iand hΦ dX7_linksOn_20 ?_
  exact ex_returni hΦ hR dX7_linksOn_21 h
theorem bX7_beginClock_71 {G : Gm} {Φ : Fr} {S : List Sh} {μ : Mem} {Q : Mem → Prop} (hΦ : St G Φ cX7_beginClock RX7 2 1 26 0 0) (hR : Rt G Φ (Pv S Q) 0 0 none) {x0 x1 : Int} (h : R32 x1 ∧ ((2 ≤ x1 → Q μ) ∧ (¬ (2 ≤ x1) → So S x0 (.inl 7) ∧ (Ai S (μ x0 7) 4 x1 ∧ (So S (μ (μ x0 7) x1) (.inl 1) ∧ (∀ m5 : Mem, m5 = mu μ (μ (μ x0 7) x1) 2 0 → (Ex G Φ 2 71 [some (2, x0), some (0, (x1 + 1))] [] S m5 0 0))))))) : Ex G Φ 2 71 [some (2, x0), some (0, x1)] [] S μ 0 0 := by
  refine ex_iload_n hΦ dX7_beginClock_71 rfl ?_
  refine ex_iconst hΦ dX7_beginClock_72 ?_
  obtain ⟨o1, h⟩ := h
  refine ex_icmp_ge 92 hΦ dX7_beginClock_73 (by decide) o1 ⟨by decide, by decide⟩ (fun c => ?_) (fun c => ?_)
  · have h := h.1 c
    exact ex_returnv hΦ hR dX7_beginClock_92 h
  · have h := h.2 c
    obtain ⟨o2, h⟩ := h
    refine ex_aload_n hΦ dX7_beginClock_76 rfl o2.1 ?_
    refine ex_getf hΦ fl_X7_52 o2 dX7_beginClock_77 ?_
    refine ex_iload_n hΦ dX7_beginClock_80 rfl ?_
    obtain ⟨o3, h⟩ := h
    refine ex_aald4' hΦ o3 dX7_beginClock_81 ?_
    refine ex_iconst hΦ dX7_beginClock_82 ?_
    obtain ⟨o4, h⟩ := h
    obtain ⟨m5, hm5⟩ : ∃ m : Mem, m = mu μ (μ (μ x0 7) x1) 2 0 := ⟨_, rfl⟩
    have h := h m5 hm5
    refine ex_putz' hΦ fl_X7_299 o4 rfl rfl (by decide) (by decide) dX7_beginClock_83 hm5 ?_
    refine ex_iinc (L' := [some (2, x0), some (0, (x1 + 1))]) hΦ dX7_beginClock_86 rfl (by decide) rfl ?_
    refine ex_goto 71 hΦ dX7_beginClock_89 (by decide) ?_
    exact h
theorem eX7_beginClock {G : Gm} {S : List Sh} {μ : Mem} {Q : Mem → Prop} {x0 : Int} (h : ∀ Φ : Fr, St G Φ cX7_beginClock RX7 2 1 26 0 0 → Rt G Φ (Pv S Q) 0 0 none → Ex G Φ 2 0 [some (2, x0), none] [] S μ 0 0) : Cv G mX7_beginClock [(2, x0)] S μ Q :=
  call_of' (plainFor_of_name (by decide +kernel)) [some (2, x0), none] rfl (Nat.le_of_ble_eq_true rfl) (fun Φ hΦ hR => h Φ hΦ hR)
theorem bX7_beginClock_0 {G : Gm} {Φ : Fr} {S : List Sh} {μ : Mem} {Q : Mem → Prop} (hΦ : St G Φ cX7_beginClock RX7 2 1 26 0 0) (hR : Rt G Φ (Pv S Q) 0 0 none) {x0 : Int} (h : So S x0 (.inl 7) ∧ (So S (μ x0 5) (.inl 5) ∧ (∀ m3 : Mem, m3 = mu μ (μ x0 5) 0 0 → (So S (m3 x0 5) (.inl 5) ∧ (∀ m5 : Mem, m5 = mu m3 (m3 x0 5) 1 0 → (So S (m5 x0 5) (.inl 5) ∧ (∀ m7 : Mem, m7 = mu m5 (m5 x0 5) 2 0 → (So S (m7 x0 1) (.inl 6) ∧ (So S (m7 x0 5) (.inl 5) ∧ (Ac S (m7 (m7 x0 1) 6) 0 (m7 (m7 x0 5) 3) 0 8 ∧ (∀ m11 : Mem, m11 = mcpy m7 (m7 (m7 x0 1) 6) 0 (m7 (m7 x0 5) 3) 0 8 → (So S (m11 x0 8) (.inl 2) ∧ (∀ m13 : Mem, m13 = mu m11 (m11 x0 8) 3 0 → (So S (m13 x0 9) (.inl 2) ∧ (∀ m15 : Mem, m15 = mu m13 (m13 x0 9) 3 0 → (So S (m15 x0 6) (.inl 0) ∧ (∀ m17 : Mem, m17 = mu m15 (m15 x0 6) 2 0 → (Ex G Φ 2 71 [some (2, x0), some (0, 0)] [] S m17 0 0)))))))))))))))))) : Ex G Φ 2 0 [some (2, x0), none] [] S μ 0 0 := by
  obtain ⟨o1, h⟩ := h
  refine ex_aload_n hΦ dX7_beginClock_0 rfl o1.1 ?_
  refine ex_getf hΦ fl_X7_39 o1 dX7_beginClock_1 ?_
  refine ex_iconst hΦ dX7_beginClock_4 ?_
  obtain ⟨o2, h⟩ := h
  obtain ⟨m3, hm3⟩ : ∃ m : Mem, m = mu μ (μ x0 5) 0 0 := ⟨_, rfl⟩
  have h := h m3 hm3
  refine ex_putf' hΦ fl_X7_110 o2 rfl rfl dX7_beginClock_5 hm3 ?_
  refine ex_aload_n hΦ dX7_beginClock_8 rfl o1.1 ?_
  refine ex_getf hΦ fl_X7_39 o1 dX7_beginClock_9 ?_
  refine ex_iconst hΦ dX7_beginClock_12 ?_
  obtain ⟨o4, h⟩ := h
  obtain ⟨m5, hm5⟩ : ∃ m : Mem, m = mu m3 (m3 x0 5) 1 0 := ⟨_, rfl⟩
  have h := h m5 hm5
  refine ex_putf' hΦ fl_X7_113 o4 rfl rfl dX7_beginClock_13 hm5 ?_
  refine ex_aload_n hΦ dX7_beginClock_16 rfl o1.1 ?_
  refine ex_getf hΦ fl_X7_39 o1 dX7_beginClock_17 ?_
  refine ex_iconst hΦ dX7_beginClock_20 ?_
  obtain ⟨o6, h⟩ := h
  obtain ⟨m7, hm7⟩ : ∃ m : Mem, m = mu m5 (m5 x0 5) 2 0 := ⟨_, rfl⟩
  have h := h m7 hm7
  refine ex_putf' hΦ fl_X7_126 o6 rfl rfl dX7_beginClock_21 hm7 ?_
  refine ex_aload_n hΦ dX7_beginClock_24 rfl o1.1 ?_
  refine ex_getf hΦ fl_X7_19 o1 dX7_beginClock_25 ?_
  obtain ⟨o8, h⟩ := h
  refine ex_getf hΦ fl_X7_301 o8 dX7_beginClock_28 ?_
  refine ex_iconst hΦ dX7_beginClock_31 ?_
  refine ex_aload_n hΦ dX7_beginClock_32 rfl o1.1 ?_
  refine ex_getf hΦ fl_X7_39 o1 dX7_beginClock_33 ?_
  obtain ⟨o9, h⟩ := h
  refine ex_getf hΦ fl_X7_203 o9 dX7_beginClock_36 ?_
  refine ex_iconst hΦ dX7_beginClock_39 ?_
  refine ex_bipush hΦ dX7_beginClock_40 (by decide) ?_
  obtain ⟨o10, h⟩ := h
  obtain ⟨m11, hm11⟩ : ∃ m : Mem, m = mcpy m7 (m7 (m7 x0 1) 6) 0 (m7 (m7 x0 5) 3) 0 8 := ⟨_, rfl⟩
  have h := h m11 hm11
  refine ex_acopy'' hΦ qw468 qw470 qw469 qw94 ⟨by decide, by decide⟩ (Nat.le_of_ble_eq_true rfl) o10 dX7_beginClock_42 hm11 ?_
  refine ex_aload_n hΦ dX7_beginClock_45 rfl o1.1 ?_
  refine ex_getf hΦ fl_X7_61 o1 dX7_beginClock_46 ?_
  refine ex_iconst hΦ dX7_beginClock_49 ?_
  obtain ⟨o12, h⟩ := h
  obtain ⟨m13, hm13⟩ : ∃ m : Mem, m = mu m11 (m11 x0 8) 3 0 := ⟨_, rfl⟩
  have h := h m13 hm13
  refine ex_putf' hΦ fl_X7_132 o12 rfl rfl dX7_beginClock_50 hm13 ?_
  refine ex_aload_n hΦ dX7_beginClock_53 rfl o1.1 ?_
  refine ex_getf hΦ fl_X7_65 o1 dX7_beginClock_54 ?_
  refine ex_iconst hΦ dX7_beginClock_57 ?_
  obtain ⟨o14, h⟩ := h
  obtain ⟨m15, hm15⟩ : ∃ m : Mem, m = mu m13 (m13 x0 9) 3 0 := ⟨_, rfl⟩
  have h := h m15 hm15
  refine ex_putf' hΦ fl_X7_132 o14 rfl rfl dX7_beginClock_58 hm15 ?_
  refine ex_aload_n hΦ dX7_beginClock_61 rfl o1.1 ?_
  refine ex_getf hΦ fl_X7_46 o1 dX7_beginClock_62 ?_
  refine ex_iconst hΦ dX7_beginClock_65 ?_
  obtain ⟨o16, h⟩ := h
  obtain ⟨m17, hm17⟩ : ∃ m : Mem, m = mu m15 (m15 x0 6) 2 0 := ⟨_, rfl⟩
  have h := h m17 hm17
  refine ex_putf' hΦ fl_X7_135 o16 rfl rfl dX7_beginClock_66 hm17 ?_
  refine ex_iconst hΦ dX7_beginClock_69 ?_
  refine ex_istore_n (L' := [some (2, x0), some (0, 0)]) hΦ dX7_beginClock_70 (by decide) rfl ?_
  exact h
theorem eX7_reckonNow {G : Gm} {S : List Sh} {μ : Mem} {Q : Mem → Prop} {x0 : Int} (h : ∀ Φ : Fr, St G Φ cX7_reckonNow RX7 1 5 135 0 0 → Rt G Φ (Pv S Q) 0 0 none → Ex G Φ 1 0 [some (2, x0)] [] S μ 0 0) : Cv G mX7_reckonNow [(2, x0)] S μ Q :=
  call_of' (plainFor_of_name (by decide +kernel)) [some (2, x0)] rfl (Nat.le_of_ble_eq_true rfl) (fun Φ hΦ hR => h Φ hΦ hR)
theorem bX7_reckonNow_0 {G : Gm} {Φ : Fr} {S : List Sh} {μ : Mem} {Q : Mem → Prop} (hΦ : St G Φ cX7_reckonNow RX7 1 5 135 0 0) (hR : Rt G Φ (Pv S Q) 0 0 none) {x0 : Int} (h : So S x0 (.inl 7) ∧ (Ci G mX7_linksOn [(2, x0)] S μ (fun r2 μ2 => So S (μ x0 3) (.inl 3) ∧ Cv G mX3_reckon [(2, (μ x0 3)), (2, (μ x0 1)), (0, r2), (0, 0)] S μ2 (fun μ4 => Q μ4)))) : Ex G Φ 1 0 [some (2, x0)] [] S μ 0 0 := by
  obtain ⟨o1, h⟩ := h
  refine ex_aload_n hΦ dX7_reckonNow_0 rfl o1.1 ?_
  refine ex_getf hΦ fl_X7_29 o1 dX7_reckonNow_1 ?_
  refine ex_aload_n hΦ dX7_reckonNow_4 rfl o1.1 ?_
  refine ex_getf hΦ fl_X7_19 o1 dX7_reckonNow_5 ?_
  refine ex_aload_n hΦ dX7_reckonNow_8 rfl o1.1 ?_
  refine ex_callVi [] [(2, x0), (2, (μ x0 1)), (2, (μ x0 3))] hΦ lkV_X7_310 ⟨by decide, by decide⟩ (Nat.le_of_ble_eq_true rfl) rfl (by decide) 7 (by decide) rfl o1 dX7_reckonNow_9 rfl h (fun r2 μ2 h => ?_)
  refine ex_iconst hΦ dX7_reckonNow_12 ?_
  obtain ⟨o3, h⟩ := h
  refine ex_callVv [(2, (μ x0 1)), (0, r2), (0, 0)] [(0, 0), (0, r2), (2, (μ x0 1)), (2, (μ x0 3))] hΦ lkV_X7_313 ⟨by decide, by decide⟩ (Nat.le_of_ble_eq_true rfl) rfl (by decide) 3 (by decide) rfl o3 dX7_reckonNow_13 rfl h (fun μ4 h => ?_)
  exact ex_returnv hΦ hR dX7_reckonNow_16 h
theorem eX7_placeIn {G : Gm} {S : List Sh} {μ : Mem} {Q : Int → Mem → Prop} {x0 x1 x2 : Int} (h : ∀ Φ : Fr, St G Φ cX7_placeIn RX7 5 3 71 0 0 → Rt G Φ (Pi S Q) 0 0 (some .int) → Ex G Φ 5 0 [some (2, x0), some (0, x1), some (0, x2), none, none] [] S μ 0 0) : Ci G mX7_placeIn [(2, x0), (0, x1), (0, x2)] S μ Q :=
  call_of' (plainFor_of_name (by decide +kernel)) [some (2, x0), some (0, x1), some (0, x2), none, none] rfl (Nat.le_of_ble_eq_true rfl) (fun Φ hΦ hR => h Φ hΦ hR)
theorem bX7_placeIn_0 {G : Gm} {Φ : Fr} {S : List Sh} {μ : Mem} {Q : Int → Mem → Prop} (hΦ : St G Φ cX7_placeIn RX7 5 3 71 0 0) (hR : Rt G Φ (Pi S Q) 0 0 (some .int)) {x0 x1 x2 : Int} (h : So S x0 (.inl 7) ∧ (So S (μ x0 5) (.inl 5) ∧ (R32 (μ (μ x0 5) 0) ∧ (R32 (μ (μ x0 5) 1) ∧ (R32 x2 ∧ (Ai S (μ (μ x0 5) 3) 0 x1 ∧ (R32 (μ (μ (μ x0 5) 3) x1) ∧ (Cj G mX7_turnedIn [(2, x0), (0, x1), (1, (((μ (μ x0 5) 0) - (μ (μ x0 5) 1)) + x2))] S μ (fun r8 μ8 => So S (μ8 x0 1) (.inl 6) ∧ (Ai S (μ8 (μ8 x0 1) 5) 0 x1 ∧ (R32 (μ8 (μ8 (μ8 x0 1) 5) x1) ∧ Cj G mX7_leftOver [(1, ((μ (μ (μ x0 5) 3) x1) + r8)), (1, (μ8 (μ8 (μ8 x0 1) 5) x1))] S μ8 (fun r12 μ12 => Q r12 μ12)))))))))))) : Ex G Φ 5 0 [some (2, x0), some (0, x1), some (0, x2), none, none] [] S μ 0 0 := by
  obtain ⟨o1, h⟩ := h
  refine ex_aload_n hΦ dX7_placeIn_0 rfl o1.1 ?_
  refine ex_getf hΦ fl_X7_39 o1 dX7_placeIn_1 ?_
  obtain ⟨o2, h⟩ := h
  refine ex_getf hΦ fl_X7_110 o2 dX7_placeIn_4 ?_
  obtain ⟨o3, h⟩ := h
  refine ex_i2l hΦ dX7_placeIn_7 o3 ?_
  refine ex_aload_n hΦ dX7_placeIn_8 rfl o1.1 ?_
  refine ex_getf hΦ fl_X7_39 o1 dX7_placeIn_9 ?_
  refine ex_getf hΦ fl_X7_113 o2 dX7_placeIn_12 ?_
  obtain ⟨o4, h⟩ := h
  refine ex_i2l hΦ dX7_placeIn_15 o4 ?_
  refine ex_lsub hΦ dX7_placeIn_16 ?_
  refine ex_iload_n hΦ dX7_placeIn_17 rfl ?_
  obtain ⟨o5, h⟩ := h
  refine ex_i2l hΦ dX7_placeIn_18 o5 ?_
  refine ex_ladd hΦ dX7_placeIn_19 ?_
  refine ex_lstore_n (L' := [some (2, x0), some (0, x1), some (0, x2), some (1, (((μ (μ x0 5) 0) - (μ (μ x0 5) 1)) + x2)), none]) hΦ dX7_placeIn_20 (by decide) rfl ?_
  refine ex_aload_n hΦ dX7_placeIn_21 rfl o1.1 ?_
  refine ex_getf hΦ fl_X7_39 o1 dX7_placeIn_22 ?_
  refine ex_getf hΦ fl_X7_203 o2 dX7_placeIn_25 ?_
  refine ex_iload_n hΦ dX7_placeIn_28 rfl ?_
  obtain ⟨o6, h⟩ := h
  refine ex_iald' hΦ o6 dX7_placeIn_29 ?_
  obtain ⟨o7, h⟩ := h
  refine ex_i2l hΦ dX7_placeIn_30 o7 ?_
  refine ex_aload_n hΦ dX7_placeIn_31 rfl o1.1 ?_
  refine ex_iload_n hΦ dX7_placeIn_32 rfl ?_
  refine ex_lload_n hΦ dX7_placeIn_33 rfl ?_
  refine ex_callVj [(0, x1), (1, (((μ (μ x0 5) 0) - (μ (μ x0 5) 1)) + x2))] [(1, (((μ (μ x0 5) 0) - (μ (μ x0 5) 1)) + x2)), (0, x1), (2, x0), (1, (μ (μ (μ x0 5) 3) x1))] hΦ lkV_X7_317 ⟨by decide, by decide⟩ (Nat.le_of_ble_eq_true rfl) rfl (by decide) 7 (by decide) rfl o1 dX7_placeIn_34 rfl h (fun r8 μ8 h => ?_)
  refine ex_ladd hΦ dX7_placeIn_37 ?_
  refine ex_aload_n hΦ dX7_placeIn_38 rfl o1.1 ?_
  refine ex_getf hΦ fl_X7_19 o1 dX7_placeIn_39 ?_
  obtain ⟨o9, h⟩ := h
  refine ex_getf hΦ fl_X7_147 o9 dX7_placeIn_42 ?_
  refine ex_iload_n hΦ dX7_placeIn_45 rfl ?_
  obtain ⟨o10, h⟩ := h
  refine ex_iald' hΦ o10 dX7_placeIn_46 ?_
  obtain ⟨o11, h⟩ := h
  refine ex_i2l hΦ dX7_placeIn_47 o11 ?_
  refine ex_callSj [(1, ((μ (μ (μ x0 5) 3) x1) + r8)), (1, (μ8 (μ8 (μ8 x0 1) 5) x1))] [(1, (μ8 (μ8 (μ8 x0 1) 5) x1)), (1, ((μ (μ (μ x0 5) 3) x1) + r8))] hΦ lkS_X7_231 ⟨by decide, by decide⟩ (Nat.le_of_ble_eq_true rfl) rfl (by decide) dX7_placeIn_48 rfl h (fun r12 μ12 h => ?_)
  refine ex_l2i hΦ dX7_placeIn_51 ?_
  exact ex_returni hΦ hR dX7_placeIn_52 h
theorem eX7_turnedIn {G : Gm} {S : List Sh} {μ : Mem} {Q : Int → Mem → Prop} {x0 x1 x2 : Int} (h : ∀ Φ : Fr, St G Φ cX7_turnedIn RX7 4 2 48 0 0 → Rt G Φ (Pj S Q) 0 0 (some .long) → Ex G Φ 4 0 [some (2, x0), some (0, x1), some (1, x2), none] [] S μ 0 0) : Cj G mX7_turnedIn [(2, x0), (0, x1), (1, x2)] S μ Q :=
  call_of' (plainFor_of_name (by decide +kernel)) [some (2, x0), some (0, x1), some (1, x2), none] rfl (Nat.le_of_ble_eq_true rfl) (fun Φ hΦ hR => h Φ hΦ hR)
theorem bX7_turnedIn_0 {G : Gm} {Φ : Fr} {S : List Sh} {μ : Mem} {Q : Int → Mem → Prop} (hΦ : St G Φ cX7_turnedIn RX7 4 2 48 0 0) (hR : Rt G Φ (Pj S Q) 0 0 (some .long)) {x0 x1 x2 : Int} (h : So S x0 (.inl 7) ∧ (So S (μ x0 3) (.inl 3) ∧ (Ai S (μ (μ x0 3) 0) 1 x1 ∧ (Ai S (μ (μ x0 3) 1) 1 x1 ∧ Cj G mX7_floorPart [(1, ((μ (μ (μ x0 3) 0) x1) * x2)), (1, (μ (μ (μ x0 3) 1) x1))] S μ (fun r5 μ5 => Q r5 μ5))))) : Ex G Φ 4 0 [some (2, x0), some (0, x1), some (1, x2), none] [] S μ 0 0 := by
  obtain ⟨o1, h⟩ := h
  refine ex_aload_n hΦ dX7_turnedIn_0 rfl o1.1 ?_
  refine ex_getf hΦ fl_X7_29 o1 dX7_turnedIn_1 ?_
  obtain ⟨o2, h⟩ := h
  refine ex_getf hΦ fl_X7_154 o2 dX7_turnedIn_4 ?_
  refine ex_iload_n hΦ dX7_turnedIn_7 rfl ?_
  obtain ⟨o3, h⟩ := h
  refine ex_lald' hΦ o3 dX7_turnedIn_8 ?_
  refine ex_lload_n hΦ dX7_turnedIn_9 rfl ?_
  refine ex_lmul hΦ dX7_turnedIn_10 ?_
  refine ex_aload_n hΦ dX7_turnedIn_11 rfl o1.1 ?_
  refine ex_getf hΦ fl_X7_29 o1 dX7_turnedIn_12 ?_
  refine ex_getf hΦ fl_X7_158 o2 dX7_turnedIn_15 ?_
  refine ex_iload_n hΦ dX7_turnedIn_18 rfl ?_
  obtain ⟨o4, h⟩ := h
  refine ex_lald' hΦ o4 dX7_turnedIn_19 ?_
  refine ex_callSj [(1, ((μ (μ (μ x0 3) 0) x1) * x2)), (1, (μ (μ (μ x0 3) 1) x1))] [(1, (μ (μ (μ x0 3) 1) x1)), (1, ((μ (μ (μ x0 3) 0) x1) * x2))] hΦ lkS_X7_227 ⟨by decide, by decide⟩ (Nat.le_of_ble_eq_true rfl) rfl (by decide) dX7_turnedIn_20 rfl h (fun r5 μ5 h => ?_)
  exact ex_returnj hΦ hR dX7_turnedIn_23 h
theorem bX7_setMark_2 {G : Gm} {Φ : Fr} {S : List Sh} {μ : Mem} {Q : Mem → Prop} (hΦ : St G Φ cX7_setMark RX7 2 4 95 0 0) (hR : Rt G Φ (Pv S Q) 0 0 none) {x0 x1 : Int} (h : So S x0 (.inl 7) ∧ (So S (μ x0 1) (.inl 6) ∧ (R32 x1 ∧ (R32 (μ (μ x0 1) 0) ∧ (((μ (μ x0 1) 0) ≤ x1 → So S (μ x0 5) (.inl 5) ∧ (∀ m6 : Mem, m6 = mu μ (μ x0 5) 1 (μ (μ x0 5) 0) → (Q m6))) ∧ (¬ ((μ (μ x0 1) 0) ≤ x1) → So S (μ x0 5) (.inl 5) ∧ (Ci G mX7_placeIn [(2, x0), (0, x1), (0, 0)] S μ (fun r8 μ8 => Ai S (μ (μ x0 5) 3) 0 x1 ∧ (∀ m10 : Mem, m10 = mu μ8 (μ (μ x0 5) 3) x1 r8 → (Ex G Φ 2 2 [some (2, x0), some (0, (x1 + 1))] [] S m10 0 0)))))))))) : Ex G Φ 2 2 [some (2, x0), some (0, x1)] [] S μ 0 0 := by
  refine ex_iload_n hΦ dX7_setMark_2 rfl ?_
  obtain ⟨o1, h⟩ := h
  refine ex_aload_n hΦ dX7_setMark_3 rfl o1.1 ?_
  refine ex_getf hΦ fl_X7_19 o1 dX7_setMark_4 ?_
  obtain ⟨o2, h⟩ := h
  refine ex_getf hΦ fl_X7_95 o2 dX7_setMark_7 ?_
  obtain ⟨o3, h⟩ := h
  obtain ⟨o4, h⟩ := h
  refine ex_icmp_ge 34 hΦ dX7_setMark_10 (by decide) o3 o4 (fun c => ?_) (fun c => ?_)
  · have h := h.1 c
    refine ex_aload_n hΦ dX7_setMark_34 rfl o1.1 ?_
    refine ex_getf hΦ fl_X7_39 o1 dX7_setMark_35 ?_
    refine ex_aload_n hΦ dX7_setMark_38 rfl o1.1 ?_
    refine ex_getf hΦ fl_X7_39 o1 dX7_setMark_39 ?_
    obtain ⟨o5, h⟩ := h
    refine ex_getf hΦ fl_X7_110 o5 dX7_setMark_42 ?_
    obtain ⟨m6, hm6⟩ : ∃ m : Mem, m = mu μ (μ x0 5) 1 (μ (μ x0 5) 0) := ⟨_, rfl⟩
    have h := h m6 hm6
    refine ex_putf' hΦ fl_X7_113 o5 rfl rfl dX7_setMark_45 hm6 ?_
    exact ex_returnv hΦ hR dX7_setMark_48 h
  · have h := h.2 c
    refine ex_aload_n hΦ dX7_setMark_13 rfl o1.1 ?_
    refine ex_getf hΦ fl_X7_39 o1 dX7_setMark_14 ?_
    obtain ⟨o7, h⟩ := h
    refine ex_getf hΦ fl_X7_203 o7 dX7_setMark_17 ?_
    refine ex_iload_n hΦ dX7_setMark_20 rfl ?_
    refine ex_aload_n hΦ dX7_setMark_21 rfl o1.1 ?_
    refine ex_iload_n hΦ dX7_setMark_22 rfl ?_
    refine ex_iconst hΦ dX7_setMark_23 ?_
    refine ex_callVi [(0, x1), (0, 0)] [(0, 0), (0, x1), (2, x0), (0, x1), (2, (μ (μ x0 5) 3))] hΦ lkV_X7_150 ⟨by decide, by decide⟩ (Nat.le_of_ble_eq_true rfl) rfl (by decide) 7 (by decide) rfl o1 dX7_setMark_24 rfl h (fun r8 μ8 h => ?_)
    obtain ⟨o9, h⟩ := h
    obtain ⟨m10, hm10⟩ : ∃ m : Mem, m = mu μ8 (μ (μ x0 5) 3) x1 r8 := ⟨_, rfl⟩
    have h := h m10 hm10
    refine ex_iast'' hΦ o9 dX7_setMark_27 hm10 ?_
    refine ex_iinc (L' := [some (2, x0), some (0, (x1 + 1))]) hΦ dX7_setMark_28 rfl (by decide) rfl ?_
    refine ex_goto 2 hΦ dX7_setMark_31 (by decide) ?_
    exact h
theorem eX7_setMark {G : Gm} {S : List Sh} {μ : Mem} {Q : Mem → Prop} {x0 : Int} (h : ∀ Φ : Fr, St G Φ cX7_setMark RX7 2 4 95 0 0 → Rt G Φ (Pv S Q) 0 0 none → Ex G Φ 2 0 [some (2, x0), none] [] S μ 0 0) : Cv G mX7_setMark [(2, x0)] S μ Q :=
  call_of' (plainFor_of_name (by decide +kernel)) [some (2, x0), none] rfl (Nat.le_of_ble_eq_true rfl) (fun Φ hΦ hR => h Φ hΦ hR)
theorem bX7_setMark_0 {G : Gm} {Φ : Fr} {S : List Sh} {μ : Mem} {Q : Mem → Prop} (hΦ : St G Φ cX7_setMark RX7 2 4 95 0 0) (hR : Rt G Φ (Pv S Q) 0 0 none) {x0 : Int} (h : Ex G Φ 2 2 [some (2, x0), some (0, 0)] [] S μ 0 0) : Ex G Φ 2 0 [some (2, x0), none] [] S μ 0 0 := by
  refine ex_iconst hΦ dX7_setMark_0 ?_
  refine ex_istore_n (L' := [some (2, x0), some (0, 0)]) hΦ dX7_setMark_1 (by decide) rfl ?_
  exact h
theorem eX7_push {G : Gm} {S : List Sh} {μ : Mem} {Q : Mem → Prop} {x0 x1 x2 : Int} (h : ∀ Φ : Fr, St G Φ cX7_push RX7 3 5 116 0 0 → Rt G Φ (Pv S Q) 0 0 none → Ex G Φ 3 0 [some (2, x0), some (0, x1), some (0, x2)] [] S μ 0 0) : Cv G mX7_push [(2, x0), (0, x1), (0, x2)] S μ Q :=
  call_of' (plainFor_of_name (by decide +kernel)) [some (2, x0), some (0, x1), some (0, x2)] rfl (Nat.le_of_ble_eq_true rfl) (fun Φ hΦ hR => h Φ hΦ hR)
theorem bX7_push_0 {G : Gm} {Φ : Fr} {S : List Sh} {μ : Mem} {Q : Mem → Prop} (hΦ : St G Φ cX7_push RX7 3 5 116 0 0) (hR : Rt G Φ (Pv S Q) 0 0 none) {x0 x1 x2 : Int} (h : So S x0 (.inl 7) ∧ (Cv G mX7_setMark [(2, x0)] S μ (fun μ2 => So S (μ2 x0 5) (.inl 5) ∧ (Ai S (μ2 (μ2 x0 5) 3) 0 x1 ∧ (R32 ((μ2 (μ2 (μ2 x0 5) 3) x1) + x2) ∧ (So S (μ2 x0 1) (.inl 6) ∧ (Ai S (μ2 (μ2 x0 1) 5) 0 x1 ∧ (R32 (μ2 (μ2 (μ2 x0 1) 5) x1) ∧ (Cj G mX7_leftOver [(1, ((μ2 (μ2 (μ2 x0 5) 3) x1) + x2)), (1, (μ2 (μ2 (μ2 x0 1) 5) x1))] S μ2 (fun r9 μ9 => ∀ m10 : Mem, m10 = mu μ9 (μ2 (μ2 x0 5) 3) x1 r9 → (Q m10))))))))))) : Ex G Φ 3 0 [some (2, x0), some (0, x1), some (0, x2)] [] S μ 0 0 := by
  obtain ⟨o1, h⟩ := h
  refine ex_aload_n hΦ dX7_push_0 rfl o1.1 ?_
  refine ex_callVv [] [(2, x0)] hΦ lkV_X7_196 ⟨by decide, by decide⟩ (Nat.le_of_ble_eq_true rfl) rfl (by decide) 7 (by decide) rfl o1 dX7_push_1 rfl h (fun μ2 h => ?_)
  refine ex_aload_n hΦ dX7_push_4 rfl o1.1 ?_
  refine ex_getf hΦ fl_X7_39 o1 dX7_push_5 ?_
  obtain ⟨o3, h⟩ := h
  refine ex_getf hΦ fl_X7_203 o3 dX7_push_8 ?_
  refine ex_iload_n hΦ dX7_push_11 rfl ?_
  refine ex_aload_n hΦ dX7_push_12 rfl o1.1 ?_
  refine ex_getf hΦ fl_X7_39 o1 dX7_push_13 ?_
  refine ex_getf hΦ fl_X7_203 o3 dX7_push_16 ?_
  refine ex_iload_n hΦ dX7_push_19 rfl ?_
  obtain ⟨o4, h⟩ := h
  refine ex_iald' hΦ o4 dX7_push_20 ?_
  refine ex_iload_n hΦ dX7_push_21 rfl ?_
  refine ex_iadd hΦ dX7_push_22 ?_
  obtain ⟨o5, h⟩ := h
  refine ex_i2l hΦ dX7_push_23 o5 ?_
  refine ex_aload_n hΦ dX7_push_24 rfl o1.1 ?_
  refine ex_getf hΦ fl_X7_19 o1 dX7_push_25 ?_
  obtain ⟨o6, h⟩ := h
  refine ex_getf hΦ fl_X7_147 o6 dX7_push_28 ?_
  refine ex_iload_n hΦ dX7_push_31 rfl ?_
  obtain ⟨o7, h⟩ := h
  refine ex_iald' hΦ o7 dX7_push_32 ?_
  obtain ⟨o8, h⟩ := h
  refine ex_i2l hΦ dX7_push_33 o8 ?_
  refine ex_callSj [(1, ((μ2 (μ2 (μ2 x0 5) 3) x1) + x2)), (1, (μ2 (μ2 (μ2 x0 1) 5) x1))] [(1, (μ2 (μ2 (μ2 x0 1) 5) x1)), (1, ((μ2 (μ2 (μ2 x0 5) 3) x1) + x2)), (0, x1), (2, (μ2 (μ2 x0 5) 3))] hΦ lkS_X7_231 ⟨by decide, by decide⟩ (Nat.le_of_ble_eq_true rfl) rfl (by decide) dX7_push_34 rfl h (fun r9 μ9 h => ?_)
  refine ex_l2i hΦ dX7_push_37 ?_
  obtain ⟨m10, hm10⟩ : ∃ m : Mem, m = mu μ9 (μ2 (μ2 x0 5) 3) x1 r9 := ⟨_, rfl⟩
  have h := h m10 hm10
  refine ex_iast'' hΦ o4 dX7_push_38 hm10 ?_
  exact ex_returnv hΦ hR dX7_push_39 h
theorem eX7_draw {G : Gm} {S : List Sh} {μ : Mem} {Q : Int → Mem → Prop} {x0 x1 : Int} (h : ∀ Φ : Fr, St G Φ cX7_draw RX7 2 2 48 0 0 → Rt G Φ (Pi S Q) 0 0 (some .int) → Ex G Φ 2 0 [some (2, x0), some (0, x1)] [] S μ 0 0) : Ci G mX7_draw [(2, x0), (0, x1)] S μ Q :=
  call_of' (plainFor_of_name (by decide +kernel)) [some (2, x0), some (0, x1)] rfl (Nat.le_of_ble_eq_true rfl) (fun Φ hΦ hR => h Φ hΦ hR)
theorem bX7_draw_0 {G : Gm} {Φ : Fr} {S : List Sh} {μ : Mem} {Q : Int → Mem → Prop} (hΦ : St G Φ cX7_draw RX7 2 2 48 0 0) (hR : Rt G Φ (Pi S Q) 0 0 (some .int)) {x0 x1 : Int} (h : So S x0 (.inl 7) ∧ (∀ m2 : Mem, m2 = mu μ x0 12 (mand (((μ x0 12) * 1103515245) + 12345) 2147483647) → (R32 (m2 x0 12) ∧ (R32 (Int.tdiv (m2 x0 12) 65536) ∧ (R32 x1 ∧ Cj G mX7_leftOver [(1, (Int.tdiv (m2 x0 12) 65536)), (1, x1)] S m2 (fun r6 μ6 => Q r6 μ6)))))) : Ex G Φ 2 0 [some (2, x0), some (0, x1)] [] S μ 0 0 := by
  obtain ⟨o1, h⟩ := h
  refine ex_aload_n hΦ dX7_draw_0 rfl o1.1 ?_
  refine ex_aload_n hΦ dX7_draw_1 rfl o1.1 ?_
  refine ex_getf hΦ fl_X7_289 o1 dX7_draw_2 ?_
  refine ex_ldcw hΦ dX7_draw_5 qw620 ?_
  refine ex_imul hΦ dX7_draw_8 ?_
  refine ex_sipush hΦ dX7_draw_9 (by decide) ?_
  refine ex_iadd hΦ dX7_draw_12 ?_
  refine ex_ldcw hΦ dX7_draw_13 qw621 ?_
  refine ex_iand hΦ dX7_draw_16 ?_
  obtain ⟨m2, hm2⟩ : ∃ m : Mem, m = mu μ x0 12 (mand (((μ x0 12) * 1103515245) + 12345) 2147483647) := ⟨_, rfl⟩
  have h := h m2 hm2
  refine ex_putf' hΦ fl_X7_289 o1 rfl rfl dX7_draw_17 hm2 ?_
  refine ex_aload_n hΦ dX7_draw_20 rfl o1.1 ?_
  refine ex_getf hΦ fl_X7_289 o1 dX7_draw_21 ?_
  refine ex_ldcw hΦ dX7_draw_24 qw622 ?_
  obtain ⟨o3, h⟩ := h
  refine ex_idiv hΦ dX7_draw_27 o3 ⟨by decide, by decide⟩ (by decide) ?_
  obtain ⟨o4, h⟩ := h
  refine ex_i2l hΦ dX7_draw_28 o4 ?_
  refine ex_iload_n hΦ dX7_draw_29 rfl ?_
  obtain ⟨o5, h⟩ := h
  refine ex_i2l hΦ dX7_draw_30 o5 ?_
  refine ex_callSj [(1, (Int.tdiv (m2 x0 12) 65536)), (1, x1)] [(1, x1), (1, (Int.tdiv (m2 x0 12) 65536))] hΦ lkS_X7_231 ⟨by decide, by decide⟩ (Nat.le_of_ble_eq_true rfl) rfl (by decide) dX7_draw_31 rfl h (fun r6 μ6 h => ?_)
  refine ex_l2i hΦ dX7_draw_34 ?_
  exact ex_returni hΦ hR dX7_draw_35 h
theorem bX7_feastsToday_4 {G : Gm} {Φ : Fr} {S : List Sh} {μ : Mem} {Q : Int → Mem → Prop} (hΦ : St G Φ cX7_feastsToday RX7 3 5 118 0 0) (hR : Rt G Φ (Pi S Q) 0 0 (some .int)) {x0 x1 x2 : Int} (h : So S x0 (.inl 7) ∧ (So S (μ x0 1) (.inl 6) ∧ (R32 x2 ∧ (R32 (μ (μ x0 1) 2) ∧ (((μ (μ x0 1) 2) ≤ x2 → Q x1 μ) ∧ (¬ ((μ (μ x0 1) 2) ≤ x2) → 0 ≤ x2 ∧ (x2 ≤ 31 ∧ (Ci G mX7_areAllIn [(2, x0), (0, 0), (0, (1 * 2 ^ (Int.toNat x2)))] S μ (fun r7 μ7 => R32 r7 ∧ ((r7 = 0 → Ex G Φ 3 4 [some (2, x0), some (0, x1), some (0, (x2 + 1))] [] S μ7 0 0) ∧ (¬ (r7 = 0) → Ex G Φ 3 4 [some (2, x0), some (0, (mor x1 (1 * 2 ^ (Int.toNat x2)))), some (0, (x2 + 1))] [] S μ7 0 0))))))))))) : Ex G Φ 3 4 [some (2, x0), some (0, x1), some (0, x2)] [] S μ 0 0 := by
  refine ex_iload_n hΦ dX7_feastsToday_4 rfl ?_
  obtain ⟨o1, h⟩ := h
  refine ex_aload_n hΦ dX7_feastsToday_5 rfl o1.1 ?_
  refine ex_getf hΦ fl_X7_19 o1 dX7_feastsToday_6 ?_
  obtain ⟨o2, h⟩ := h
  refine ex_getf hΦ fl_X7_104 o2 dX7_feastsToday_9 ?_
  obtain ⟨o3, h⟩ := h
  obtain ⟨o4, h⟩ := h
  refine ex_icmp_ge 38 hΦ dX7_feastsToday_12 (by decide) o3 o4 (fun c => ?_) (fun c => ?_)
  · have h := h.1 c
    refine ex_iload_n hΦ dX7_feastsToday_38 rfl ?_
    exact ex_returni hΦ hR dX7_feastsToday_39 h
  · have h := h.2 c
    refine ex_aload_n hΦ dX7_feastsToday_15 rfl o1.1 ?_
    refine ex_iconst hΦ dX7_feastsToday_16 ?_
    refine ex_iconst hΦ dX7_feastsToday_17 ?_
    refine ex_iload_n hΦ dX7_feastsToday_18 rfl ?_
    obtain ⟨o5, h⟩ := h
    obtain ⟨o6, h⟩ := h
    refine ex_ishl hΦ dX7_feastsToday_19 o5 o6 ?_
    refine ex_callVi [(0, 0), (0, (1 * 2 ^ (Int.toNat x2)))] [(0, (1 * 2 ^ (Int.toNat x2))), (0, 0), (2, x0)] hΦ lkV_X7_324 ⟨by decide, by decide⟩ (Nat.le_of_ble_eq_true rfl) rfl (by decide) 7 (by decide) rfl o1 dX7_feastsToday_20 rfl h (fun r7 μ7 h => ?_)
    obtain ⟨o8, h⟩ := h
    refine ex_if_eq 32 hΦ dX7_feastsToday_23 (by decide) o8 (fun c => ?_) (fun c => ?_)
    · have h := h.1 c
      refine ex_iinc (L' := [some (2, x0), some (0, x1), some (0, (x2 + 1))]) hΦ dX7_feastsToday_32 rfl (by decide) rfl ?_
      refine ex_goto 4 hΦ dX7_feastsToday_35 (by decide) ?_
      exact h
    · have h := h.2 c
      refine ex_iload_n hΦ dX7_feastsToday_26 rfl ?_
      refine ex_iconst hΦ dX7_feastsToday_27 ?_
      refine ex_iload_n hΦ dX7_feastsToday_28 rfl ?_
      refine ex_ishl hΦ dX7_feastsToday_29 o5 o6 ?_
      refine ex_ior hΦ dX7_feastsToday_30 ?_
      refine ex_istore_n (L' := [some (2, x0), some (0, (mor x1 (1 * 2 ^ (Int.toNat x2)))), some (0, x2)]) hΦ dX7_feastsToday_31 (by decide) rfl ?_
      refine ex_iinc (L' := [some (2, x0), some (0, (mor x1 (1 * 2 ^ (Int.toNat x2)))), some (0, (x2 + 1))]) hΦ dX7_feastsToday_32 rfl (by decide) rfl ?_
      refine ex_goto 4 hΦ dX7_feastsToday_35 (by decide) ?_
      exact h
theorem eX7_feastsToday {G : Gm} {S : List Sh} {μ : Mem} {Q : Int → Mem → Prop} {x0 : Int} (h : ∀ Φ : Fr, St G Φ cX7_feastsToday RX7 3 5 118 0 0 → Rt G Φ (Pi S Q) 0 0 (some .int) → Ex G Φ 3 0 [some (2, x0), none, none] [] S μ 0 0) : Ci G mX7_feastsToday [(2, x0)] S μ Q :=
  call_of' (plainFor_of_name (by decide +kernel)) [some (2, x0), none, none] rfl (Nat.le_of_ble_eq_true rfl) (fun Φ hΦ hR => h Φ hΦ hR)
theorem bX7_feastsToday_0 {G : Gm} {Φ : Fr} {S : List Sh} {μ : Mem} {Q : Int → Mem → Prop} (hΦ : St G Φ cX7_feastsToday RX7 3 5 118 0 0) (hR : Rt G Φ (Pi S Q) 0 0 (some .int)) {x0 : Int} (h : Ex G Φ 3 4 [some (2, x0), some (0, 0), some (0, 0)] [] S μ 0 0) : Ex G Φ 3 0 [some (2, x0), none, none] [] S μ 0 0 := by
  refine ex_iconst hΦ dX7_feastsToday_0 ?_
  refine ex_istore_n (L' := [some (2, x0), some (0, 0), none]) hΦ dX7_feastsToday_1 (by decide) rfl ?_
  refine ex_iconst hΦ dX7_feastsToday_2 ?_
  refine ex_istore_n (L' := [some (2, x0), some (0, 0), some (0, 0)]) hΦ dX7_feastsToday_3 (by decide) rfl ?_
  exact h
theorem bX7_areAllIn_2 {G : Gm} {Φ : Fr} {S : List Sh} {μ : Mem} {Q : Int → Mem → Prop} (hΦ : St G Φ cX7_areAllIn RX7 4 4 95 0 0) (hR : Rt G Φ (Pi S Q) 0 0 (some .boolean)) {x0 x1 x2 x3 : Int} (h : So S x0 (.inl 7) ∧ (So S (μ x0 1) (.inl 6) ∧ (R32 x3 ∧ (R32 (μ (μ x0 1) 2) ∧ (((μ (μ x0 1) 2) ≤ x3 → Q 1 μ) ∧ (¬ ((μ (μ x0 1) 2) ≤ x3) → R32 x2 ∧ (0 ≤ x3 ∧ (x3 ≤ 31 ∧ (R32 ((x2 / 2 ^ (Int.toNat x3)) % 2) ∧ ((((x2 / 2 ^ (Int.toNat x3)) % 2) ≠ 1 → Ex G Φ 4 2 [some (2, x0), some (0, x1), some (0, x2), some (0, (x3 + 1))] [] S μ 0 0) ∧ (((x2 / 2 ^ (Int.toNat x3)) % 2) = 1 → Ai S (μ (μ x0 1) 11) 0 x3 ∧ (Ci G mX7_placeIn [(2, x0), (0, (μ (μ (μ x0 1) 11) x3)), (0, x1)] S μ (fun r10 μ10 => So S (μ10 x0 1) (.inl 6) ∧ (Ai S (μ10 (μ10 x0 1) 12) 0 x3 ∧ (R32 r10 ∧ (R32 (μ10 (μ10 (μ10 x0 1) 12) x3) ∧ ((r10 = (μ10 (μ10 (μ10 x0 1) 12) x3) → Ex G Φ 4 2 [some (2, x0), some (0, x1), some (0, x2), some (0, (x3 + 1))] [] S μ10 0 0) ∧ (¬ (r10 = (μ10 (μ10 (μ10 x0 1) 12) x3)) → Q 0 μ10)))))))))))))))))) : Ex G Φ 4 2 [some (2, x0), some (0, x1), some (0, x2), some (0, x3)] [] S μ 0 0 := by
  refine ex_iload_n hΦ dX7_areAllIn_2 rfl ?_
  obtain ⟨o1, h⟩ := h
  refine ex_aload_n hΦ dX7_areAllIn_3 rfl o1.1 ?_
  refine ex_getf hΦ fl_X7_19 o1 dX7_areAllIn_4 ?_
  obtain ⟨o2, h⟩ := h
  refine ex_getf hΦ fl_X7_104 o2 dX7_areAllIn_7 ?_
  obtain ⟨o3, h⟩ := h
  obtain ⟨o4, h⟩ := h
  refine ex_icmp_ge 56 hΦ dX7_areAllIn_10 (by decide) o3 o4 (fun c => ?_) (fun c => ?_)
  · have h := h.1 c
    refine ex_iconst hΦ dX7_areAllIn_56 ?_
    exact ex_returnz hΦ hR (by decide) (by decide) dX7_areAllIn_57 h
  · have h := h.2 c
    refine ex_iload_n hΦ dX7_areAllIn_13 rfl ?_
    refine ex_iload_n hΦ dX7_areAllIn_14 rfl ?_
    obtain ⟨o5, h⟩ := h
    obtain ⟨o6, h⟩ := h
    obtain ⟨o7, h⟩ := h
    refine ex_ishr hΦ dX7_areAllIn_15 o5 o6 o7 ?_
    refine ex_iconst hΦ dX7_areAllIn_16 ?_
    refine ex_iand1 hΦ dX7_areAllIn_17 ?_
    refine ex_iconst hΦ dX7_areAllIn_18 ?_
    obtain ⟨o8, h⟩ := h
    refine ex_icmp_ne 50 hΦ dX7_areAllIn_19 (by decide) o8 ⟨by decide, by decide⟩ (fun c => ?_) (fun c => ?_)
    · have h := h.1 c
      refine ex_iinc (L' := [some (2, x0), some (0, x1), some (0, x2), some (0, (x3 + 1))]) hΦ dX7_areAllIn_50 rfl (by decide) rfl ?_
      refine ex_goto 2 hΦ dX7_areAllIn_53 (by decide) ?_
      exact h
    · have h := h.2 c
      refine ex_aload_n hΦ dX7_areAllIn_22 rfl o1.1 ?_
      refine ex_aload_n hΦ dX7_areAllIn_23 rfl o1.1 ?_
      refine ex_getf hΦ fl_X7_19 o1 dX7_areAllIn_24 ?_
      refine ex_getf hΦ fl_X7_182 o2 dX7_areAllIn_27 ?_
      refine ex_iload_n hΦ dX7_areAllIn_30 rfl ?_
      obtain ⟨o9, h⟩ := h
      refine ex_iald' hΦ o9 dX7_areAllIn_31 ?_
      refine ex_iload_n hΦ dX7_areAllIn_32 rfl ?_
      refine ex_callVi [(0, (μ (μ (μ x0 1) 11) x3)), (0, x1)] [(0, x1), (0, (μ (μ (μ x0 1) 11) x3)), (2, x0)] hΦ lkV_X7_150 ⟨by decide, by decide⟩ (Nat.le_of_ble_eq_true rfl) rfl (by decide) 7 (by decide) rfl o1 dX7_areAllIn_33 rfl h (fun r10 μ10 h => ?_)
      refine ex_aload_n hΦ dX7_areAllIn_36 rfl o1.1 ?_
      refine ex_getf hΦ fl_X7_19 o1 dX7_areAllIn_37 ?_
      obtain ⟨o11, h⟩ := h
      refine ex_getf hΦ fl_X7_185 o11 dX7_areAllIn_40 ?_
      refine ex_iload_n hΦ dX7_areAllIn_43 rfl ?_
      obtain ⟨o12, h⟩ := h
      refine ex_iald' hΦ o12 dX7_areAllIn_44 ?_
      obtain ⟨o13, h⟩ := h
      obtain ⟨o14, h⟩ := h
      refine ex_icmp_eq 50 hΦ dX7_areAllIn_45 (by decide) o13 o14 (fun c => ?_) (fun c => ?_)
      · have h := h.1 c
        refine ex_iinc (L' := [some (2, x0), some (0, x1), some (0, x2), some (0, (x3 + 1))]) hΦ dX7_areAllIn_50 rfl (by decide) rfl ?_
        refine ex_goto 2 hΦ dX7_areAllIn_53 (by decide) ?_
        exact h
      · have h := h.2 c
        refine ex_iconst hΦ dX7_areAllIn_48 ?_
        exact ex_returnz hΦ hR (by decide) (by decide) dX7_areAllIn_49 h
theorem eX7_areAllIn {G : Gm} {S : List Sh} {μ : Mem} {Q : Int → Mem → Prop} {x0 x1 x2 : Int} (h : ∀ Φ : Fr, St G Φ cX7_areAllIn RX7 4 4 95 0 0 → Rt G Φ (Pi S Q) 0 0 (some .boolean) → Ex G Φ 4 0 [some (2, x0), some (0, x1), some (0, x2), none] [] S μ 0 0) : Ci G mX7_areAllIn [(2, x0), (0, x1), (0, x2)] S μ Q :=
  call_of' (plainFor_of_name (by decide +kernel)) [some (2, x0), some (0, x1), some (0, x2), none] rfl (Nat.le_of_ble_eq_true rfl) (fun Φ hΦ hR => h Φ hΦ hR)
theorem bX7_areAllIn_0 {G : Gm} {Φ : Fr} {S : List Sh} {μ : Mem} {Q : Int → Mem → Prop} (hΦ : St G Φ cX7_areAllIn RX7 4 4 95 0 0) (hR : Rt G Φ (Pi S Q) 0 0 (some .boolean)) {x0 x1 x2 : Int} (h : Ex G Φ 4 2 [some (2, x0), some (0, x1), some (0, x2), some (0, 0)] [] S μ 0 0) : Ex G Φ 4 0 [some (2, x0), some (0, x1), some (0, x2), none] [] S μ 0 0 := by
  refine ex_iconst hΦ dX7_areAllIn_0 ?_
  refine ex_istore_n (L' := [some (2, x0), some (0, x1), some (0, x2), some (0, 0)]) hΦ dX7_areAllIn_1 (by decide) rfl ?_
  exact h
theorem bX7_dayOfAll_168 {G : Gm} {Φ : Fr} {S : List Sh} {μ : Mem} {Q : Int → Mem → Prop} (hΦ : St G Φ cX7_dayOfAll RX7 18 5 118 0 0) (hR : Rt G Φ (Pi S Q) 0 0 (some .int)) {x0 x1 x2 x3 x4 x6 x7 x9 x11 x13 x15 x17 : Int} (h : R32 x17 ∧ (R64 x17 ∧ (R64 x4 ∧ ((x4 < x17 → Q (-1) μ) ∧ (¬ (x4 < x17) → R64 x13 ∧ (R64 x15 ∧ ((x13 < x15 → Ex G Φ 18 209 [some (2, x0), some (0, x1), some (0, x2), some (0, x3), some (1, x4), none, some (0, x6), some (1, x7), none, some (1, x9), none, some (1, x11), none, some (1, x13), none, some (1, x15), none, some (0, x17)] [] S μ 0 0) ∧ (¬ (x13 < x15) → R64 (x15 + x7) ∧ (((x15 + x7) ≤ x13 → Ex G Φ 18 209 [some (2, x0), some (0, x1), some (0, x2), some (0, x3), some (1, x4), none, some (0, x6), some (1, x7), none, some (1, x9), none, some (1, x11), none, some (1, x13), none, some (1, x15), none, some (0, x17)] [] S μ 0 0) ∧ (¬ ((x15 + x7) ≤ x13) → So S x0 (.inl 7) ∧ (Ci G mX7_areAllIn [(2, x0), (0, x17), (0, x1)] S μ (fun r8 μ8 => R32 r8 ∧ ((r8 = 0 → Ex G Φ 18 209 [some (2, x0), some (0, x1), some (0, x2), some (0, x3), some (1, x4), none, some (0, x6), some (1, x7), none, some (1, x9), none, some (1, x11), none, some (1, x13), none, some (1, x15), none, some (0, x17)] [] S μ8 0 0) ∧ (¬ (r8 = 0) → Q x17 μ8)))))))))))))) : Ex G Φ 18 168 [some (2, x0), some (0, x1), some (0, x2), some (0, x3), some (1, x4), none, some (0, x6), some (1, x7), none, some (1, x9), none, some (1, x11), none, some (1, x13), none, some (1, x15), none, some (0, x17)] [] S μ 0 0 := by
  refine ex_iload hΦ dX7_dayOfAll_168 rfl ?_
  obtain ⟨o1, h⟩ := h
  refine ex_i2l hΦ dX7_dayOfAll_170 o1 ?_
  refine ex_lload hΦ dX7_dayOfAll_171 rfl ?_
  obtain ⟨o2, h⟩ := h
  obtain ⟨o3, h⟩ := h
  refine ex_lcmp hΦ dX7_dayOfAll_173 o2 o3 ?_
  refine ex_lif_gt 237 hΦ dX7_dayOfAll_174 (by decide) (fun c => ?_) (fun c => ?_)
  · have h := h.1 c
    refine ex_iconst hΦ dX7_dayOfAll_237 ?_
    exact ex_returni hΦ hR dX7_dayOfAll_238 h
  · have h := h.2 c
    refine ex_lload hΦ dX7_dayOfAll_177 rfl ?_
    refine ex_lload hΦ dX7_dayOfAll_179 rfl ?_
    obtain ⟨o4, h⟩ := h
    obtain ⟨o5, h⟩ := h
    refine ex_lcmp hΦ dX7_dayOfAll_181 o4 o5 ?_
    refine ex_lif_lt 209 hΦ dX7_dayOfAll_182 (by decide) (fun c => ?_) (fun c => ?_)
    · have h := h.1 c
      exact h
    · have h := h.2 c
      refine ex_lload hΦ dX7_dayOfAll_185 rfl ?_
      refine ex_lload hΦ dX7_dayOfAll_187 rfl ?_
      refine ex_lload hΦ dX7_dayOfAll_189 rfl ?_
      refine ex_ladd hΦ dX7_dayOfAll_191 ?_
      obtain ⟨o6, h⟩ := h
      refine ex_lcmp hΦ dX7_dayOfAll_192 o4 o6 ?_
      refine ex_lif_ge 209 hΦ dX7_dayOfAll_193 (by decide) (fun c => ?_) (fun c => ?_)
      · have h := h.1 c
        exact h
      · have h := h.2 c
        obtain ⟨o7, h⟩ := h
        refine ex_aload_n hΦ dX7_dayOfAll_196 rfl o7.1 ?_
        refine ex_iload hΦ dX7_dayOfAll_197 rfl ?_
        refine ex_iload_n hΦ dX7_dayOfAll_199 rfl ?_
        refine ex_callVi [(0, x17), (0, x1)] [(0, x1), (0, x17), (2, x0)] hΦ lkV_X7_324 ⟨by decide, by decide⟩ (Nat.le_of_ble_eq_true rfl) rfl (by decide) 7 (by decide) rfl o7 dX7_dayOfAll_200 rfl h (fun r8 μ8 h => ?_)
        obtain ⟨o9, h⟩ := h
        refine ex_if_eq 209 hΦ dX7_dayOfAll_203 (by decide) o9 (fun c => ?_) (fun c => ?_)
        · have h := h.1 c
          exact h
        · have h := h.2 c
          refine ex_iload hΦ dX7_dayOfAll_206 rfl ?_
          exact ex_returni hΦ hR dX7_dayOfAll_208 h
theorem bX7_dayOfAll_209 {G : Gm} {Φ : Fr} {S : List Sh} {μ : Mem} {Q : Int → Mem → Prop} (hΦ : St G Φ cX7_dayOfAll RX7 18 5 118 0 0) (hR : Rt G Φ (Pi S Q) 0 0 (some .int)) {x0 x1 x2 x3 x4 x6 x7 x9 x11 x13 x15 x17 : Int} (h : R64 (x13 + x11) ∧ (R64 x9 ∧ (((x13 + x11) < x9 → Ex G Φ 18 168 [some (2, x0), some (0, x1), some (0, x2), some (0, x3), some (1, x4), none, some (0, x6), some (1, x7), none, some (1, x9), none, some (1, x11), none, some (1, (x13 + x11)), none, some (1, x15), none, some (0, (x17 + 1))] [] S μ 0 0) ∧ (¬ ((x13 + x11) < x9) → Ex G Φ 18 168 [some (2, x0), some (0, x1), some (0, x2), some (0, x3), some (1, x4), none, some (0, x6), some (1, x7), none, some (1, x9), none, some (1, x11), none, some (1, ((x13 + x11) - x9)), none, some (1, x15), none, some (0, (x17 + 1))] [] S μ 0 0)))) : Ex G Φ 18 209 [some (2, x0), some (0, x1), some (0, x2), some (0, x3), some (1, x4), none, some (0, x6), some (1, x7), none, some (1, x9), none, some (1, x11), none, some (1, x13), none, some (1, x15), none, some (0, x17)] [] S μ 0 0 := by
  refine ex_lload hΦ dX7_dayOfAll_209 rfl ?_
  refine ex_lload hΦ dX7_dayOfAll_211 rfl ?_
  refine ex_ladd hΦ dX7_dayOfAll_213 ?_
  refine ex_lstore (L' := [some (2, x0), some (0, x1), some (0, x2), some (0, x3), some (1, x4), none, some (0, x6), some (1, x7), none, some (1, x9), none, some (1, x11), none, some (1, (x13 + x11)), none, some (1, x15), none, some (0, x17)]) hΦ dX7_dayOfAll_214 (by decide) rfl ?_
  refine ex_lload hΦ dX7_dayOfAll_216 rfl ?_
  refine ex_lload hΦ dX7_dayOfAll_218 rfl ?_
  obtain ⟨o1, h⟩ := h
  obtain ⟨o2, h⟩ := h
  refine ex_lcmp hΦ dX7_dayOfAll_220 o1 o2 ?_
  refine ex_lif_lt 231 hΦ dX7_dayOfAll_221 (by decide) (fun c => ?_) (fun c => ?_)
  · have h := h.1 c
    refine ex_iinc (L' := [some (2, x0), some (0, x1), some (0, x2), some (0, x3), some (1, x4), none, some (0, x6), some (1, x7), none, some (1, x9), none, some (1, x11), none, some (1, (x13 + x11)), none, some (1, x15), none, some (0, (x17 + 1))]) hΦ dX7_dayOfAll_231 rfl (by decide) rfl ?_
    refine ex_goto 168 hΦ dX7_dayOfAll_234 (by decide) ?_
    exact h
  · have h := h.2 c
    refine ex_lload hΦ dX7_dayOfAll_224 rfl ?_
    refine ex_lload hΦ dX7_dayOfAll_226 rfl ?_
    refine ex_lsub hΦ dX7_dayOfAll_228 ?_
    refine ex_lstore (L' := [some (2, x0), some (0, x1), some (0, x2), some (0, x3), some (1, x4), none, some (0, x6), some (1, x7), none, some (1, x9), none, some (1, x11), none, some (1, ((x13 + x11) - x9)), none, some (1, x15), none, some (0, x17)]) hΦ dX7_dayOfAll_229 (by decide) rfl ?_
    refine ex_iinc (L' := [some (2, x0), some (0, x1), some (0, x2), some (0, x3), some (1, x4), none, some (0, x6), some (1, x7), none, some (1, x9), none, some (1, x11), none, some (1, ((x13 + x11) - x9)), none, some (1, x15), none, some (0, (x17 + 1))]) hΦ dX7_dayOfAll_231 rfl (by decide) rfl ?_
    refine ex_goto 168 hΦ dX7_dayOfAll_234 (by decide) ?_
    exact h
theorem eX7_dayOfAll {G : Gm} {S : List Sh} {μ : Mem} {Q : Int → Mem → Prop} {x0 x1 x2 : Int} (h : ∀ Φ : Fr, St G Φ cX7_dayOfAll RX7 18 5 118 0 0 → Rt G Φ (Pi S Q) 0 0 (some .int) → Ex G Φ 18 0 [some (2, x0), some (0, x1), some (0, x2), none, none, none, none, none, none, none, none, none, none, none, none, none, none, none] [] S μ 0 0) : Ci G mX7_dayOfAll [(2, x0), (0, x1), (0, x2)] S μ Q :=
  call_of' (plainFor_of_name (by decide +kernel)) [some (2, x0), some (0, x1), some (0, x2), none, none, none, none, none, none, none, none, none, none, none, none, none, none, none] rfl (Nat.le_of_ble_eq_true rfl) (fun Φ hΦ hR => h Φ hΦ hR)
theorem bX7_dayOfAll_0 {G : Gm} {Φ : Fr} {S : List Sh} {μ : Mem} {Q : Int → Mem → Prop} (hΦ : St G Φ cX7_dayOfAll RX7 18 5 118 0 0) (hR : Rt G Φ (Pi S Q) 0 0 (some .int)) {x0 x1 x2 : Int} (h : So S x0 (.inl 7) ∧ (Ci G mX7_leaderOf [(2, x0), (0, x1)] S μ (fun r2 μ2 => R32 r2 ∧ ((r2 ≠ (-1) → R32 x2 ∧ (Ci G mX7_wheelsOf [(2, x0), (0, x1)] S μ2 (fun r5 μ5 => Cj G mX7_roundOf [(2, x0), (0, r5)] S μ5 (fun r6 μ6 => R64 x2 ∧ (R64 (r6 - 1) ∧ (So S (μ6 x0 1) (.inl 6) ∧ (Ai S (μ6 (μ6 x0 1) 11) 0 r2 ∧ (So S (μ6 x0 3) (.inl 3) ∧ (Ai S (μ6 (μ6 x0 3) 1) 1 (μ6 (μ6 (μ6 x0 1) 11) r2) ∧ (Ai S (μ6 (μ6 x0 1) 5) 0 (μ6 (μ6 (μ6 x0 1) 11) r2) ∧ (R32 (μ6 (μ6 (μ6 x0 1) 5) (μ6 (μ6 (μ6 x0 1) 11) r2)) ∧ (Ai S (μ6 (μ6 x0 3) 0) 1 (μ6 (μ6 (μ6 x0 1) 11) r2) ∧ (Cj G mX7_leftOver [(1, (μ6 (μ6 (μ6 x0 3) 0) (μ6 (μ6 (μ6 x0 1) 11) r2))), (1, ((μ6 (μ6 (μ6 x0 3) 1) (μ6 (μ6 (μ6 x0 1) 11) r2)) * (μ6 (μ6 (μ6 x0 1) 5) (μ6 (μ6 (μ6 x0 1) 11) r2))))] S μ6 (fun r16 μ16 => So S (μ16 x0 5) (.inl 5) ∧ (Ai S (μ16 (μ16 x0 5) 3) 0 (μ6 (μ6 (μ6 x0 1) 11) r2) ∧ (R32 (μ16 (μ16 (μ16 x0 5) 3) (μ6 (μ6 (μ6 x0 1) 11) r2)) ∧ (So S (μ16 x0 3) (.inl 3) ∧ (Ai S (μ16 (μ16 x0 3) 0) 1 (μ6 (μ6 (μ6 x0 1) 11) r2) ∧ (R32 (μ16 (μ16 x0 5) 0) ∧ (R32 (μ16 (μ16 x0 5) 1) ∧ (Cj G mX7_leftOver [(1, (((μ16 (μ16 (μ16 x0 5) 3) (μ6 (μ6 (μ6 x0 1) 11) r2)) * (μ6 (μ6 (μ6 x0 3) 1) (μ6 (μ6 (μ6 x0 1) 11) r2))) + ((μ16 (μ16 (μ16 x0 3) 0) (μ6 (μ6 (μ6 x0 1) 11) r2)) * ((μ16 (μ16 x0 5) 0) - (μ16 (μ16 x0 5) 1))))), (1, ((μ6 (μ6 (μ6 x0 3) 1) (μ6 (μ6 (μ6 x0 1) 11) r2)) * (μ6 (μ6 (μ6 x0 1) 5) (μ6 (μ6 (μ6 x0 1) 11) r2))))] S μ16 (fun r24 μ24 => So S (μ24 x0 1) (.inl 6) ∧ (Ai S (μ24 (μ24 x0 1) 12) 0 r2 ∧ (R32 (μ24 (μ24 (μ24 x0 1) 12) r2) ∧ Ex G Φ 18 168 [some (2, x0), some (0, x1), some (0, x2), some (0, r2), some (1, (if (r6 - 1) < x2 then (r6 - 1) else x2)), none, some (0, (μ6 (μ6 (μ6 x0 1) 11) r2)), some (1, (μ6 (μ6 (μ6 x0 3) 1) (μ6 (μ6 (μ6 x0 1) 11) r2))), none, some (1, ((μ6 (μ6 (μ6 x0 3) 1) (μ6 (μ6 (μ6 x0 1) 11) r2)) * (μ6 (μ6 (μ6 x0 1) 5) (μ6 (μ6 (μ6 x0 1) 11) r2)))), none, some (1, r16), none, some (1, r24), none, some (1, ((μ24 (μ24 (μ24 x0 1) 12) r2) * (μ6 (μ6 (μ6 x0 3) 1) (μ6 (μ6 (μ6 x0 1) 11) r2)))), none, some (0, 0)] [] S μ24 0 0)))))))))))))))))))))))) ∧ (r2 = (-1) → Ci G mX7_areAllIn [(2, x0), (0, 0), (0, x1)] S μ2 (fun r28 μ28 => R32 r28 ∧ ((r28 = 0 → Q (-1) μ28) ∧ (¬ (r28 = 0) → Q 0 μ28)))))))) : Ex G Φ 18 0 [some (2, x0), some (0, x1), some (0, x2), none, none, none, none, none, none, none, none, none, none, none, none, none, none, none] [] S μ 0 0 := by
  obtain ⟨o1, h⟩ := h
  refine ex_aload_n hΦ dX7_dayOfAll_0 rfl o1.1 ?_
  refine ex_iload_n hΦ dX7_dayOfAll_1 rfl ?_
  refine ex_callVi [(0, x1)] [(0, x1), (2, x0)] hΦ lkV_X7_327 ⟨by decide, by decide⟩ (Nat.le_of_ble_eq_true rfl) rfl (by decide) 7 (by decide) rfl o1 dX7_dayOfAll_2 rfl h (fun r2 μ2 h => ?_)
  refine ex_istore_n (L' := [some (2, x0), some (0, x1), some (0, x2), some (0, r2), none, none, none, none, none, none, none, none, none, none, none, none, none, none]) hΦ dX7_dayOfAll_5 (by decide) rfl ?_
  refine ex_iload_n hΦ dX7_dayOfAll_6 rfl ?_
  refine ex_iconst hΦ dX7_dayOfAll_7 ?_
  obtain ⟨o3, h⟩ := h
  refine ex_icmp_ne 26 hΦ dX7_dayOfAll_8 (by decide) o3 ⟨by decide, by decide⟩ (fun c => ?_) (fun c => ?_)
  · have h := h.1 c
    refine ex_iload_n hΦ dX7_dayOfAll_26 rfl ?_
    obtain ⟨o4, h⟩ := h
    refine ex_i2l hΦ dX7_dayOfAll_27 o4 ?_
    refine ex_aload_n hΦ dX7_dayOfAll_28 rfl o1.1 ?_
    refine ex_aload_n hΦ dX7_dayOfAll_29 rfl o1.1 ?_
    refine ex_iload_n hΦ dX7_dayOfAll_30 rfl ?_
    refine ex_callVi [(0, x1)] [(0, x1), (2, x0), (2, x0), (1, x2)] hΦ lkV_X7_330 ⟨by decide, by decide⟩ (Nat.le_of_ble_eq_true rfl) rfl (by decide) 7 (by decide) rfl o1 dX7_dayOfAll_31 rfl h (fun r5 μ5 h => ?_)
    refine ex_callVj [(0, r5)] [(0, r5), (2, x0), (1, x2)] hΦ lkV_X7_221 ⟨by decide, by decide⟩ (Nat.le_of_ble_eq_true rfl) rfl (by decide) 7 (by decide) rfl o1 dX7_dayOfAll_34 rfl h (fun r6 μ6 h => ?_)
    refine ex_lconst (x := 1) hΦ dX7_dayOfAll_37 (by decide) ?_
    refine ex_lsub hΦ dX7_dayOfAll_38 ?_
    obtain ⟨o7, h⟩ := h
    obtain ⟨o8, h⟩ := h
    refine ex_mmin_long hΦ qw656 qw657 qw91 qw658 ⟨by decide, by decide⟩ ⟨by decide, by decide⟩ (Nat.le_of_ble_eq_true rfl) o7 o8 dX7_dayOfAll_39 ?_
    refine ex_lstore (L' := [some (2, x0), some (0, x1), some (0, x2), some (0, r2), some (1, (if (r6 - 1) < x2 then (r6 - 1) else x2)), none, none, none, none, none, none, none, none, none, none, none, none, none]) hΦ dX7_dayOfAll_42 (by decide) rfl ?_
    refine ex_aload_n hΦ dX7_dayOfAll_44 rfl o1.1 ?_
    refine ex_getf hΦ fl_X7_19 o1 dX7_dayOfAll_45 ?_
    obtain ⟨o9, h⟩ := h
    refine ex_getf hΦ fl_X7_182 o9 dX7_dayOfAll_48 ?_
    refine ex_iload_n hΦ dX7_dayOfAll_51 rfl ?_
    obtain ⟨o10, h⟩ := h
    refine ex_iald' hΦ o10 dX7_dayOfAll_52 ?_
    refine ex_istore (L' := [some (2, x0), some (0, x1), some (0, x2), some (0, r2), some (1, (if (r6 - 1) < x2 then (r6 - 1) else x2)), none, some (0, (μ6 (μ6 (μ6 x0 1) 11) r2)), none, none, none, none, none, none, none, none, none, none, none]) hΦ dX7_dayOfAll_53 (by decide) rfl ?_
    refine ex_aload_n hΦ dX7_dayOfAll_55 rfl o1.1 ?_
    refine ex_getf hΦ fl_X7_29 o1 dX7_dayOfAll_56 ?_
    obtain ⟨o11, h⟩ := h
    refine ex_getf hΦ fl_X7_158 o11 dX7_dayOfAll_59 ?_
    refine ex_iload hΦ dX7_dayOfAll_62 rfl ?_
    obtain ⟨o12, h⟩ := h
    refine ex_lald' hΦ o12 dX7_dayOfAll_64 ?_
    refine ex_lstore (L' := [some (2, x0), some (0, x1), some (0, x2), some (0, r2), some (1, (if (r6 - 1) < x2 then (r6 - 1) else x2)), none, some (0, (μ6 (μ6 (μ6 x0 1) 11) r2)), some (1, (μ6 (μ6 (μ6 x0 3) 1) (μ6 (μ6 (μ6 x0 1) 11) r2))), none, none, none, none, none, none, none, none, none, none]) hΦ dX7_dayOfAll_65 (by decide) rfl ?_
    refine ex_lload hΦ dX7_dayOfAll_67 rfl ?_
    refine ex_aload_n hΦ dX7_dayOfAll_69 rfl o1.1 ?_
    refine ex_getf hΦ fl_X7_19 o1 dX7_dayOfAll_70 ?_
    refine ex_getf hΦ fl_X7_147 o9 dX7_dayOfAll_73 ?_
    refine ex_iload hΦ dX7_dayOfAll_76 rfl ?_
    obtain ⟨o13, h⟩ := h
    refine ex_iald' hΦ o13 dX7_dayOfAll_78 ?_
    obtain ⟨o14, h⟩ := h
    refine ex_i2l hΦ dX7_dayOfAll_79 o14 ?_
    refine ex_lmul hΦ dX7_dayOfAll_80 ?_
    refine ex_lstore (L' := [some (2, x0), some (0, x1), some (0, x2), some (0, r2), some (1, (if (r6 - 1) < x2 then (r6 - 1) else x2)), none, some (0, (μ6 (μ6 (μ6 x0 1) 11) r2)), some (1, (μ6 (μ6 (μ6 x0 3) 1) (μ6 (μ6 (μ6 x0 1) 11) r2))), none, some (1, ((μ6 (μ6 (μ6 x0 3) 1) (μ6 (μ6 (μ6 x0 1) 11) r2)) * (μ6 (μ6 (μ6 x0 1) 5) (μ6 (μ6 (μ6 x0 1) 11) r2)))), none, none, none, none, none, none, none, none]) hΦ dX7_dayOfAll_81 (by decide) rfl ?_
    refine ex_aload_n hΦ dX7_dayOfAll_83 rfl o1.1 ?_
    refine ex_getf hΦ fl_X7_29 o1 dX7_dayOfAll_84 ?_
    refine ex_getf hΦ fl_X7_154 o11 dX7_dayOfAll_87 ?_
    refine ex_iload hΦ dX7_dayOfAll_90 rfl ?_
    obtain ⟨o15, h⟩ := h
    refine ex_lald' hΦ o15 dX7_dayOfAll_92 ?_
    refine ex_lload hΦ dX7_dayOfAll_93 rfl ?_
    refine ex_callSj [(1, (μ6 (μ6 (μ6 x0 3) 0) (μ6 (μ6 (μ6 x0 1) 11) r2))), (1, ((μ6 (μ6 (μ6 x0 3) 1) (μ6 (μ6 (μ6 x0 1) 11) r2)) * (μ6 (μ6 (μ6 x0 1) 5) (μ6 (μ6 (μ6 x0 1) 11) r2))))] [(1, ((μ6 (μ6 (μ6 x0 3) 1) (μ6 (μ6 (μ6 x0 1) 11) r2)) * (μ6 (μ6 (μ6 x0 1) 5) (μ6 (μ6 (μ6 x0 1) 11) r2)))), (1, (μ6 (μ6 (μ6 x0 3) 0) (μ6 (μ6 (μ6 x0 1) 11) r2)))] hΦ lkS_X7_231 ⟨by decide, by decide⟩ (Nat.le_of_ble_eq_true rfl) rfl (by decide) dX7_dayOfAll_95 rfl h (fun r16 μ16 h => ?_)
    refine ex_lstore (L' := [some (2, x0), some (0, x1), some (0, x2), some (0, r2), some (1, (if (r6 - 1) < x2 then (r6 - 1) else x2)), none, some (0, (μ6 (μ6 (μ6 x0 1) 11) r2)), some (1, (μ6 (μ6 (μ6 x0 3) 1) (μ6 (μ6 (μ6 x0 1) 11) r2))), none, some (1, ((μ6 (μ6 (μ6 x0 3) 1) (μ6 (μ6 (μ6 x0 1) 11) r2)) * (μ6 (μ6 (μ6 x0 1) 5) (μ6 (μ6 (μ6 x0 1) 11) r2)))), none, some (1, r16), none, none, none, none, none, none]) hΦ dX7_dayOfAll_98 (by decide) rfl ?_
    refine ex_aload_n hΦ dX7_dayOfAll_100 rfl o1.1 ?_
    refine ex_getf hΦ fl_X7_39 o1 dX7_dayOfAll_101 ?_
    obtain ⟨o17, h⟩ := h
    refine ex_getf hΦ fl_X7_203 o17 dX7_dayOfAll_104 ?_
    refine ex_iload hΦ dX7_dayOfAll_107 rfl ?_
    obtain ⟨o18, h⟩ := h
    refine ex_iald' hΦ o18 dX7_dayOfAll_109 ?_
    obtain ⟨o19, h⟩ := h
    refine ex_i2l hΦ dX7_dayOfAll_110 o19 ?_
    refine ex_lload hΦ dX7_dayOfAll_111 rfl ?_
    refine ex_lmul hΦ dX7_dayOfAll_113 ?_
    refine ex_aload_n hΦ dX7_dayOfAll_114 rfl o1.1 ?_
    refine ex_getf hΦ fl_X7_29 o1 dX7_dayOfAll_115 ?_
    obtain ⟨o20, h⟩ := h
    refine ex_getf hΦ fl_X7_154 o20 dX7_dayOfAll_118 ?_
    refine ex_iload hΦ dX7_dayOfAll_121 rfl ?_
    obtain ⟨o21, h⟩ := h
    refine ex_lald' hΦ o21 dX7_dayOfAll_123 ?_
    refine ex_aload_n hΦ dX7_dayOfAll_124 rfl o1.1 ?_
    refine ex_getf hΦ fl_X7_39 o1 dX7_dayOfAll_125 ?_
    refine ex_getf hΦ fl_X7_110 o17 dX7_dayOfAll_128 ?_
    obtain ⟨o22, h⟩ := h
    refine ex_i2l hΦ dX7_dayOfAll_131 o22 ?_
    refine ex_aload_n hΦ dX7_dayOfAll_132 rfl o1.1 ?_
    refine ex_getf hΦ fl_X7_39 o1 dX7_dayOfAll_133 ?_
    refine ex_getf hΦ fl_X7_113 o17 dX7_dayOfAll_136 ?_
    obtain ⟨o23, h⟩ := h
    refine ex_i2l hΦ dX7_dayOfAll_139 o23 ?_
    refine ex_lsub hΦ dX7_dayOfAll_140 ?_
    refine ex_lmul hΦ dX7_dayOfAll_141 ?_
    refine ex_ladd hΦ dX7_dayOfAll_142 ?_
    refine ex_lload hΦ dX7_dayOfAll_143 rfl ?_
    refine ex_callSj [(1, (((μ16 (μ16 (μ16 x0 5) 3) (μ6 (μ6 (μ6 x0 1) 11) r2)) * (μ6 (μ6 (μ6 x0 3) 1) (μ6 (μ6 (μ6 x0 1) 11) r2))) + ((μ16 (μ16 (μ16 x0 3) 0) (μ6 (μ6 (μ6 x0 1) 11) r2)) * ((μ16 (μ16 x0 5) 0) - (μ16 (μ16 x0 5) 1))))), (1, ((μ6 (μ6 (μ6 x0 3) 1) (μ6 (μ6 (μ6 x0 1) 11) r2)) * (μ6 (μ6 (μ6 x0 1) 5) (μ6 (μ6 (μ6 x0 1) 11) r2))))] [(1, ((μ6 (μ6 (μ6 x0 3) 1) (μ6 (μ6 (μ6 x0 1) 11) r2)) * (μ6 (μ6 (μ6 x0 1) 5) (μ6 (μ6 (μ6 x0 1) 11) r2)))), (1, (((μ16 (μ16 (μ16 x0 5) 3) (μ6 (μ6 (μ6 x0 1) 11) r2)) * (μ6 (μ6 (μ6 x0 3) 1) (μ6 (μ6 (μ6 x0 1) 11) r2))) + ((μ16 (μ16 (μ16 x0 3) 0) (μ6 (μ6 (μ6 x0 1) 11) r2)) * ((μ16 (μ16 x0 5) 0) - (μ16 (μ16 x0 5) 1)))))] hΦ lkS_X7_231 ⟨by decide, by decide⟩ (Nat.le_of_ble_eq_true rfl) rfl (by decide) dX7_dayOfAll_145 rfl h (fun r24 μ24 h => ?_)
    refine ex_lstore (L' := [some (2, x0), some (0, x1), some (0, x2), some (0, r2), some (1, (if (r6 - 1) < x2 then (r6 - 1) else x2)), none, some (0, (μ6 (μ6 (μ6 x0 1) 11) r2)), some (1, (μ6 (μ6 (μ6 x0 3) 1) (μ6 (μ6 (μ6 x0 1) 11) r2))), none, some (1, ((μ6 (μ6 (μ6 x0 3) 1) (μ6 (μ6 (μ6 x0 1) 11) r2)) * (μ6 (μ6 (μ6 x0 1) 5) (μ6 (μ6 (μ6 x0 1) 11) r2)))), none, some (1, r16), none, some (1, r24), none, none, none, none]) hΦ dX7_dayOfAll_148 (by decide) rfl ?_
    refine ex_aload_n hΦ dX7_dayOfAll_150 rfl o1.1 ?_
    refine ex_getf hΦ fl_X7_19 o1 dX7_dayOfAll_151 ?_
    obtain ⟨o25, h⟩ := h
    refine ex_getf hΦ fl_X7_185 o25 dX7_dayOfAll_154 ?_
    refine ex_iload_n hΦ dX7_dayOfAll_157 rfl ?_
    obtain ⟨o26, h⟩ := h
    refine ex_iald' hΦ o26 dX7_dayOfAll_158 ?_
    obtain ⟨o27, h⟩ := h
    refine ex_i2l hΦ dX7_dayOfAll_159 o27 ?_
    refine ex_lload hΦ dX7_dayOfAll_160 rfl ?_
    refine ex_lmul hΦ dX7_dayOfAll_162 ?_
    refine ex_lstore (L' := [some (2, x0), some (0, x1), some (0, x2), some (0, r2), some (1, (if (r6 - 1) < x2 then (r6 - 1) else x2)), none, some (0, (μ6 (μ6 (μ6 x0 1) 11) r2)), some (1, (μ6 (μ6 (μ6 x0 3) 1) (μ6 (μ6 (μ6 x0 1) 11) r2))), none, some (1, ((μ6 (μ6 (μ6 x0 3) 1) (μ6 (μ6 (μ6 x0 1) 11) r2)) * (μ6 (μ6 (μ6 x0 1) 5) (μ6 (μ6 (μ6 x0 1) 11) r2)))), none, some (1, r16), none, some (1, r24), none, some (1, ((μ24 (μ24 (μ24 x0 1) 12) r2) * (μ6 (μ6 (μ6 x0 3) 1) (μ6 (μ6 (μ6 x0 1) 11) r2)))), none, none]) hΦ dX7_dayOfAll_163 (by decide) rfl ?_
    refine ex_iconst hΦ dX7_dayOfAll_165 ?_
    refine ex_istore (L' := [some (2, x0), some (0, x1), some (0, x2), some (0, r2), some (1, (if (r6 - 1) < x2 then (r6 - 1) else x2)), none, some (0, (μ6 (μ6 (μ6 x0 1) 11) r2)), some (1, (μ6 (μ6 (μ6 x0 3) 1) (μ6 (μ6 (μ6 x0 1) 11) r2))), none, some (1, ((μ6 (μ6 (μ6 x0 3) 1) (μ6 (μ6 (μ6 x0 1) 11) r2)) * (μ6 (μ6 (μ6 x0 1) 5) (μ6 (μ6 (μ6 x0 1) 11) r2)))), none, some (1, r16), none, some (1, r24), none, some (1, ((μ24 (μ24 (μ24 x0 1) 12) r2) * (μ6 (μ6 (μ6 x0 3) 1) (μ6 (μ6 (μ6 x0 1) 11) r2)))), none, some (0, 0)]) hΦ dX7_dayOfAll_166 (by decide) rfl ?_
    exact h
  · have h := h.2 c
    refine ex_aload_n hΦ dX7_dayOfAll_11 rfl o1.1 ?_
    refine ex_iconst hΦ dX7_dayOfAll_12 ?_
    refine ex_iload_n hΦ dX7_dayOfAll_13 rfl ?_
    refine ex_callVi [(0, 0), (0, x1)] [(0, x1), (0, 0), (2, x0)] hΦ lkV_X7_324 ⟨by decide, by decide⟩ (Nat.le_of_ble_eq_true rfl) rfl (by decide) 7 (by decide) rfl o1 dX7_dayOfAll_14 rfl h (fun r28 μ28 h => ?_)
    obtain ⟨o29, h⟩ := h
    refine ex_if_eq 24 hΦ dX7_dayOfAll_17 (by decide) o29 (fun c => ?_) (fun c => ?_)
    · have h := h.1 c
      refine ex_iconst hΦ dX7_dayOfAll_24 ?_
      exact ex_returni hΦ hR dX7_dayOfAll_25 h
    · have h := h.2 c
      refine ex_iconst hΦ dX7_dayOfAll_20 ?_
      refine ex_goto 25 hΦ dX7_dayOfAll_21 (by decide) ?_
      exact ex_returni hΦ hR dX7_dayOfAll_25 h
theorem bX7_leaderOf_7 {G : Gm} {Φ : Fr} {S : List Sh} {μ : Mem} {Q : Int → Mem → Prop} (hΦ : St G Φ cX7_leaderOf RX7 6 1 21 0 0) (hR : Rt G Φ (Pi S Q) 0 0 (some .int)) {x0 x1 x2 x3 x4 : Int} (h : So S x0 (.inl 7) ∧ (So S (μ x0 1) (.inl 6) ∧ (R32 x4 ∧ (R32 (μ (μ x0 1) 2) ∧ (((μ (μ x0 1) 2) ≤ x4 → Q x2 μ) ∧ (¬ ((μ (μ x0 1) 2) ≤ x4) → Ai S (μ (μ x0 1) 11) 0 x4 ∧ (R32 x1 ∧ (0 ≤ x4 ∧ (x4 ≤ 31 ∧ (R32 ((x1 / 2 ^ (Int.toNat x4)) % 2) ∧ ((((x1 / 2 ^ (Int.toNat x4)) % 2) ≠ 1 → Ex G Φ 6 7 [some (2, x0), some (0, x1), some (0, x2), some (0, x3), some (0, (x4 + 1)), none] [] S μ 0 0) ∧ (((x1 / 2 ^ (Int.toNat x4)) % 2) = 1 → So S (μ x0 3) (.inl 3) ∧ (Ci G mX3_turns [(2, (μ x0 3)), (0, (μ (μ (μ x0 1) 11) x4))] S μ (fun r11 μ11 => R32 r11 ∧ ((r11 = 0 → Ex G Φ 6 7 [some (2, x0), some (0, x1), some (0, x2), some (0, x3), some (0, (x4 + 1)), none] [] S μ11 0 0) ∧ (¬ (r11 = 0) → So S (μ11 x0 1) (.inl 6) ∧ (Ai S (μ11 (μ11 x0 1) 5) 0 (μ (μ (μ x0 1) 11) x4) ∧ (R32 (μ11 (μ11 (μ11 x0 1) 5) (μ (μ (μ x0 1) 11) x4)) ∧ (R32 x3 ∧ (((μ11 (μ11 (μ11 x0 1) 5) (μ (μ (μ x0 1) 11) x4)) ≤ x3 → Ex G Φ 6 7 [some (2, x0), some (0, x1), some (0, x2), some (0, x3), some (0, (x4 + 1)), none] [] S μ11 0 0) ∧ (¬ ((μ11 (μ11 (μ11 x0 1) 5) (μ (μ (μ x0 1) 11) x4)) ≤ x3) → Ex G Φ 6 7 [some (2, x0), some (0, x1), some (0, x4), some (0, (μ11 (μ11 (μ11 x0 1) 5) (μ (μ (μ x0 1) 11) x4))), some (0, (x4 + 1)), none] [] S μ11 0 0))))))))))))))))))))) : Ex G Φ 6 7 [some (2, x0), some (0, x1), some (0, x2), some (0, x3), some (0, x4), none] [] S μ 0 0 := by
  refine ex_iload hΦ dX7_leaderOf_7 rfl ?_
  obtain ⟨o1, h⟩ := h
  refine ex_aload_n hΦ dX7_leaderOf_9 rfl o1.1 ?_
  refine ex_getf hΦ fl_X7_19 o1 dX7_leaderOf_10 ?_
  obtain ⟨o2, h⟩ := h
  refine ex_getf hΦ fl_X7_104 o2 dX7_leaderOf_13 ?_
  obtain ⟨o3, h⟩ := h
  obtain ⟨o4, h⟩ := h
  refine ex_icmp_ge 87 hΦ dX7_leaderOf_16 (by decide) o3 o4 (fun c => ?_) (fun c => ?_)
  · have h := h.1 c
    refine ex_iload_n hΦ dX7_leaderOf_87 rfl ?_
    exact ex_returni hΦ hR dX7_leaderOf_88 h
  · have h := h.2 c
    refine ex_aload_n hΦ dX7_leaderOf_19 rfl o1.1 ?_
    refine ex_getf hΦ fl_X7_19 o1 dX7_leaderOf_20 ?_
    refine ex_getf hΦ fl_X7_182 o2 dX7_leaderOf_23 ?_
    refine ex_iload hΦ dX7_leaderOf_26 rfl ?_
    obtain ⟨o5, h⟩ := h
    refine ex_iald' hΦ o5 dX7_leaderOf_28 ?_
    refine ex_istore (L' := [some (2, x0), some (0, x1), some (0, x2), some (0, x3), some (0, x4), some (0, (μ (μ (μ x0 1) 11) x4))]) hΦ dX7_leaderOf_29 (by decide) rfl ?_
    refine ex_iload_n hΦ dX7_leaderOf_31 rfl ?_
    refine ex_iload hΦ dX7_leaderOf_32 rfl ?_
    obtain ⟨o6, h⟩ := h
    obtain ⟨o7, h⟩ := h
    obtain ⟨o8, h⟩ := h
    refine ex_ishr hΦ dX7_leaderOf_34 o6 o7 o8 ?_
    refine ex_iconst hΦ dX7_leaderOf_35 ?_
    refine ex_iand1 hΦ dX7_leaderOf_36 ?_
    refine ex_iconst hΦ dX7_leaderOf_37 ?_
    obtain ⟨o9, h⟩ := h
    refine ex_icmp_ne 81 hΦ dX7_leaderOf_38 (by decide) o9 ⟨by decide, by decide⟩ (fun c => ?_) (fun c => ?_)
    · have h := h.1 c
      refine ex_iinc (L' := [some (2, x0), some (0, x1), some (0, x2), some (0, x3), some (0, (x4 + 1)), some (0, (μ (μ (μ x0 1) 11) x4))]) hΦ dX7_leaderOf_81 rfl (by decide) rfl ?_
      refine ex_goto 7 hΦ dX7_leaderOf_84 (by decide) ?_
      refine ex_forget (L' := [some (2, x0), some (0, x1), some (0, x2), some (0, x3), some (0, (x4 + 1)), none]) [5] rfl ?_
      exact h
    · have h := h.2 c
      refine ex_aload_n hΦ dX7_leaderOf_41 rfl o1.1 ?_
      refine ex_getf hΦ fl_X7_29 o1 dX7_leaderOf_42 ?_
      refine ex_iload hΦ dX7_leaderOf_45 rfl ?_
      obtain ⟨o10, h⟩ := h
      refine ex_callVi [(0, (μ (μ (μ x0 1) 11) x4))] [(0, (μ (μ (μ x0 1) 11) x4)), (2, (μ x0 3))] hΦ lkV_X7_240 ⟨by decide, by decide⟩ (Nat.le_of_ble_eq_true rfl) rfl (by decide) 3 (by decide) rfl o10 dX7_leaderOf_47 rfl h (fun r11 μ11 h => ?_)
      obtain ⟨o12, h⟩ := h
      refine ex_if_eq 81 hΦ dX7_leaderOf_50 (by decide) o12 (fun c => ?_) (fun c => ?_)
      · have h := h.1 c
        refine ex_iinc (L' := [some (2, x0), some (0, x1), some (0, x2), some (0, x3), some (0, (x4 + 1)), some (0, (μ (μ (μ x0 1) 11) x4))]) hΦ dX7_leaderOf_81 rfl (by decide) rfl ?_
        refine ex_goto 7 hΦ dX7_leaderOf_84 (by decide) ?_
        refine ex_forget (L' := [some (2, x0), some (0, x1), some (0, x2), some (0, x3), some (0, (x4 + 1)), none]) [5] rfl ?_
        exact h
      · have h := h.2 c
        refine ex_aload_n hΦ dX7_leaderOf_53 rfl o1.1 ?_
        refine ex_getf hΦ fl_X7_19 o1 dX7_leaderOf_54 ?_
        obtain ⟨o13, h⟩ := h
        refine ex_getf hΦ fl_X7_147 o13 dX7_leaderOf_57 ?_
        refine ex_iload hΦ dX7_leaderOf_60 rfl ?_
        obtain ⟨o14, h⟩ := h
        refine ex_iald' hΦ o14 dX7_leaderOf_62 ?_
        refine ex_iload_n hΦ dX7_leaderOf_63 rfl ?_
        obtain ⟨o15, h⟩ := h
        obtain ⟨o16, h⟩ := h
        refine ex_icmp_le 81 hΦ dX7_leaderOf_64 (by decide) o15 o16 (fun c => ?_) (fun c => ?_)
        · have h := h.1 c
          refine ex_iinc (L' := [some (2, x0), some (0, x1), some (0, x2), some (0, x3), some (0, (x4 + 1)), some (0, (μ (μ (μ x0 1) 11) x4))]) hΦ dX7_leaderOf_81 rfl (by decide) rfl ?_
          refine ex_goto 7 hΦ dX7_leaderOf_84 (by decide) ?_
          refine ex_forget (L' := [some (2, x0), some (0, x1), some (0, x2), some (0, x3), some (0, (x4 + 1)), none]) [5] rfl ?_
          exact h
        · have h := h.2 c
          refine ex_iload hΦ dX7_leaderOf_67 rfl ?_
          refine ex_istore_n (L' := [some (2, x0), some (0, x1), some (0, x4), some (0, x3), some (0, x4), some (0, (μ (μ (μ x0 1) 11) x4))]) hΦ dX7_leaderOf_69 (by decide) rfl ?_
          refine ex_aload_n hΦ dX7_leaderOf_70 rfl o1.1 ?_
          refine ex_getf hΦ fl_X7_19 o1 dX7_leaderOf_71 ?_
          refine ex_getf hΦ fl_X7_147 o13 dX7_leaderOf_74 ?_
          refine ex_iload hΦ dX7_leaderOf_77 rfl ?_
          refine ex_iald' hΦ o14 dX7_leaderOf_79 ?_
          refine ex_istore_n (L' := [some (2, x0), some (0, x1), some (0, x4), some (0, (μ11 (μ11 (μ11 x0 1) 5) (μ (μ (μ x0 1) 11) x4))), some (0, x4), some (0, (μ (μ (μ x0 1) 11) x4))]) hΦ dX7_leaderOf_80 (by decide) rfl ?_
          refine ex_iinc (L' := [some (2, x0), some (0, x1), some (0, x4), some (0, (μ11 (μ11 (μ11 x0 1) 5) (μ (μ (μ x0 1) 11) x4))), some (0, (x4 + 1)), some (0, (μ (μ (μ x0 1) 11) x4))]) hΦ dX7_leaderOf_81 rfl (by decide) rfl ?_
          refine ex_goto 7 hΦ dX7_leaderOf_84 (by decide) ?_
          refine ex_forget (L' := [some (2, x0), some (0, x1), some (0, x4), some (0, (μ11 (μ11 (μ11 x0 1) 5) (μ (μ (μ x0 1) 11) x4))), some (0, (x4 + 1)), none]) [5] rfl ?_
          exact h
theorem eX7_leaderOf {G : Gm} {S : List Sh} {μ : Mem} {Q : Int → Mem → Prop} {x0 x1 : Int} (h : ∀ Φ : Fr, St G Φ cX7_leaderOf RX7 6 1 21 0 0 → Rt G Φ (Pi S Q) 0 0 (some .int) → Ex G Φ 6 0 [some (2, x0), some (0, x1), none, none, none, none] [] S μ 0 0) : Ci G mX7_leaderOf [(2, x0), (0, x1)] S μ Q :=
  call_of' (plainFor_of_name (by decide +kernel)) [some (2, x0), some (0, x1), none, none, none, none] rfl (Nat.le_of_ble_eq_true rfl) (fun Φ hΦ hR => h Φ hΦ hR)
theorem bX7_leaderOf_0 {G : Gm} {Φ : Fr} {S : List Sh} {μ : Mem} {Q : Int → Mem → Prop} (hΦ : St G Φ cX7_leaderOf RX7 6 1 21 0 0) (hR : Rt G Φ (Pi S Q) 0 0 (some .int)) {x0 x1 : Int} (h : Ex G Φ 6 7 [some (2, x0), some (0, x1), some (0, (-1)), some (0, 0), some (0, 0), none] [] S μ 0 0) : Ex G Φ 6 0 [some (2, x0), some (0, x1), none, none, none, none] [] S μ 0 0 := by
  refine ex_iconst hΦ dX7_leaderOf_0 ?_
  refine ex_istore_n (L' := [some (2, x0), some (0, x1), some (0, (-1)), none, none, none]) hΦ dX7_leaderOf_1 (by decide) rfl ?_
  refine ex_iconst hΦ dX7_leaderOf_2 ?_
  refine ex_istore_n (L' := [some (2, x0), some (0, x1), some (0, (-1)), some (0, 0), none, none]) hΦ dX7_leaderOf_3 (by decide) rfl ?_
  refine ex_iconst hΦ dX7_leaderOf_4 ?_
  refine ex_istore (L' := [some (2, x0), some (0, x1), some (0, (-1)), some (0, 0), some (0, 0), none]) hΦ dX7_leaderOf_5 (by decide) rfl ?_
  exact h
theorem bX7_wheelsOf_4 {G : Gm} {Φ : Fr} {S : List Sh} {μ : Mem} {Q : Int → Mem → Prop} (hΦ : St G Φ cX7_wheelsOf RX7 4 0 0 0 0) (hR : Rt G Φ (Pi S Q) 0 0 (some .int)) {x0 x1 x2 x3 : Int} (h : So S x0 (.inl 7) ∧ (So S (μ x0 1) (.inl 6) ∧ (R32 x3 ∧ (R32 (μ (μ x0 1) 2) ∧ (((μ (μ x0 1) 2) ≤ x3 → Q x2 μ) ∧ (¬ ((μ (μ x0 1) 2) ≤ x3) → R32 x1 ∧ (0 ≤ x3 ∧ (x3 ≤ 31 ∧ (R32 ((x1 / 2 ^ (Int.toNat x3)) % 2) ∧ ((((x1 / 2 ^ (Int.toNat x3)) % 2) ≠ 1 → Ex G Φ 4 4 [some (2, x0), some (0, x1), some (0, x2), some (0, (x3 + 1))] [] S μ 0 0) ∧ (((x1 / 2 ^ (Int.toNat x3)) % 2) = 1 → Ai S (μ (μ x0 1) 11) 0 x3 ∧ (0 ≤ (μ (μ (μ x0 1) 11) x3) ∧ ((μ (μ (μ x0 1) 11) x3) ≤ 31 ∧ Ex G Φ 4 4 [some (2, x0), some (0, x1), some (0, (mor x2 (1 * 2 ^ (Int.toNat (μ (μ (μ x0 1) 11) x3))))), some (0, (x3 + 1))] [] S μ 0 0))))))))))))) : Ex G Φ 4 4 [some (2, x0), some (0, x1), some (0, x2), some (0, x3)] [] S μ 0 0 := by
  refine ex_iload_n hΦ dX7_wheelsOf_4 rfl ?_
  obtain ⟨o1, h⟩ := h
  refine ex_aload_n hΦ dX7_wheelsOf_5 rfl o1.1 ?_
  refine ex_getf hΦ fl_X7_19 o1 dX7_wheelsOf_6 ?_
  obtain ⟨o2, h⟩ := h
  refine ex_getf hΦ fl_X7_104 o2 dX7_wheelsOf_9 ?_
  obtain ⟨o3, h⟩ := h
  obtain ⟨o4, h⟩ := h
  refine ex_icmp_ge 44 hΦ dX7_wheelsOf_12 (by decide) o3 o4 (fun c => ?_) (fun c => ?_)
  · have h := h.1 c
    refine ex_iload_n hΦ dX7_wheelsOf_44 rfl ?_
    exact ex_returni hΦ hR dX7_wheelsOf_45 h
  · have h := h.2 c
    refine ex_iload_n hΦ dX7_wheelsOf_15 rfl ?_
    refine ex_iload_n hΦ dX7_wheelsOf_16 rfl ?_
    obtain ⟨o5, h⟩ := h
    obtain ⟨o6, h⟩ := h
    obtain ⟨o7, h⟩ := h
    refine ex_ishr hΦ dX7_wheelsOf_17 o5 o6 o7 ?_
    refine ex_iconst hΦ dX7_wheelsOf_18 ?_
    refine ex_iand1 hΦ dX7_wheelsOf_19 ?_
    refine ex_iconst hΦ dX7_wheelsOf_20 ?_
    obtain ⟨o8, h⟩ := h
    refine ex_icmp_ne 38 hΦ dX7_wheelsOf_21 (by decide) o8 ⟨by decide, by decide⟩ (fun c => ?_) (fun c => ?_)
    · have h := h.1 c
      refine ex_iinc (L' := [some (2, x0), some (0, x1), some (0, x2), some (0, (x3 + 1))]) hΦ dX7_wheelsOf_38 rfl (by decide) rfl ?_
      refine ex_goto 4 hΦ dX7_wheelsOf_41 (by decide) ?_
      exact h
    · have h := h.2 c
      refine ex_iload_n hΦ dX7_wheelsOf_24 rfl ?_
      refine ex_iconst hΦ dX7_wheelsOf_25 ?_
      refine ex_aload_n hΦ dX7_wheelsOf_26 rfl o1.1 ?_
      refine ex_getf hΦ fl_X7_19 o1 dX7_wheelsOf_27 ?_
      refine ex_getf hΦ fl_X7_182 o2 dX7_wheelsOf_30 ?_
      refine ex_iload_n hΦ dX7_wheelsOf_33 rfl ?_
      obtain ⟨o9, h⟩ := h
      refine ex_iald' hΦ o9 dX7_wheelsOf_34 ?_
      obtain ⟨o10, h⟩ := h
      obtain ⟨o11, h⟩ := h
      refine ex_ishl hΦ dX7_wheelsOf_35 o10 o11 ?_
      refine ex_ior hΦ dX7_wheelsOf_36 ?_
      refine ex_istore_n (L' := [some (2, x0), some (0, x1), some (0, (mor x2 (1 * 2 ^ (Int.toNat (μ (μ (μ x0 1) 11) x3))))), some (0, x3)]) hΦ dX7_wheelsOf_37 (by decide) rfl ?_
      refine ex_iinc (L' := [some (2, x0), some (0, x1), some (0, (mor x2 (1 * 2 ^ (Int.toNat (μ (μ (μ x0 1) 11) x3))))), some (0, (x3 + 1))]) hΦ dX7_wheelsOf_38 rfl (by decide) rfl ?_
      refine ex_goto 4 hΦ dX7_wheelsOf_41 (by decide) ?_
      exact h
theorem eX7_wheelsOf {G : Gm} {S : List Sh} {μ : Mem} {Q : Int → Mem → Prop} {x0 x1 : Int} (h : ∀ Φ : Fr, St G Φ cX7_wheelsOf RX7 4 0 0 0 0 → Rt G Φ (Pi S Q) 0 0 (some .int) → Ex G Φ 4 0 [some (2, x0), some (0, x1), none, none] [] S μ 0 0) : Ci G mX7_wheelsOf [(2, x0), (0, x1)] S μ Q :=
  call_of' (plainFor_of_name (by decide +kernel)) [some (2, x0), some (0, x1), none, none] rfl (Nat.le_of_ble_eq_true rfl) (fun Φ hΦ hR => h Φ hΦ hR)
theorem bX7_wheelsOf_0 {G : Gm} {Φ : Fr} {S : List Sh} {μ : Mem} {Q : Int → Mem → Prop} (hΦ : St G Φ cX7_wheelsOf RX7 4 0 0 0 0) (hR : Rt G Φ (Pi S Q) 0 0 (some .int)) {x0 x1 : Int} (h : Ex G Φ 4 4 [some (2, x0), some (0, x1), some (0, 0), some (0, 0)] [] S μ 0 0) : Ex G Φ 4 0 [some (2, x0), some (0, x1), none, none] [] S μ 0 0 := by
  refine ex_iconst hΦ dX7_wheelsOf_0 ?_
  refine ex_istore_n (L' := [some (2, x0), some (0, x1), some (0, 0), none]) hΦ dX7_wheelsOf_1 (by decide) rfl ?_
  refine ex_iconst hΦ dX7_wheelsOf_2 ?_
  refine ex_istore_n (L' := [some (2, x0), some (0, x1), some (0, 0), some (0, 0)]) hΦ dX7_wheelsOf_3 (by decide) rfl ?_
  exact h
theorem bX7_roundOf_23 {G : Gm} {Φ : Fr} {S : List Sh} {μ : Mem} {Q : Int → Mem → Prop} (hΦ : St G Φ cX7_roundOf RX7 9 2 53 0 0) (hR : Rt G Φ (Pj S Q) 0 0 (some .long)) {x0 x1 x2 x3 x5 : Int} (h : So S x0 (.inl 7) ∧ (So S (μ x0 1) (.inl 6) ∧ (R32 x5 ∧ (R32 (μ (μ x0 1) 0) ∧ (((μ (μ x0 1) 0) ≤ x5 → Q x3 μ) ∧ (¬ ((μ (μ x0 1) 0) ≤ x5) → R64 x3 ∧ ((999999999 < x3 → Q x3 μ) ∧ (¬ (999999999 < x3) → R32 x2 ∧ (0 ≤ x5 ∧ (x5 ≤ 31 ∧ (R32 ((x2 / 2 ^ (Int.toNat x5)) % 2) ∧ ((((x2 / 2 ^ (Int.toNat x5)) % 2) ≠ 1 → Ex G Φ 9 23 [some (2, x0), some (0, x1), some (0, x2), some (1, x3), none, some (0, (x5 + 1)), none, none, none] [] S μ 0 0) ∧ (((x2 / 2 ^ (Int.toNat x5)) % 2) = 1 → Ai S (μ (μ x0 1) 5) 0 x5 ∧ (So S (μ x0 3) (.inl 3) ∧ (Ai S (μ (μ x0 3) 1) 1 x5 ∧ (R32 (μ (μ (μ x0 1) 5) x5) ∧ (Ai S (μ (μ x0 3) 0) 1 x5 ∧ (Cj G mX7_common [(1, (μ (μ (μ x0 3) 0) x5)), (1, (μ (μ (μ x0 1) 5) x5))] S μ (fun r15 μ15 => R64 ((μ (μ (μ x0 3) 1) x5) * (μ (μ (μ x0 1) 5) x5)) ∧ (R64 r15 ∧ (r15 ≠ 0 ∧ (Cj G mX7_common [(1, x3), (1, (Int.tdiv ((μ (μ (μ x0 3) 1) x5) * (μ (μ (μ x0 1) 5) x5)) r15))] S μ15 (fun r19 μ19 => R64 r19 ∧ (r19 ≠ 0 ∧ Ex G Φ 9 23 [some (2, x0), some (0, x1), some (0, x2), some (1, ((Int.tdiv x3 r19) * (Int.tdiv ((μ (μ (μ x0 3) 1) x5) * (μ (μ (μ x0 1) 5) x5)) r15))), none, some (0, (x5 + 1)), none, none, none] [] S μ19 0 0)))))))))))))))))))))))) : Ex G Φ 9 23 [some (2, x0), some (0, x1), some (0, x2), some (1, x3), none, some (0, x5), none, none, none] [] S μ 0 0 := by
  refine ex_iload hΦ dX7_roundOf_23 rfl ?_
  obtain ⟨o1, h⟩ := h
  refine ex_aload_n hΦ dX7_roundOf_25 rfl o1.1 ?_
  refine ex_getf hΦ fl_X7_19 o1 dX7_roundOf_26 ?_
  obtain ⟨o2, h⟩ := h
  refine ex_getf hΦ fl_X7_95 o2 dX7_roundOf_29 ?_
  obtain ⟨o3, h⟩ := h
  obtain ⟨o4, h⟩ := h
  refine ex_icmp_ge 116 hΦ dX7_roundOf_32 (by decide) o3 o4 (fun c => ?_) (fun c => ?_)
  · have h := h.1 c
    refine ex_lload_n hΦ dX7_roundOf_116 rfl ?_
    exact ex_returnj hΦ hR dX7_roundOf_117 h
  · have h := h.2 c
    refine ex_lload_n hΦ dX7_roundOf_35 rfl ?_
    refine ex_ldc2 hΦ dX7_roundOf_36 qw654 ?_
    obtain ⟨o5, h⟩ := h
    refine ex_lcmp hΦ dX7_roundOf_39 o5 ⟨by decide, by decide⟩ ?_
    refine ex_lif_gt 116 hΦ dX7_roundOf_40 (by decide) (fun c => ?_) (fun c => ?_)
    · have h := h.1 c
      refine ex_lload_n hΦ dX7_roundOf_116 rfl ?_
      exact ex_returnj hΦ hR dX7_roundOf_117 h
    · have h := h.2 c
      refine ex_iload_n hΦ dX7_roundOf_43 rfl ?_
      refine ex_iload hΦ dX7_roundOf_44 rfl ?_
      obtain ⟨o6, h⟩ := h
      obtain ⟨o7, h⟩ := h
      obtain ⟨o8, h⟩ := h
      refine ex_ishr hΦ dX7_roundOf_46 o6 o7 o8 ?_
      refine ex_iconst hΦ dX7_roundOf_47 ?_
      refine ex_iand1 hΦ dX7_roundOf_48 ?_
      refine ex_iconst hΦ dX7_roundOf_49 ?_
      obtain ⟨o9, h⟩ := h
      refine ex_icmp_ne 110 hΦ dX7_roundOf_50 (by decide) o9 ⟨by decide, by decide⟩ (fun c => ?_) (fun c => ?_)
      · have h := h.1 c
        refine ex_iinc (L' := [some (2, x0), some (0, x1), some (0, x2), some (1, x3), none, some (0, (x5 + 1)), none, none, none]) hΦ dX7_roundOf_110 rfl (by decide) rfl ?_
        refine ex_goto 23 hΦ dX7_roundOf_113 (by decide) ?_
        exact h
      · have h := h.2 c
        refine ex_aload_n hΦ dX7_roundOf_53 rfl o1.1 ?_
        refine ex_getf hΦ fl_X7_19 o1 dX7_roundOf_54 ?_
        refine ex_getf hΦ fl_X7_147 o2 dX7_roundOf_57 ?_
        refine ex_iload hΦ dX7_roundOf_60 rfl ?_
        obtain ⟨o10, h⟩ := h
        refine ex_iald' hΦ o10 dX7_roundOf_62 ?_
        refine ex_istore (L' := [some (2, x0), some (0, x1), some (0, x2), some (1, x3), none, some (0, x5), some (0, (μ (μ (μ x0 1) 5) x5)), none, none]) hΦ dX7_roundOf_63 (by decide) rfl ?_
        refine ex_aload_n hΦ dX7_roundOf_65 rfl o1.1 ?_
        refine ex_getf hΦ fl_X7_29 o1 dX7_roundOf_66 ?_
        obtain ⟨o11, h⟩ := h
        refine ex_getf hΦ fl_X7_158 o11 dX7_roundOf_69 ?_
        refine ex_iload hΦ dX7_roundOf_72 rfl ?_
        obtain ⟨o12, h⟩ := h
        refine ex_lald' hΦ o12 dX7_roundOf_74 ?_
        refine ex_iload hΦ dX7_roundOf_75 rfl ?_
        obtain ⟨o13, h⟩ := h
        refine ex_i2l hΦ dX7_roundOf_77 o13 ?_
        refine ex_lmul hΦ dX7_roundOf_78 ?_
        refine ex_aload_n hΦ dX7_roundOf_79 rfl o1.1 ?_
        refine ex_getf hΦ fl_X7_29 o1 dX7_roundOf_80 ?_
        refine ex_getf hΦ fl_X7_154 o11 dX7_roundOf_83 ?_
        refine ex_iload hΦ dX7_roundOf_86 rfl ?_
        obtain ⟨o14, h⟩ := h
        refine ex_lald' hΦ o14 dX7_roundOf_88 ?_
        refine ex_iload hΦ dX7_roundOf_89 rfl ?_
        refine ex_i2l hΦ dX7_roundOf_91 o13 ?_
        refine ex_callSj [(1, (μ (μ (μ x0 3) 0) x5)), (1, (μ (μ (μ x0 1) 5) x5))] [(1, (μ (μ (μ x0 1) 5) x5)), (1, (μ (μ (μ x0 3) 0) x5)), (1, ((μ (μ (μ x0 3) 1) x5) * (μ (μ (μ x0 1) 5) x5)))] hΦ lkS_X7_338 ⟨by decide, by decide⟩ (Nat.le_of_ble_eq_true rfl) rfl (by decide) dX7_roundOf_92 rfl h (fun r15 μ15 h => ?_)
        obtain ⟨o16, h⟩ := h
        obtain ⟨o17, h⟩ := h
        obtain ⟨o18, h⟩ := h
        refine ex_ldiv hΦ dX7_roundOf_95 o16 o17 o18 ?_
        refine ex_lstore (L' := [some (2, x0), some (0, x1), some (0, x2), some (1, x3), none, some (0, x5), some (0, (μ (μ (μ x0 1) 5) x5)), some (1, (Int.tdiv ((μ (μ (μ x0 3) 1) x5) * (μ (μ (μ x0 1) 5) x5)) r15)), none]) hΦ dX7_roundOf_96 (by decide) rfl ?_
        refine ex_lload_n hΦ dX7_roundOf_98 rfl ?_
        refine ex_lload_n hΦ dX7_roundOf_99 rfl ?_
        refine ex_lload hΦ dX7_roundOf_100 rfl ?_
        refine ex_callSj [(1, x3), (1, (Int.tdiv ((μ (μ (μ x0 3) 1) x5) * (μ (μ (μ x0 1) 5) x5)) r15))] [(1, (Int.tdiv ((μ (μ (μ x0 3) 1) x5) * (μ (μ (μ x0 1) 5) x5)) r15)), (1, x3), (1, x3)] hΦ lkS_X7_338 ⟨by decide, by decide⟩ (Nat.le_of_ble_eq_true rfl) rfl (by decide) dX7_roundOf_102 rfl h (fun r19 μ19 h => ?_)
        obtain ⟨o20, h⟩ := h
        obtain ⟨o21, h⟩ := h
        refine ex_ldiv hΦ dX7_roundOf_105 o5 o20 o21 ?_
        refine ex_lload hΦ dX7_roundOf_106 rfl ?_
        refine ex_lmul hΦ dX7_roundOf_108 ?_
        refine ex_lstore_n (L' := [some (2, x0), some (0, x1), some (0, x2), some (1, ((Int.tdiv x3 r19) * (Int.tdiv ((μ (μ (μ x0 3) 1) x5) * (μ (μ (μ x0 1) 5) x5)) r15))), none, some (0, x5), some (0, (μ (μ (μ x0 1) 5) x5)), some (1, (Int.tdiv ((μ (μ (μ x0 3) 1) x5) * (μ (μ (μ x0 1) 5) x5)) r15)), none]) hΦ dX7_roundOf_109 (by decide) rfl ?_
        refine ex_iinc (L' := [some (2, x0), some (0, x1), some (0, x2), some (1, ((Int.tdiv x3 r19) * (Int.tdiv ((μ (μ (μ x0 3) 1) x5) * (μ (μ (μ x0 1) 5) x5)) r15))), none, some (0, (x5 + 1)), some (0, (μ (μ (μ x0 1) 5) x5)), some (1, (Int.tdiv ((μ (μ (μ x0 3) 1) x5) * (μ (μ (μ x0 1) 5) x5)) r15)), none]) hΦ dX7_roundOf_110 rfl (by decide) rfl ?_
        refine ex_goto 23 hΦ dX7_roundOf_113 (by decide) ?_
        refine ex_forget (L' := [some (2, x0), some (0, x1), some (0, x2), some (1, ((Int.tdiv x3 r19) * (Int.tdiv ((μ (μ (μ x0 3) 1) x5) * (μ (μ (μ x0 1) 5) x5)) r15))), none, some (0, (x5 + 1)), none, none, none]) [6, 7] rfl ?_
        exact h
theorem eX7_roundOf {G : Gm} {S : List Sh} {μ : Mem} {Q : Int → Mem → Prop} {x0 x1 : Int} (h : ∀ Φ : Fr, St G Φ cX7_roundOf RX7 9 2 53 0 0 → Rt G Φ (Pj S Q) 0 0 (some .long) → Ex G Φ 9 0 [some (2, x0), some (0, x1), none, none, none, none, none, none, none] [] S μ 0 0) : Cj G mX7_roundOf [(2, x0), (0, x1)] S μ Q :=
  call_of' (plainFor_of_name (by decide +kernel)) [some (2, x0), some (0, x1), none, none, none, none, none, none, none] rfl (Nat.le_of_ble_eq_true rfl) (fun Φ hΦ hR => h Φ hΦ hR)
theorem bX7_roundOf_0 {G : Gm} {Φ : Fr} {S : List Sh} {μ : Mem} {Q : Int → Mem → Prop} (hΦ : St G Φ cX7_roundOf RX7 9 2 53 0 0) (hR : Rt G Φ (Pj S Q) 0 0 (some .long)) {x0 x1 : Int} (h : So S x0 (.inl 7) ∧ (So S (μ x0 3) (.inl 3) ∧ (R32 (mand x1 (μ (μ x0 3) 4)) ∧ (((mand x1 (μ (μ x0 3) 4)) ≠ 0 → Ex G Φ 9 23 [some (2, x0), some (0, x1), some (0, (mand x1 (μ (μ x0 3) 4))), some (1, 1), none, some (0, 0), none, none, none] [] S μ 0 0) ∧ ((mand x1 (μ (μ x0 3) 4)) = 0 → Ex G Φ 9 23 [some (2, x0), some (0, x1), some (0, (mand x1 (μ (μ x0 3) 4))), some (1, 0), none, some (0, 0), none, none, none] [] S μ 0 0))))) : Ex G Φ 9 0 [some (2, x0), some (0, x1), none, none, none, none, none, none, none] [] S μ 0 0 := by
  refine ex_iload_n hΦ dX7_roundOf_0 rfl ?_
  obtain ⟨o1, h⟩ := h
  refine ex_aload_n hΦ dX7_roundOf_1 rfl o1.1 ?_
  refine ex_getf hΦ fl_X7_29 o1 dX7_roundOf_2 ?_
  obtain ⟨o2, h⟩ := h
  refine ex_getf hΦ fl_X7_129 o2 dX7_roundOf_5 ?_
  refine ex_iand hΦ dX7_roundOf_8 ?_
  refine ex_istore_n (L' := [some (2, x0), some (0, x1), some (0, (mand x1 (μ (μ x0 3) 4))), none, none, none, none, none, none]) hΦ dX7_roundOf_9 (by decide) rfl ?_
  refine ex_iload_n hΦ dX7_roundOf_10 rfl ?_
  obtain ⟨o3, h⟩ := h
  refine ex_if_ne 18 hΦ dX7_roundOf_11 (by decide) o3 (fun c => ?_) (fun c => ?_)
  · have h := h.1 c
    refine ex_lconst (x := 1) hΦ dX7_roundOf_18 (by decide) ?_
    refine ex_lstore_n (L' := [some (2, x0), some (0, x1), some (0, (mand x1 (μ (μ x0 3) 4))), some (1, 1), none, none, none, none, none]) hΦ dX7_roundOf_19 (by decide) rfl ?_
    refine ex_iconst hΦ dX7_roundOf_20 ?_
    refine ex_istore (L' := [some (2, x0), some (0, x1), some (0, (mand x1 (μ (μ x0 3) 4))), some (1, 1), none, some (0, 0), none, none, none]) hΦ dX7_roundOf_21 (by decide) rfl ?_
    exact h
  · have h := h.2 c
    refine ex_lconst (x := 0) hΦ dX7_roundOf_14 (by decide) ?_
    refine ex_goto 19 hΦ dX7_roundOf_15 (by decide) ?_
    refine ex_lstore_n (L' := [some (2, x0), some (0, x1), some (0, (mand x1 (μ (μ x0 3) 4))), some (1, 0), none, none, none, none, none]) hΦ dX7_roundOf_19 (by decide) rfl ?_
    refine ex_iconst hΦ dX7_roundOf_20 ?_
    refine ex_istore (L' := [some (2, x0), some (0, x1), some (0, (mand x1 (μ (μ x0 3) 4))), some (1, 0), none, some (0, 0), none, none, none]) hΦ dX7_roundOf_21 (by decide) rfl ?_
    exact h
theorem bX7_fewestIdlers_31 {G : Gm} {Φ : Fr} {S : List Sh} {μ : Mem} {Q : Int → Mem → Prop} (hΦ : St G Φ cX7_fewestIdlers RX7 6 6 158 0 0) (hR : Rt G Φ (Pi S Q) 0 0 (some .int)) {x0 x1 x2 x3 x4 x5 : Int} (h : R32 x5 ∧ (R32 x3 ∧ ((x3 ≤ x5 → Q x4 μ) ∧ (¬ (x3 ≤ x5) → Ci G mX7_isFewer [(0, x5), (0, x4), (0, x3)] S μ (fun r3 μ3 => R32 r3 ∧ ((r3 = 0 → Ex G Φ 6 31 [some (2, x0), some (0, x1), some (0, x2), some (0, x3), some (0, x4), some (0, (x5 + 1))] [] S μ3 0 0) ∧ (¬ (r3 = 0) → So S x0 (.inl 7) ∧ (Ci G mX7_wouldTurnAlike [(2, x0), (0, x1), (0, x2), (0, x5)] S μ3 (fun r6 μ6 => R32 r6 ∧ ((r6 = 0 → Ex G Φ 6 31 [some (2, x0), some (0, x1), some (0, x2), some (0, x3), some (0, x4), some (0, (x5 + 1))] [] S μ6 0 0) ∧ (¬ (r6 = 0) → Ex G Φ 6 31 [some (2, x0), some (0, x1), some (0, x2), some (0, x3), some (0, x5), some (0, (x5 + 1))] [] S μ6 0 0))))))))))) : Ex G Φ 6 31 [some (2, x0), some (0, x1), some (0, x2), some (0, x3), some (0, x4), some (0, x5)] [] S μ 0 0 := by
  refine ex_iload hΦ dX7_fewestIdlers_31 rfl ?_
  refine ex_iload_n hΦ dX7_fewestIdlers_33 rfl ?_
  obtain ⟨o1, h⟩ := h
  obtain ⟨o2, h⟩ := h
  refine ex_icmp_ge 69 hΦ dX7_fewestIdlers_34 (by decide) o1 o2 (fun c => ?_) (fun c => ?_)
  · have h := h.1 c
    refine ex_iload hΦ dX7_fewestIdlers_69 rfl ?_
    exact ex_returni hΦ hR dX7_fewestIdlers_71 h
  · have h := h.2 c
    refine ex_iload hΦ dX7_fewestIdlers_37 rfl ?_
    refine ex_iload hΦ dX7_fewestIdlers_39 rfl ?_
    refine ex_iload_n hΦ dX7_fewestIdlers_41 rfl ?_
    refine ex_callSi [(0, x5), (0, x4), (0, x3)] [(0, x3), (0, x4), (0, x5)] hΦ lkS_X7_348 ⟨by decide, by decide⟩ (Nat.le_of_ble_eq_true rfl) rfl (by decide) dX7_fewestIdlers_42 rfl h (fun r3 μ3 h => ?_)
    obtain ⟨o4, h⟩ := h
    refine ex_if_eq 63 hΦ dX7_fewestIdlers_45 (by decide) o4 (fun c => ?_) (fun c => ?_)
    · have h := h.1 c
      refine ex_iinc (L' := [some (2, x0), some (0, x1), some (0, x2), some (0, x3), some (0, x4), some (0, (x5 + 1))]) hΦ dX7_fewestIdlers_63 rfl (by decide) rfl ?_
      refine ex_goto 31 hΦ dX7_fewestIdlers_66 (by decide) ?_
      exact h
    · have h := h.2 c
      obtain ⟨o5, h⟩ := h
      refine ex_aload_n hΦ dX7_fewestIdlers_48 rfl o5.1 ?_
      refine ex_iload_n hΦ dX7_fewestIdlers_49 rfl ?_
      refine ex_iload_n hΦ dX7_fewestIdlers_50 rfl ?_
      refine ex_iload hΦ dX7_fewestIdlers_51 rfl ?_
      refine ex_callVi [(0, x1), (0, x2), (0, x5)] [(0, x5), (0, x2), (0, x1), (2, x0)] hΦ lkV_X7_344 ⟨by decide, by decide⟩ (Nat.le_of_ble_eq_true rfl) rfl (by decide) 7 (by decide) rfl o5 dX7_fewestIdlers_53 rfl h (fun r6 μ6 h => ?_)
      obtain ⟨o7, h⟩ := h
      refine ex_if_eq 63 hΦ dX7_fewestIdlers_56 (by decide) o7 (fun c => ?_) (fun c => ?_)
      · have h := h.1 c
        refine ex_iinc (L' := [some (2, x0), some (0, x1), some (0, x2), some (0, x3), some (0, x4), some (0, (x5 + 1))]) hΦ dX7_fewestIdlers_63 rfl (by decide) rfl ?_
        refine ex_goto 31 hΦ dX7_fewestIdlers_66 (by decide) ?_
        exact h
      · have h := h.2 c
        refine ex_iload hΦ dX7_fewestIdlers_59 rfl ?_
        refine ex_istore (L' := [some (2, x0), some (0, x1), some (0, x2), some (0, x3), some (0, x5), some (0, x5)]) hΦ dX7_fewestIdlers_61 (by decide) rfl ?_
        refine ex_iinc (L' := [some (2, x0), some (0, x1), some (0, x2), some (0, x3), some (0, x5), some (0, (x5 + 1))]) hΦ dX7_fewestIdlers_63 rfl (by decide) rfl ?_
        refine ex_goto 31 hΦ dX7_fewestIdlers_66 (by decide) ?_
        exact h
theorem eX7_fewestIdlers {G : Gm} {S : List Sh} {μ : Mem} {Q : Int → Mem → Prop} {x0 x1 x2 : Int} (h : ∀ Φ : Fr, St G Φ cX7_fewestIdlers RX7 6 6 158 0 0 → Rt G Φ (Pi S Q) 0 0 (some .int) → Ex G Φ 6 0 [some (2, x0), some (0, x1), some (0, x2), none, none, none] [] S μ 0 0) : Ci G mX7_fewestIdlers [(2, x0), (0, x1), (0, x2)] S μ Q :=
  call_of' (plainFor_of_name (by decide +kernel)) [some (2, x0), some (0, x1), some (0, x2), none, none, none] rfl (Nat.le_of_ble_eq_true rfl) (fun Φ hΦ hR => h Φ hΦ hR)
theorem bX7_fewestIdlers_0 {G : Gm} {Φ : Fr} {S : List Sh} {μ : Mem} {Q : Int → Mem → Prop} (hΦ : St G Φ cX7_fewestIdlers RX7 6 6 158 0 0) (hR : Rt G Φ (Pi S Q) 0 0 (some .int)) {x0 x1 x2 : Int} (h : So S x0 (.inl 7) ∧ (Ci G mX7_linksOn [(2, x0)] S μ (fun r2 μ2 => So S (μ2 x0 1) (.inl 6) ∧ (Ci G mX6_linksThatMesh [(2, (μ2 x0 1))] S μ2 (fun r4 μ4 => Ci G mX7_wouldTurnAlike [(2, x0), (0, x1), (0, x2), (0, (mand r2 r4))] S μ4 (fun r5 μ5 => R32 r5 ∧ ((r5 ≠ 0 → Ex G Φ 6 31 [some (2, x0), some (0, x1), some (0, x2), some (0, (mand r2 r4)), some (0, (mand r2 r4)), some (0, 0)] [] S μ5 0 0) ∧ (r5 = 0 → Q (-1) μ5)))))))) : Ex G Φ 6 0 [some (2, x0), some (0, x1), some (0, x2), none, none, none] [] S μ 0 0 := by
  obtain ⟨o1, h⟩ := h
  refine ex_aload_n hΦ dX7_fewestIdlers_0 rfl o1.1 ?_
  refine ex_callVi [] [(2, x0)] hΦ lkV_X7_310 ⟨by decide, by decide⟩ (Nat.le_of_ble_eq_true rfl) rfl (by decide) 7 (by decide) rfl o1 dX7_fewestIdlers_1 rfl h (fun r2 μ2 h => ?_)
  refine ex_aload_n hΦ dX7_fewestIdlers_4 rfl o1.1 ?_
  refine ex_getf hΦ fl_X7_19 o1 dX7_fewestIdlers_5 ?_
  obtain ⟨o3, h⟩ := h
  refine ex_callVi [] [(2, (μ2 x0 1)), (0, r2)] hΦ lkV_X7_341 ⟨by decide, by decide⟩ (Nat.le_of_ble_eq_true rfl) rfl (by decide) 6 (by decide) rfl o3 dX7_fewestIdlers_8 rfl h (fun r4 μ4 h => ?_)
  refine ex_iand hΦ dX7_fewestIdlers_11 ?_
  refine ex_istore_n (L' := [some (2, x0), some (0, x1), some (0, x2), some (0, (mand r2 r4)), none, none]) hΦ dX7_fewestIdlers_12 (by decide) rfl ?_
  refine ex_iload_n hΦ dX7_fewestIdlers_13 rfl ?_
  refine ex_istore (L' := [some (2, x0), some (0, x1), some (0, x2), some (0, (mand r2 r4)), some (0, (mand r2 r4)), none]) hΦ dX7_fewestIdlers_14 (by decide) rfl ?_
  refine ex_aload_n hΦ dX7_fewestIdlers_16 rfl o1.1 ?_
  refine ex_iload_n hΦ dX7_fewestIdlers_17 rfl ?_
  refine ex_iload_n hΦ dX7_fewestIdlers_18 rfl ?_
  refine ex_iload_n hΦ dX7_fewestIdlers_19 rfl ?_
  refine ex_callVi [(0, x1), (0, x2), (0, (mand r2 r4))] [(0, (mand r2 r4)), (0, x2), (0, x1), (2, x0)] hΦ lkV_X7_344 ⟨by decide, by decide⟩ (Nat.le_of_ble_eq_true rfl) rfl (by decide) 7 (by decide) rfl o1 dX7_fewestIdlers_20 rfl h (fun r5 μ5 h => ?_)
  obtain ⟨o6, h⟩ := h
  refine ex_if_ne 28 hΦ dX7_fewestIdlers_23 (by decide) o6 (fun c => ?_) (fun c => ?_)
  · have h := h.1 c
    refine ex_iconst hΦ dX7_fewestIdlers_28 ?_
    refine ex_istore (L' := [some (2, x0), some (0, x1), some (0, x2), some (0, (mand r2 r4)), some (0, (mand r2 r4)), some (0, 0)]) hΦ dX7_fewestIdlers_29 (by decide) rfl ?_
    exact h
  · have h := h.2 c
    refine ex_iconst hΦ dX7_fewestIdlers_26 ?_
    exact ex_returni hΦ hR dX7_fewestIdlers_27 h
theorem eX7_wouldTurnAlike {G : Gm} {S : List Sh} {μ : Mem} {Q : Int → Mem → Prop} {x0 x1 x2 x3 : Int} (h : ∀ Φ : Fr, St G Φ cX7_wouldTurnAlike RX7 4 5 135 0 0 → Rt G Φ (Pi S Q) 0 0 (some .boolean) → Ex G Φ 4 0 [some (2, x0), some (0, x1), some (0, x2), some (0, x3)] [] S μ 0 0) : Ci G mX7_wouldTurnAlike [(2, x0), (0, x1), (0, x2), (0, x3)] S μ Q :=
  call_of' (plainFor_of_name (by decide +kernel)) [some (2, x0), some (0, x1), some (0, x2), some (0, x3)] rfl (Nat.le_of_ble_eq_true rfl) (fun Φ hΦ hR => h Φ hΦ hR)
theorem bX7_wouldTurnAlike_0 {G : Gm} {Φ : Fr} {S : List Sh} {μ : Mem} {Q : Int → Mem → Prop} (hΦ : St G Φ cX7_wouldTurnAlike RX7 4 5 135 0 0) (hR : Rt G Φ (Pi S Q) 0 0 (some .boolean)) {x0 x1 x2 x3 : Int} (h : So S x0 (.inl 7) ∧ (Ci G mX7_linksOn [(2, x0)] S μ (fun r2 μ2 => So S (μ x0 4) (.inl 3) ∧ (Cv G mX3_reckon [(2, (μ x0 4)), (2, (μ x0 1)), (0, r2), (0, x3)] S μ2 (fun μ4 => So S (μ4 x0 4) (.inl 3) ∧ (Ci G mX3_turns [(2, (μ4 x0 4)), (0, x1)] S μ4 (fun r6 μ6 => R32 r6 ∧ ((r6 = 0 → Q 0 μ6) ∧ (¬ (r6 = 0) → So S (μ6 x0 4) (.inl 3) ∧ (Ci G mX3_turns [(2, (μ6 x0 4)), (0, x2)] S μ6 (fun r9 μ9 => R32 r9 ∧ ((r9 = 0 → Q 0 μ9) ∧ (¬ (r9 = 0) → So S (μ9 x0 4) (.inl 3) ∧ (Ci G mX3_turnAlike [(2, (μ9 x0 4)), (0, x1), (0, x2)] S μ9 (fun r12 μ12 => R32 r12 ∧ ((r12 = 0 → Q 0 μ12) ∧ (¬ (r12 = 0) → Q 1 μ12))))))))))))))))) : Ex G Φ 4 0 [some (2, x0), some (0, x1), some (0, x2), some (0, x3)] [] S μ 0 0 := by
  obtain ⟨o1, h⟩ := h
  refine ex_aload_n hΦ dX7_wouldTurnAlike_0 rfl o1.1 ?_
  refine ex_getf hΦ fl_X7_33 o1 dX7_wouldTurnAlike_1 ?_
  refine ex_aload_n hΦ dX7_wouldTurnAlike_4 rfl o1.1 ?_
  refine ex_getf hΦ fl_X7_19 o1 dX7_wouldTurnAlike_5 ?_
  refine ex_aload_n hΦ dX7_wouldTurnAlike_8 rfl o1.1 ?_
  refine ex_callVi [] [(2, x0), (2, (μ x0 1)), (2, (μ x0 4))] hΦ lkV_X7_310 ⟨by decide, by decide⟩ (Nat.le_of_ble_eq_true rfl) rfl (by decide) 7 (by decide) rfl o1 dX7_wouldTurnAlike_9 rfl h (fun r2 μ2 h => ?_)
  refine ex_iload_n hΦ dX7_wouldTurnAlike_12 rfl ?_
  obtain ⟨o3, h⟩ := h
  refine ex_callVv [(2, (μ x0 1)), (0, r2), (0, x3)] [(0, x3), (0, r2), (2, (μ x0 1)), (2, (μ x0 4))] hΦ lkV_X7_313 ⟨by decide, by decide⟩ (Nat.le_of_ble_eq_true rfl) rfl (by decide) 3 (by decide) rfl o3 dX7_wouldTurnAlike_13 rfl h (fun μ4 h => ?_)
  refine ex_aload_n hΦ dX7_wouldTurnAlike_16 rfl o1.1 ?_
  refine ex_getf hΦ fl_X7_33 o1 dX7_wouldTurnAlike_17 ?_
  refine ex_iload_n hΦ dX7_wouldTurnAlike_20 rfl ?_
  obtain ⟨o5, h⟩ := h
  refine ex_callVi [(0, x1)] [(0, x1), (2, (μ4 x0 4))] hΦ lkV_X7_240 ⟨by decide, by decide⟩ (Nat.le_of_ble_eq_true rfl) rfl (by decide) 3 (by decide) rfl o5 dX7_wouldTurnAlike_21 rfl h (fun r6 μ6 h => ?_)
  obtain ⟨o7, h⟩ := h
  refine ex_if_eq 54 hΦ dX7_wouldTurnAlike_24 (by decide) o7 (fun c => ?_) (fun c => ?_)
  · have h := h.1 c
    refine ex_iconst hΦ dX7_wouldTurnAlike_54 ?_
    exact ex_returnz hΦ hR (by decide) (by decide) dX7_wouldTurnAlike_55 h
  · have h := h.2 c
    refine ex_aload_n hΦ dX7_wouldTurnAlike_27 rfl o1.1 ?_
    refine ex_getf hΦ fl_X7_33 o1 dX7_wouldTurnAlike_28 ?_
    refine ex_iload_n hΦ dX7_wouldTurnAlike_31 rfl ?_
    obtain ⟨o8, h⟩ := h
    refine ex_callVi [(0, x2)] [(0, x2), (2, (μ6 x0 4))] hΦ lkV_X7_240 ⟨by decide, by decide⟩ (Nat.le_of_ble_eq_true rfl) rfl (by decide) 3 (by decide) rfl o8 dX7_wouldTurnAlike_32 rfl h (fun r9 μ9 h => ?_)
    obtain ⟨o10, h⟩ := h
    refine ex_if_eq 54 hΦ dX7_wouldTurnAlike_35 (by decide) o10 (fun c => ?_) (fun c => ?_)
    · have h := h.1 c
      refine ex_iconst hΦ dX7_wouldTurnAlike_54 ?_
      exact ex_returnz hΦ hR (by decide) (by decide) dX7_wouldTurnAlike_55 h
    · have h := h.2 c
      refine ex_aload_n hΦ dX7_wouldTurnAlike_38 rfl o1.1 ?_
      refine ex_getf hΦ fl_X7_33 o1 dX7_wouldTurnAlike_39 ?_
      refine ex_iload_n hΦ dX7_wouldTurnAlike_42 rfl ?_
      refine ex_iload_n hΦ dX7_wouldTurnAlike_43 rfl ?_
      obtain ⟨o11, h⟩ := h
      refine ex_callVi [(0, x1), (0, x2)] [(0, x2), (0, x1), (2, (μ9 x0 4))] hΦ lkV_X7_243 ⟨by decide, by decide⟩ (Nat.le_of_ble_eq_true rfl) rfl (by decide) 3 (by decide) rfl o11 dX7_wouldTurnAlike_44 rfl h (fun r12 μ12 h => ?_)
      obtain ⟨o13, h⟩ := h
      refine ex_if_eq 54 hΦ dX7_wouldTurnAlike_47 (by decide) o13 (fun c => ?_) (fun c => ?_)
      · have h := h.1 c
        refine ex_iconst hΦ dX7_wouldTurnAlike_54 ?_
        exact ex_returnz hΦ hR (by decide) (by decide) dX7_wouldTurnAlike_55 h
      · have h := h.2 c
        refine ex_iconst hΦ dX7_wouldTurnAlike_50 ?_
        refine ex_goto 55 hΦ dX7_wouldTurnAlike_51 (by decide) ?_
        exact ex_returnz hΦ hR (by decide) (by decide) dX7_wouldTurnAlike_55 h
theorem bX7_fewestCuts_27 {G : Gm} {Φ : Fr} {S : List Sh} {μ : Mem} {Q : Int → Mem → Prop} (hΦ : St G Φ cX7_fewestCuts RX7 5 6 157 0 0) (hR : Rt G Φ (Pi S Q) 0 0 (some .int)) {x0 x1 x2 x3 x4 : Int} (h : R32 x4 ∧ (R32 x2 ∧ ((x2 ≤ x4 → Q x3 μ) ∧ (¬ (x2 ≤ x4) → Ci G mX7_isFewer [(0, x4), (0, x3), (0, x2)] S μ (fun r3 μ3 => R32 r3 ∧ ((r3 = 0 → Ex G Φ 5 27 [some (2, x0), some (0, x1), some (0, x2), some (0, x3), some (0, (x4 + 1))] [] S μ3 0 0) ∧ (¬ (r3 = 0) → So S x0 (.inl 7) ∧ (Ci G mX7_wouldRest [(2, x0), (0, x1), (0, x4)] S μ3 (fun r6 μ6 => R32 r6 ∧ ((r6 = 0 → Ex G Φ 5 27 [some (2, x0), some (0, x1), some (0, x2), some (0, x3), some (0, (x4 + 1))] [] S μ6 0 0) ∧ (¬ (r6 = 0) → Ex G Φ 5 27 [some (2, x0), some (0, x1), some (0, x2), some (0, x4), some (0, (x4 + 1))] [] S μ6 0 0))))))))))) : Ex G Φ 5 27 [some (2, x0), some (0, x1), some (0, x2), some (0, x3), some (0, x4)] [] S μ 0 0 := by
  refine ex_iload hΦ dX7_fewestCuts_27 rfl ?_
  refine ex_iload_n hΦ dX7_fewestCuts_29 rfl ?_
  obtain ⟨o1, h⟩ := h
  obtain ⟨o2, h⟩ := h
  refine ex_icmp_ge 62 hΦ dX7_fewestCuts_30 (by decide) o1 o2 (fun c => ?_) (fun c => ?_)
  · have h := h.1 c
    refine ex_iload_n hΦ dX7_fewestCuts_62 rfl ?_
    exact ex_returni hΦ hR dX7_fewestCuts_63 h
  · have h := h.2 c
    refine ex_iload hΦ dX7_fewestCuts_33 rfl ?_
    refine ex_iload_n hΦ dX7_fewestCuts_35 rfl ?_
    refine ex_iload_n hΦ dX7_fewestCuts_36 rfl ?_
    refine ex_callSi [(0, x4), (0, x3), (0, x2)] [(0, x2), (0, x3), (0, x4)] hΦ lkS_X7_348 ⟨by decide, by decide⟩ (Nat.le_of_ble_eq_true rfl) rfl (by decide) dX7_fewestCuts_37 rfl h (fun r3 μ3 h => ?_)
    obtain ⟨o4, h⟩ := h
    refine ex_if_eq 56 hΦ dX7_fewestCuts_40 (by decide) o4 (fun c => ?_) (fun c => ?_)
    · have h := h.1 c
      refine ex_iinc (L' := [some (2, x0), some (0, x1), some (0, x2), some (0, x3), some (0, (x4 + 1))]) hΦ dX7_fewestCuts_56 rfl (by decide) rfl ?_
      refine ex_goto 27 hΦ dX7_fewestCuts_59 (by decide) ?_
      exact h
    · have h := h.2 c
      obtain ⟨o5, h⟩ := h
      refine ex_aload_n hΦ dX7_fewestCuts_43 rfl o5.1 ?_
      refine ex_iload_n hΦ dX7_fewestCuts_44 rfl ?_
      refine ex_iload hΦ dX7_fewestCuts_45 rfl ?_
      refine ex_callVi [(0, x1), (0, x4)] [(0, x4), (0, x1), (2, x0)] hΦ lkV_X7_351 ⟨by decide, by decide⟩ (Nat.le_of_ble_eq_true rfl) rfl (by decide) 7 (by decide) rfl o5 dX7_fewestCuts_47 rfl h (fun r6 μ6 h => ?_)
      obtain ⟨o7, h⟩ := h
      refine ex_if_eq 56 hΦ dX7_fewestCuts_50 (by decide) o7 (fun c => ?_) (fun c => ?_)
      · have h := h.1 c
        refine ex_iinc (L' := [some (2, x0), some (0, x1), some (0, x2), some (0, x3), some (0, (x4 + 1))]) hΦ dX7_fewestCuts_56 rfl (by decide) rfl ?_
        refine ex_goto 27 hΦ dX7_fewestCuts_59 (by decide) ?_
        exact h
      · have h := h.2 c
        refine ex_iload hΦ dX7_fewestCuts_53 rfl ?_
        refine ex_istore_n (L' := [some (2, x0), some (0, x1), some (0, x2), some (0, x4), some (0, x4)]) hΦ dX7_fewestCuts_55 (by decide) rfl ?_
        refine ex_iinc (L' := [some (2, x0), some (0, x1), some (0, x2), some (0, x4), some (0, (x4 + 1))]) hΦ dX7_fewestCuts_56 rfl (by decide) rfl ?_
        refine ex_goto 27 hΦ dX7_fewestCuts_59 (by decide) ?_
        exact h
theorem eX7_fewestCuts {G : Gm} {S : List Sh} {μ : Mem} {Q : Int → Mem → Prop} {x0 x1 : Int} (h : ∀ Φ : Fr, St G Φ cX7_fewestCuts RX7 5 6 157 0 0 → Rt G Φ (Pi S Q) 0 0 (some .int) → Ex G Φ 5 0 [some (2, x0), some (0, x1), none, none, none] [] S μ 0 0) : Ci G mX7_fewestCuts [(2, x0), (0, x1)] S μ Q :=
  call_of' (plainFor_of_name (by decide +kernel)) [some (2, x0), some (0, x1), none, none, none] rfl (Nat.le_of_ble_eq_true rfl) (fun Φ hΦ hR => h Φ hΦ hR)
theorem bX7_fewestCuts_0 {G : Gm} {Φ : Fr} {S : List Sh} {μ : Mem} {Q : Int → Mem → Prop} (hΦ : St G Φ cX7_fewestCuts RX7 5 6 157 0 0) (hR : Rt G Φ (Pi S Q) 0 0 (some .int)) {x0 x1 : Int} (h : So S x0 (.inl 7) ∧ (Ci G mX7_linksOn [(2, x0)] S μ (fun r2 μ2 => So S (μ2 x0 1) (.inl 6) ∧ (R32 x1 ∧ (0 ≤ (μ2 (μ2 x0 1) 3) ∧ ((μ2 (μ2 x0 1) 3) ≤ 31 ∧ (R32 ((x1 / 2 ^ (Int.toNat (μ2 (μ2 x0 1) 3))) % 2) ∧ ((((x1 / 2 ^ (Int.toNat (μ2 (μ2 x0 1) 3))) % 2) ≠ 1 → Ex G Φ 5 27 [some (2, x0), some (0, x1), some (0, r2), some (0, r2), some (0, 0)] [] S μ2 0 0) ∧ (((x1 / 2 ^ (Int.toNat (μ2 (μ2 x0 1) 3))) % 2) = 1 → Q (-1) μ2))))))))) : Ex G Φ 5 0 [some (2, x0), some (0, x1), none, none, none] [] S μ 0 0 := by
  obtain ⟨o1, h⟩ := h
  refine ex_aload_n hΦ dX7_fewestCuts_0 rfl o1.1 ?_
  refine ex_callVi [] [(2, x0)] hΦ lkV_X7_310 ⟨by decide, by decide⟩ (Nat.le_of_ble_eq_true rfl) rfl (by decide) 7 (by decide) rfl o1 dX7_fewestCuts_1 rfl h (fun r2 μ2 h => ?_)
  refine ex_istore_n (L' := [some (2, x0), some (0, x1), some (0, r2), none, none]) hΦ dX7_fewestCuts_4 (by decide) rfl ?_
  refine ex_iload_n hΦ dX7_fewestCuts_5 rfl ?_
  refine ex_istore_n (L' := [some (2, x0), some (0, x1), some (0, r2), some (0, r2), none]) hΦ dX7_fewestCuts_6 (by decide) rfl ?_
  refine ex_iload_n hΦ dX7_fewestCuts_7 rfl ?_
  refine ex_aload_n hΦ dX7_fewestCuts_8 rfl o1.1 ?_
  refine ex_getf hΦ fl_X7_19 o1 dX7_fewestCuts_9 ?_
  obtain ⟨o3, h⟩ := h
  refine ex_getf hΦ fl_X7_116 o3 dX7_fewestCuts_12 ?_
  obtain ⟨o4, h⟩ := h
  obtain ⟨o5, h⟩ := h
  obtain ⟨o6, h⟩ := h
  refine ex_ishr hΦ dX7_fewestCuts_15 o4 o5 o6 ?_
  refine ex_iconst hΦ dX7_fewestCuts_16 ?_
  refine ex_iand1 hΦ dX7_fewestCuts_17 ?_
  refine ex_iconst hΦ dX7_fewestCuts_18 ?_
  obtain ⟨o7, h⟩ := h
  refine ex_icmp_ne 24 hΦ dX7_fewestCuts_19 (by decide) o7 ⟨by decide, by decide⟩ (fun c => ?_) (fun c => ?_)
  · have h := h.1 c
    refine ex_iconst hΦ dX7_fewestCuts_24 ?_
    refine ex_istore (L' := [some (2, x0), some (0, x1), some (0, r2), some (0, r2), some (0, 0)]) hΦ dX7_fewestCuts_25 (by decide) rfl ?_
    exact h
  · have h := h.2 c
    refine ex_iconst hΦ dX7_fewestCuts_22 ?_
    exact ex_returni hΦ hR dX7_fewestCuts_23 h
theorem eX7_wouldRest {G : Gm} {S : List Sh} {μ : Mem} {Q : Int → Mem → Prop} {x0 x1 x2 : Int} (h : ∀ Φ : Fr, St G Φ cX7_wouldRest RX7 3 5 135 0 0 → Rt G Φ (Pi S Q) 0 0 (some .boolean) → Ex G Φ 3 0 [some (2, x0), some (0, x1), some (0, x2)] [] S μ 0 0) : Ci G mX7_wouldRest [(2, x0), (0, x1), (0, x2)] S μ Q :=
  call_of' (plainFor_of_name (by decide +kernel)) [some (2, x0), some (0, x1), some (0, x2)] rfl (Nat.le_of_ble_eq_true rfl) (fun Φ hΦ hR => h Φ hΦ hR)
theorem bX7_wouldRest_0 {G : Gm} {Φ : Fr} {S : List Sh} {μ : Mem} {Q : Int → Mem → Prop} (hΦ : St G Φ cX7_wouldRest RX7 3 5 135 0 0) (hR : Rt G Φ (Pi S Q) 0 0 (some .boolean)) {x0 x1 x2 : Int} (h : So S x0 (.inl 7) ∧ (Ci G mX7_linksOn [(2, x0)] S μ (fun r2 μ2 => So S (μ x0 4) (.inl 3) ∧ (Cv G mX3_reckon [(2, (μ x0 4)), (2, (μ x0 1)), (0, (mand r2 (mxor x2 (-1)))), (0, 0)] S μ2 (fun μ4 => So S (μ4 x0 4) (.inl 3) ∧ (R32 (μ4 (μ4 x0 4) 5) ∧ (((μ4 (μ4 x0 4) 5) ≠ 0 → Q 0 μ4) ∧ ((μ4 (μ4 x0 4) 5) = 0 → R32 (mand (μ4 (μ4 x0 4) 4) x1) ∧ (((mand (μ4 (μ4 x0 4) 4) x1) ≠ 0 → Q 0 μ4) ∧ ((mand (μ4 (μ4 x0 4) 4) x1) = 0 → Q 1 μ4)))))))))) : Ex G Φ 3 0 [some (2, x0), some (0, x1), some (0, x2)] [] S μ 0 0 := by
  obtain ⟨o1, h⟩ := h
  refine ex_aload_n hΦ dX7_wouldRest_0 rfl o1.1 ?_
  refine ex_getf hΦ fl_X7_33 o1 dX7_wouldRest_1 ?_
  refine ex_aload_n hΦ dX7_wouldRest_4 rfl o1.1 ?_
  refine ex_getf hΦ fl_X7_19 o1 dX7_wouldRest_5 ?_
  refine ex_aload_n hΦ dX7_wouldRest_8 rfl o1.1 ?_
  refine ex_callVi [] [(2, x0), (2, (μ x0 1)), (2, (μ x0 4))] hΦ lkV_X7_310 ⟨by decide, by decide⟩ (Nat.le_of_ble_eq_true rfl) rfl (by decide) 7 (by decide) rfl o1 dX7_wouldRest_9 rfl h (fun r2 μ2 h => ?_)
  refine ex_iload_n hΦ dX7_wouldRest_12 rfl ?_
  refine ex_iconst hΦ dX7_wouldRest_13 ?_
  refine ex_ixor hΦ dX7_wouldRest_14 ?_
  refine ex_iand hΦ dX7_wouldRest_15 ?_
  refine ex_iconst hΦ dX7_wouldRest_16 ?_
  obtain ⟨o3, h⟩ := h
  refine ex_callVv [(2, (μ x0 1)), (0, (mand r2 (mxor x2 (-1)))), (0, 0)] [(0, 0), (0, (mand r2 (mxor x2 (-1)))), (2, (μ x0 1)), (2, (μ x0 4))] hΦ lkV_X7_313 ⟨by decide, by decide⟩ (Nat.le_of_ble_eq_true rfl) rfl (by decide) 3 (by decide) rfl o3 dX7_wouldRest_17 rfl h (fun μ4 h => ?_)
  refine ex_aload_n hΦ dX7_wouldRest_20 rfl o1.1 ?_
  refine ex_getf hΦ fl_X7_33 o1 dX7_wouldRest_21 ?_
  obtain ⟨o5, h⟩ := h
  refine ex_getf hΦ fl_X7_122 o5 dX7_wouldRest_24 ?_
  obtain ⟨o6, h⟩ := h
  refine ex_if_ne 46 hΦ dX7_wouldRest_27 (by decide) o6 (fun c => ?_) (fun c => ?_)
  · have h := h.1 c
    refine ex_iconst hΦ dX7_wouldRest_46 ?_
    exact ex_returnz hΦ hR (by decide) (by decide) dX7_wouldRest_47 h
  · have h := h.2 c
    refine ex_aload_n hΦ dX7_wouldRest_30 rfl o1.1 ?_
    refine ex_getf hΦ fl_X7_33 o1 dX7_wouldRest_31 ?_
    refine ex_getf hΦ fl_X7_129 o5 dX7_wouldRest_34 ?_
    refine ex_iload_n hΦ dX7_wouldRest_37 rfl ?_
    refine ex_iand hΦ dX7_wouldRest_38 ?_
    obtain ⟨o7, h⟩ := h
    refine ex_if_ne 46 hΦ dX7_wouldRest_39 (by decide) o7 (fun c => ?_) (fun c => ?_)
    · have h := h.1 c
      refine ex_iconst hΦ dX7_wouldRest_46 ?_
      exact ex_returnz hΦ hR (by decide) (by decide) dX7_wouldRest_47 h
    · have h := h.2 c
      refine ex_iconst hΦ dX7_wouldRest_42 ?_
      refine ex_goto 47 hΦ dX7_wouldRest_43 (by decide) ?_
      exact ex_returnz hΦ hR (by decide) (by decide) dX7_wouldRest_47 h
theorem eX7_isFewer {G : Gm} {S : List Sh} {μ : Mem} {Q : Int → Mem → Prop} {x0 x1 x2 : Int} (h : ∀ Φ : Fr, St G Φ cX7_isFewer RX7 3 1 20 0 0 → Rt G Φ (Pi S Q) 0 0 (some .boolean) → Ex G Φ 3 0 [some (0, x0), some (0, x1), some (0, x2)] [] S μ 0 0) : Ci G mX7_isFewer [(0, x0), (0, x1), (0, x2)] S μ Q :=
  call_of' (plainFor_of_name (by decide +kernel)) [some (0, x0), some (0, x1), some (0, x2)] rfl (Nat.le_of_ble_eq_true rfl) (fun Φ hΦ hR => h Φ hΦ hR)
theorem bX7_isFewer_0 {G : Gm} {Φ : Fr} {S : List Sh} {μ : Mem} {Q : Int → Mem → Prop} (hΦ : St G Φ cX7_isFewer RX7 3 1 20 0 0) (hR : Rt G Φ (Pi S Q) 0 0 (some .boolean)) {x0 x1 x2 : Int} (h : R32 (mand x0 (mxor x2 (-1))) ∧ (((mand x0 (mxor x2 (-1))) ≠ 0 → Q 0 μ) ∧ ((mand x0 (mxor x2 (-1))) = 0 → Ci G mJ6_bitCount_0f7a4 [(0, x0)] S μ (fun r2 μ2 => Ci G mJ6_bitCount_0f7a4 [(0, x1)] S μ2 (fun r3 μ3 => R32 r2 ∧ (R32 r3 ∧ ((r3 ≤ r2 → Q 0 μ3) ∧ (¬ (r3 ≤ r2) → Q 1 μ3)))))))) : Ex G Φ 3 0 [some (0, x0), some (0, x1), some (0, x2)] [] S μ 0 0 := by
  refine ex_iload_n hΦ dX7_isFewer_0 rfl ?_
  refine ex_iload_n hΦ dX7_isFewer_1 rfl ?_
  refine ex_iconst hΦ dX7_isFewer_2 ?_
  refine ex_ixor hΦ dX7_isFewer_3 ?_
  refine ex_iand hΦ dX7_isFewer_4 ?_
  obtain ⟨o1, h⟩ := h
  refine ex_if_ne 23 hΦ dX7_isFewer_5 (by decide) o1 (fun c => ?_) (fun c => ?_)
  · have h := h.1 c
    refine ex_iconst hΦ dX7_isFewer_23 ?_
    exact ex_returnz hΦ hR (by decide) (by decide) dX7_isFewer_24 h
  · have h := h.2 c
    refine ex_iload_n hΦ dX7_isFewer_8 rfl ?_
    refine ex_callSi [(0, x0)] [(0, x0)] hΦ lkS_X7_275 ⟨by decide, by decide⟩ (Nat.le_of_ble_eq_true rfl) rfl (by decide) dX7_isFewer_9 rfl h (fun r2 μ2 h => ?_)
    refine ex_iload_n hΦ dX7_isFewer_12 rfl ?_
    refine ex_callSi [(0, x1)] [(0, x1), (0, r2)] hΦ lkS_X7_275 ⟨by decide, by decide⟩ (Nat.le_of_ble_eq_true rfl) rfl (by decide) dX7_isFewer_13 rfl h (fun r3 μ3 h => ?_)
    obtain ⟨o4, h⟩ := h
    obtain ⟨o5, h⟩ := h
    refine ex_icmp_ge 23 hΦ dX7_isFewer_16 (by decide) o4 o5 (fun c => ?_) (fun c => ?_)
    · have h := h.1 c
      refine ex_iconst hΦ dX7_isFewer_23 ?_
      exact ex_returnz hΦ hR (by decide) (by decide) dX7_isFewer_24 h
    · have h := h.2 c
      refine ex_iconst hΦ dX7_isFewer_19 ?_
      refine ex_goto 24 hΦ dX7_isFewer_20 (by decide) ?_
      exact ex_returnz hΦ hR (by decide) (by decide) dX7_isFewer_24 h
theorem eX7_howManyOrWhich {G : Gm} {S : List Sh} {μ : Mem} {Q : Int → Mem → Prop} {x0 x1 : Int} (h : ∀ Φ : Fr, St G Φ cX7_howManyOrWhich RX7 2 1 20 0 0 → Rt G Φ (Pi S Q) 0 0 (some .int) → Ex G Φ 2 0 [some (0, x0), some (0, x1)] [] S μ 0 0) : Ci G mX7_howManyOrWhich [(0, x0), (0, x1)] S μ Q :=
  call_of' (plainFor_of_name (by decide +kernel)) [some (0, x0), some (0, x1)] rfl (Nat.le_of_ble_eq_true rfl) (fun Φ hΦ hR => h Φ hΦ hR)
theorem bX7_howManyOrWhich_0 {G : Gm} {Φ : Fr} {S : List Sh} {μ : Mem} {Q : Int → Mem → Prop} (hΦ : St G Φ cX7_howManyOrWhich RX7 2 1 20 0 0) (hR : Rt G Φ (Pi S Q) 0 0 (some .int)) {x0 x1 : Int} (h : R32 x0 ∧ ((x0 ≠ (-1) → R32 x1 ∧ ((x1 ≠ 0 → Q x0 μ) ∧ (x1 = 0 → Ci G mJ6_bitCount_0f7a4 [(0, x0)] S μ (fun r3 μ3 => Q r3 μ3)))) ∧ (x0 = (-1) → Q (-1) μ))) : Ex G Φ 2 0 [some (0, x0), some (0, x1)] [] S μ 0 0 := by
  refine ex_iload_n hΦ dX7_howManyOrWhich_0 rfl ?_
  refine ex_iconst hΦ dX7_howManyOrWhich_1 ?_
  obtain ⟨o1, h⟩ := h
  refine ex_icmp_ne 7 hΦ dX7_howManyOrWhich_2 (by decide) o1 ⟨by decide, by decide⟩ (fun c => ?_) (fun c => ?_)
  · have h := h.1 c
    refine ex_iload_n hΦ dX7_howManyOrWhich_7 rfl ?_
    obtain ⟨o2, h⟩ := h
    refine ex_if_ne 18 hΦ dX7_howManyOrWhich_8 (by decide) o2 (fun c => ?_) (fun c => ?_)
    · have h := h.1 c
      refine ex_iload_n hΦ dX7_howManyOrWhich_18 rfl ?_
      exact ex_returni hΦ hR dX7_howManyOrWhich_19 h
    · have h := h.2 c
      refine ex_iload_n hΦ dX7_howManyOrWhich_11 rfl ?_
      refine ex_callSi [(0, x0)] [(0, x0)] hΦ lkS_X7_275 ⟨by decide, by decide⟩ (Nat.le_of_ble_eq_true rfl) rfl (by decide) dX7_howManyOrWhich_12 rfl h (fun r3 μ3 h => ?_)
      refine ex_goto 19 hΦ dX7_howManyOrWhich_15 (by decide) ?_
      exact ex_returni hΦ hR dX7_howManyOrWhich_19 h
  · have h := h.2 c
    refine ex_iconst hΦ dX7_howManyOrWhich_5 ?_
    exact ex_returni hΦ hR dX7_howManyOrWhich_6 h
theorem bX7_howManyOrOne_14 {G : Gm} {Φ : Fr} {S : List Sh} {μ : Mem} {Q : Int → Mem → Prop} (hΦ : St G Φ cX7_howManyOrOne RX7 4 1 20 0 0) (hR : Rt G Φ (Pi S Q) 0 0 (some .int)) {x0 x1 x2 x3 : Int} (h : R32 x3 ∧ ((30 < x3 → Q (-1) μ) ∧ (¬ (30 < x3) → R32 x0 ∧ (0 ≤ x3 ∧ (x3 ≤ 31 ∧ (R32 ((x0 / 2 ^ (Int.toNat x3)) % 2) ∧ ((((x0 / 2 ^ (Int.toNat x3)) % 2) ≠ 1 → Ex G Φ 4 14 [some (0, x0), some (0, x1), some (0, x2), some (0, (x3 + 1))] [] S μ 0 0) ∧ (((x0 / 2 ^ (Int.toNat x3)) % 2) = 1 → R32 x2 ∧ (R32 x1 ∧ ((x2 ≠ x1 → Ex G Φ 4 14 [some (0, x0), some (0, x1), some (0, (x2 + 1)), some (0, (x3 + 1))] [] S μ 0 0) ∧ (x2 = x1 → Q x3 μ))))))))))) : Ex G Φ 4 14 [some (0, x0), some (0, x1), some (0, x2), some (0, x3)] [] S μ 0 0 := by
  refine ex_iload_n hΦ dX7_howManyOrOne_14 rfl ?_
  refine ex_bipush hΦ dX7_howManyOrOne_15 (by decide) ?_
  obtain ⟨o1, h⟩ := h
  refine ex_icmp_gt 45 hΦ dX7_howManyOrOne_17 (by decide) o1 ⟨by decide, by decide⟩ (fun c => ?_) (fun c => ?_)
  · have h := h.1 c
    refine ex_iconst hΦ dX7_howManyOrOne_45 ?_
    exact ex_returni hΦ hR dX7_howManyOrOne_46 h
  · have h := h.2 c
    refine ex_iload_n hΦ dX7_howManyOrOne_20 rfl ?_
    refine ex_iload_n hΦ dX7_howManyOrOne_21 rfl ?_
    obtain ⟨o2, h⟩ := h
    obtain ⟨o3, h⟩ := h
    obtain ⟨o4, h⟩ := h
    refine ex_ishr hΦ dX7_howManyOrOne_22 o2 o3 o4 ?_
    refine ex_iconst hΦ dX7_howManyOrOne_23 ?_
    refine ex_iand1 hΦ dX7_howManyOrOne_24 ?_
    refine ex_iconst hΦ dX7_howManyOrOne_25 ?_
    obtain ⟨o5, h⟩ := h
    refine ex_icmp_ne 39 hΦ dX7_howManyOrOne_26 (by decide) o5 ⟨by decide, by decide⟩ (fun c => ?_) (fun c => ?_)
    · have h := h.1 c
      refine ex_iinc (L' := [some (0, x0), some (0, x1), some (0, x2), some (0, (x3 + 1))]) hΦ dX7_howManyOrOne_39 rfl (by decide) rfl ?_
      refine ex_goto 14 hΦ dX7_howManyOrOne_42 (by decide) ?_
      exact h
    · have h := h.2 c
      refine ex_iload_n hΦ dX7_howManyOrOne_29 rfl ?_
      refine ex_iload_n hΦ dX7_howManyOrOne_30 rfl ?_
      obtain ⟨o6, h⟩ := h
      obtain ⟨o7, h⟩ := h
      refine ex_icmp_ne 36 hΦ dX7_howManyOrOne_31 (by decide) o6 o7 (fun c => ?_) (fun c => ?_)
      · have h := h.1 c
        refine ex_iinc (L' := [some (0, x0), some (0, x1), some (0, (x2 + 1)), some (0, x3)]) hΦ dX7_howManyOrOne_36 rfl (by decide) rfl ?_
        refine ex_iinc (L' := [some (0, x0), some (0, x1), some (0, (x2 + 1)), some (0, (x3 + 1))]) hΦ dX7_howManyOrOne_39 rfl (by decide) rfl ?_
        refine ex_goto 14 hΦ dX7_howManyOrOne_42 (by decide) ?_
        exact h
      · have h := h.2 c
        refine ex_iload_n hΦ dX7_howManyOrOne_34 rfl ?_
        exact ex_returni hΦ hR dX7_howManyOrOne_35 h
theorem eX7_howManyOrOne {G : Gm} {S : List Sh} {μ : Mem} {Q : Int → Mem → Prop} {x0 x1 : Int} (h : ∀ Φ : Fr, St G Φ cX7_howManyOrOne RX7 4 1 20 0 0 → Rt G Φ (Pi S Q) 0 0 (some .int) → Ex G Φ 4 0 [some (0, x0), some (0, x1), none, none] [] S μ 0 0) : Ci G mX7_howManyOrOne [(0, x0), (0, x1)] S μ Q :=
  call_of' (plainFor_of_name (by decide +kernel)) [some (0, x0), some (0, x1), none, none] rfl (Nat.le_of_ble_eq_true rfl) (fun Φ hΦ hR => h Φ hΦ hR)
theorem bX7_howManyOrOne_0 {G : Gm} {Φ : Fr} {S : List Sh} {μ : Mem} {Q : Int → Mem → Prop} (hΦ : St G Φ cX7_howManyOrOne RX7 4 1 20 0 0) (hR : Rt G Φ (Pi S Q) 0 0 (some .int)) {x0 x1 : Int} (h : R32 x1 ∧ ((x1 ≠ (-1) → Ex G Φ 4 14 [some (0, x0), some (0, x1), some (0, 0), some (0, 0)] [] S μ 0 0) ∧ (x1 = (-1) → Ci G mJ6_bitCount_0f7a4 [(0, x0)] S μ (fun r2 μ2 => Q r2 μ2)))) : Ex G Φ 4 0 [some (0, x0), some (0, x1), none, none] [] S μ 0 0 := by
  refine ex_iload_n hΦ dX7_howManyOrOne_0 rfl ?_
  refine ex_iconst hΦ dX7_howManyOrOne_1 ?_
  obtain ⟨o1, h⟩ := h
  refine ex_icmp_ne 10 hΦ dX7_howManyOrOne_2 (by decide) o1 ⟨by decide, by decide⟩ (fun c => ?_) (fun c => ?_)
  · have h := h.1 c
    refine ex_iconst hΦ dX7_howManyOrOne_10 ?_
    refine ex_istore_n (L' := [some (0, x0), some (0, x1), some (0, 0), none]) hΦ dX7_howManyOrOne_11 (by decide) rfl ?_
    refine ex_iconst hΦ dX7_howManyOrOne_12 ?_
    refine ex_istore_n (L' := [some (0, x0), some (0, x1), some (0, 0), some (0, 0)]) hΦ dX7_howManyOrOne_13 (by decide) rfl ?_
    exact h
  · have h := h.2 c
    refine ex_iload_n hΦ dX7_howManyOrOne_5 rfl ?_
    refine ex_callSi [(0, x0)] [(0, x0)] hΦ lkS_X7_275 ⟨by decide, by decide⟩ (Nat.le_of_ble_eq_true rfl) rfl (by decide) dX7_howManyOrOne_6 rfl h (fun r2 μ2 h => ?_)
    exact ex_returni hΦ hR dX7_howManyOrOne_9 h
theorem eX7_teethMet {G : Gm} {S : List Sh} {μ : Mem} {Q : Int → Mem → Prop} {x0 x1 : Int} (h : ∀ Φ : Fr, St G Φ cX7_teethMet RX7 4 2 53 0 0 → Rt G Φ (Pi S Q) 0 0 (some .int) → Ex G Φ 4 0 [some (2, x0), some (0, x1), none, none] [] S μ 0 0) : Ci G mX7_teethMet [(2, x0), (0, x1)] S μ Q :=
  call_of' (plainFor_of_name (by decide +kernel)) [some (2, x0), some (0, x1), none, none] rfl (Nat.le_of_ble_eq_true rfl) (fun Φ hΦ hR => h Φ hΦ hR)
theorem bX7_teethMet_0 {G : Gm} {Φ : Fr} {S : List Sh} {μ : Mem} {Q : Int → Mem → Prop} (hΦ : St G Φ cX7_teethMet RX7 4 2 53 0 0) (hR : Rt G Φ (Pi S Q) 0 0 (some .int)) {x0 x1 : Int} (h : So S x0 (.inl 7) ∧ (So S (μ x0 1) (.inl 6) ∧ (Ai S (μ (μ x0 1) 9) 0 x1 ∧ (Ai S (μ (μ x0 1) 5) 0 (μ (μ (μ x0 1) 9) x1) ∧ (Ai S (μ (μ x0 1) 10) 0 x1 ∧ (Ai S (μ (μ x0 1) 5) 0 (μ (μ (μ x0 1) 10) x1) ∧ (R32 (μ (μ (μ x0 1) 5) (μ (μ (μ x0 1) 10) x1)) ∧ (R32 (μ (μ (μ x0 1) 5) (μ (μ (μ x0 1) 9) x1)) ∧ (Cj G mX7_common [(1, (μ (μ (μ x0 1) 5) (μ (μ (μ x0 1) 9) x1))), (1, (μ (μ (μ x0 1) 5) (μ (μ (μ x0 1) 10) x1)))] S μ (fun r9 μ9 => R64 (μ (μ (μ x0 1) 5) (μ (μ (μ x0 1) 10) x1)) ∧ (R64 r9 ∧ (r9 ≠ 0 ∧ Q (Int.tdiv (μ (μ (μ x0 1) 5) (μ (μ (μ x0 1) 10) x1)) r9) μ9)))))))))))) : Ex G Φ 4 0 [some (2, x0), some (0, x1), none, none] [] S μ 0 0 := by
  obtain ⟨o1, h⟩ := h
  refine ex_aload_n hΦ dX7_teethMet_0 rfl o1.1 ?_
  refine ex_getf hΦ fl_X7_19 o1 dX7_teethMet_1 ?_
  obtain ⟨o2, h⟩ := h
  refine ex_getf hΦ fl_X7_147 o2 dX7_teethMet_4 ?_
  refine ex_aload_n hΦ dX7_teethMet_7 rfl o1.1 ?_
  refine ex_getf hΦ fl_X7_19 o1 dX7_teethMet_8 ?_
  refine ex_getf hΦ fl_X7_167 o2 dX7_teethMet_11 ?_
  refine ex_iload_n hΦ dX7_teethMet_14 rfl ?_
  obtain ⟨o3, h⟩ := h
  refine ex_iald' hΦ o3 dX7_teethMet_15 ?_
  obtain ⟨o4, h⟩ := h
  refine ex_iald' hΦ o4 dX7_teethMet_16 ?_
  refine ex_istore_n (L' := [some (2, x0), some (0, x1), some (0, (μ (μ (μ x0 1) 5) (μ (μ (μ x0 1) 9) x1))), none]) hΦ dX7_teethMet_17 (by decide) rfl ?_
  refine ex_aload_n hΦ dX7_teethMet_18 rfl o1.1 ?_
  refine ex_getf hΦ fl_X7_19 o1 dX7_teethMet_19 ?_
  refine ex_getf hΦ fl_X7_147 o2 dX7_teethMet_22 ?_
  refine ex_aload_n hΦ dX7_teethMet_25 rfl o1.1 ?_
  refine ex_getf hΦ fl_X7_19 o1 dX7_teethMet_26 ?_
  refine ex_getf hΦ fl_X7_170 o2 dX7_teethMet_29 ?_
  refine ex_iload_n hΦ dX7_teethMet_32 rfl ?_
  obtain ⟨o5, h⟩ := h
  refine ex_iald' hΦ o5 dX7_teethMet_33 ?_
  obtain ⟨o6, h⟩ := h
  refine ex_iald' hΦ o6 dX7_teethMet_34 ?_
  refine ex_istore_n (L' := [some (2, x0), some (0, x1), some (0, (μ (μ (μ x0 1) 5) (μ (μ (μ x0 1) 9) x1))), some (0, (μ (μ (μ x0 1) 5) (μ (μ (μ x0 1) 10) x1)))]) hΦ dX7_teethMet_35 (by decide) rfl ?_
  refine ex_iload_n hΦ dX7_teethMet_36 rfl ?_
  obtain ⟨o7, h⟩ := h
  refine ex_i2l hΦ dX7_teethMet_37 o7 ?_
  refine ex_iload_n hΦ dX7_teethMet_38 rfl ?_
  obtain ⟨o8, h⟩ := h
  refine ex_i2l hΦ dX7_teethMet_39 o8 ?_
  refine ex_iload_n hΦ dX7_teethMet_40 rfl ?_
  refine ex_i2l hΦ dX7_teethMet_41 o7 ?_
  refine ex_callSj [(1, (μ (μ (μ x0 1) 5) (μ (μ (μ x0 1) 9) x1))), (1, (μ (μ (μ x0 1) 5) (μ (μ (μ x0 1) 10) x1)))] [(1, (μ (μ (μ x0 1) 5) (μ (μ (μ x0 1) 10) x1))), (1, (μ (μ (μ x0 1) 5) (μ (μ (μ x0 1) 9) x1))), (1, (μ (μ (μ x0 1) 5) (μ (μ (μ x0 1) 10) x1)))] hΦ lkS_X7_338 ⟨by decide, by decide⟩ (Nat.le_of_ble_eq_true rfl) rfl (by decide) dX7_teethMet_42 rfl h (fun r9 μ9 h => ?_)
  obtain ⟨o10, h⟩ := h
  obtain ⟨o11, h⟩ := h
  obtain ⟨o12, h⟩ := h
  refine ex_ldiv hΦ dX7_teethMet_45 o10 o11 o12 ?_
  refine ex_l2i hΦ dX7_teethMet_46 ?_
  exact ex_returni hΦ hR dX7_teethMet_47 h
theorem eX7_daysToMeet {G : Gm} {S : List Sh} {μ : Mem} {Q : Int → Mem → Prop} {x0 x1 : Int} (h : ∀ Φ : Fr, St G Φ cX7_daysToMeet RX7 7 3 76 0 0 → Rt G Φ (Pi S Q) 0 0 (some .int) → Ex G Φ 7 0 [some (2, x0), some (0, x1), none, none, none, none, none] [] S μ 0 0) : Ci G mX7_daysToMeet [(2, x0), (0, x1)] S μ Q :=
  call_of' (plainFor_of_name (by decide +kernel)) [some (2, x0), some (0, x1), none, none, none, none, none] rfl (Nat.le_of_ble_eq_true rfl) (fun Φ hΦ hR => h Φ hΦ hR)
theorem bX7_daysToMeet_0 {G : Gm} {Φ : Fr} {S : List Sh} {μ : Mem} {Q : Int → Mem → Prop} (hΦ : St G Φ cX7_daysToMeet RX7 7 3 76 0 0) (hR : Rt G Φ (Pi S Q) 0 0 (some .int)) {x0 x1 : Int} (h : So S x0 (.inl 7) ∧ (So S (μ x0 1) (.inl 6) ∧ (Ai S (μ (μ x0 1) 9) 0 x1 ∧ (Ci G mX7_isOn [(2, x0), (0, x1)] S μ (fun r4 μ4 => R32 r4 ∧ ((r4 = 0 → Q (-1) μ4) ∧ (¬ (r4 = 0) → So S (μ4 x0 3) (.inl 3) ∧ (Ci G mX3_turns [(2, (μ4 x0 3)), (0, (μ (μ (μ x0 1) 9) x1))] S μ4 (fun r7 μ7 => R32 r7 ∧ ((r7 ≠ 0 → So S (μ7 x0 1) (.inl 6) ∧ (Ai S (μ7 (μ7 x0 1) 5) 0 (μ (μ (μ x0 1) 9) x1) ∧ (R32 (μ7 (μ7 (μ7 x0 1) 5) (μ (μ (μ x0 1) 9) x1)) ∧ (Ci G mX7_teethMet [(2, x0), (0, x1)] S μ7 (fun r12 μ12 => R32 r12 ∧ (So S (μ12 x0 3) (.inl 3) ∧ (Ai S (μ12 (μ12 x0 3) 0) 1 (μ (μ (μ x0 1) 9) x1) ∧ (R64 (μ12 (μ12 (μ12 x0 3) 0) (μ (μ (μ x0 1) 9) x1)) ∧ (Ai S (μ12 (μ12 x0 3) 1) 1 (μ (μ (μ x0 1) 9) x1) ∧ Cj G mX7_floorPart [(1, (((((μ7 (μ7 (μ7 x0 1) 5) (μ (μ (μ x0 1) 9) x1)) * r12) * (μ12 (μ12 (μ12 x0 3) 1) (μ (μ (μ x0 1) 9) x1))) + (if 0 < (μ12 (μ12 (μ12 x0 3) 0) (μ (μ (μ x0 1) 9) x1)) then (μ12 (μ12 (μ12 x0 3) 0) (μ (μ (μ x0 1) 9) x1)) else -(μ12 (μ12 (μ12 x0 3) 0) (μ (μ (μ x0 1) 9) x1)))) - 1)), (1, (if 0 < (μ12 (μ12 (μ12 x0 3) 0) (μ (μ (μ x0 1) 9) x1)) then (μ12 (μ12 (μ12 x0 3) 0) (μ (μ (μ x0 1) 9) x1)) else -(μ12 (μ12 (μ12 x0 3) 0) (μ (μ (μ x0 1) 9) x1))))] S μ12 (fun r18 μ18 => Q r18 μ18)))))))))) ∧ (r7 = 0 → Q (-1) μ7))))))))))) : Ex G Φ 7 0 [some (2, x0), some (0, x1), none, none, none, none, none] [] S μ 0 0 := by
  obtain ⟨o1, h⟩ := h
  refine ex_aload_n hΦ dX7_daysToMeet_0 rfl o1.1 ?_
  refine ex_getf hΦ fl_X7_19 o1 dX7_daysToMeet_1 ?_
  obtain ⟨o2, h⟩ := h
  refine ex_getf hΦ fl_X7_167 o2 dX7_daysToMeet_4 ?_
  refine ex_iload_n hΦ dX7_daysToMeet_7 rfl ?_
  obtain ⟨o3, h⟩ := h
  refine ex_iald' hΦ o3 dX7_daysToMeet_8 ?_
  refine ex_istore_n (L' := [some (2, x0), some (0, x1), some (0, (μ (μ (μ x0 1) 9) x1)), none, none, none, none]) hΦ dX7_daysToMeet_9 (by decide) rfl ?_
  refine ex_aload_n hΦ dX7_daysToMeet_10 rfl o1.1 ?_
  refine ex_iload_n hΦ dX7_daysToMeet_11 rfl ?_
  refine ex_callVi [(0, x1)] [(0, x1), (2, x0)] hΦ lkV_X7_176 ⟨by decide, by decide⟩ (Nat.le_of_ble_eq_true rfl) rfl (by decide) 7 (by decide) rfl o1 dX7_daysToMeet_12 rfl h (fun r4 μ4 h => ?_)
  obtain ⟨o5, h⟩ := h
  refine ex_if_eq 29 hΦ dX7_daysToMeet_15 (by decide) o5 (fun c => ?_) (fun c => ?_)
  · have h := h.1 c
    refine ex_iconst hΦ dX7_daysToMeet_29 ?_
    exact ex_returni hΦ hR dX7_daysToMeet_30 h
  · have h := h.2 c
    refine ex_aload_n hΦ dX7_daysToMeet_18 rfl o1.1 ?_
    refine ex_getf hΦ fl_X7_29 o1 dX7_daysToMeet_19 ?_
    refine ex_iload_n hΦ dX7_daysToMeet_22 rfl ?_
    obtain ⟨o6, h⟩ := h
    refine ex_callVi [(0, (μ (μ (μ x0 1) 9) x1))] [(0, (μ (μ (μ x0 1) 9) x1)), (2, (μ4 x0 3))] hΦ lkV_X7_240 ⟨by decide, by decide⟩ (Nat.le_of_ble_eq_true rfl) rfl (by decide) 3 (by decide) rfl o6 dX7_daysToMeet_23 rfl h (fun r7 μ7 h => ?_)
    obtain ⟨o8, h⟩ := h
    refine ex_if_ne 31 hΦ dX7_daysToMeet_26 (by decide) o8 (fun c => ?_) (fun c => ?_)
    · have h := h.1 c
      refine ex_aload_n hΦ dX7_daysToMeet_31 rfl o1.1 ?_
      refine ex_getf hΦ fl_X7_19 o1 dX7_daysToMeet_32 ?_
      obtain ⟨o9, h⟩ := h
      refine ex_getf hΦ fl_X7_147 o9 dX7_daysToMeet_35 ?_
      refine ex_iload_n hΦ dX7_daysToMeet_38 rfl ?_
      obtain ⟨o10, h⟩ := h
      refine ex_iald' hΦ o10 dX7_daysToMeet_39 ?_
      obtain ⟨o11, h⟩ := h
      refine ex_i2l hΦ dX7_daysToMeet_40 o11 ?_
      refine ex_aload_n hΦ dX7_daysToMeet_41 rfl o1.1 ?_
      refine ex_iload_n hΦ dX7_daysToMeet_42 rfl ?_
      refine ex_callVi [(0, x1)] [(0, x1), (2, x0), (1, (μ7 (μ7 (μ7 x0 1) 5) (μ (μ (μ x0 1) 9) x1)))] hΦ lkV_X7_255 ⟨by decide, by decide⟩ (Nat.le_of_ble_eq_true rfl) rfl (by decide) 7 (by decide) rfl o1 dX7_daysToMeet_43 rfl h (fun r12 μ12 h => ?_)
      obtain ⟨o13, h⟩ := h
      refine ex_i2l hΦ dX7_daysToMeet_46 o13 ?_
      refine ex_lmul hΦ dX7_daysToMeet_47 ?_
      refine ex_lstore_n (L' := [some (2, x0), some (0, x1), some (0, (μ (μ (μ x0 1) 9) x1)), some (1, ((μ7 (μ7 (μ7 x0 1) 5) (μ (μ (μ x0 1) 9) x1)) * r12)), none, none, none]) hΦ dX7_daysToMeet_48 (by decide) rfl ?_
      refine ex_aload_n hΦ dX7_daysToMeet_49 rfl o1.1 ?_
      refine ex_getf hΦ fl_X7_29 o1 dX7_daysToMeet_50 ?_
      obtain ⟨o14, h⟩ := h
      refine ex_getf hΦ fl_X7_154 o14 dX7_daysToMeet_53 ?_
      refine ex_iload_n hΦ dX7_daysToMeet_56 rfl ?_
      obtain ⟨o15, h⟩ := h
      refine ex_lald' hΦ o15 dX7_daysToMeet_57 ?_
      obtain ⟨o16, h⟩ := h
      refine ex_mabs_long hΦ qw502 qw503 qw91 qw504 ⟨by decide, by decide⟩ ⟨by decide, by decide⟩ (Nat.le_of_ble_eq_true rfl) o16 dX7_daysToMeet_58 ?_
      refine ex_lstore (L' := [some (2, x0), some (0, x1), some (0, (μ (μ (μ x0 1) 9) x1)), some (1, ((μ7 (μ7 (μ7 x0 1) 5) (μ (μ (μ x0 1) 9) x1)) * r12)), none, some (1, (if 0 < (μ12 (μ12 (μ12 x0 3) 0) (μ (μ (μ x0 1) 9) x1)) then (μ12 (μ12 (μ12 x0 3) 0) (μ (μ (μ x0 1) 9) x1)) else -(μ12 (μ12 (μ12 x0 3) 0) (μ (μ (μ x0 1) 9) x1)))), none]) hΦ dX7_daysToMeet_61 (by decide) rfl ?_
      refine ex_lload_n hΦ dX7_daysToMeet_63 rfl ?_
      refine ex_aload_n hΦ dX7_daysToMeet_64 rfl o1.1 ?_
      refine ex_getf hΦ fl_X7_29 o1 dX7_daysToMeet_65 ?_
      refine ex_getf hΦ fl_X7_158 o14 dX7_daysToMeet_68 ?_
      refine ex_iload_n hΦ dX7_daysToMeet_71 rfl ?_
      obtain ⟨o17, h⟩ := h
      refine ex_lald' hΦ o17 dX7_daysToMeet_72 ?_
      refine ex_lmul hΦ dX7_daysToMeet_73 ?_
      refine ex_lload hΦ dX7_daysToMeet_74 rfl ?_
      refine ex_ladd hΦ dX7_daysToMeet_76 ?_
      refine ex_lconst (x := 1) hΦ dX7_daysToMeet_77 (by decide) ?_
      refine ex_lsub hΦ dX7_daysToMeet_78 ?_
      refine ex_lload hΦ dX7_daysToMeet_79 rfl ?_
      refine ex_callSj [(1, (((((μ7 (μ7 (μ7 x0 1) 5) (μ (μ (μ x0 1) 9) x1)) * r12) * (μ12 (μ12 (μ12 x0 3) 1) (μ (μ (μ x0 1) 9) x1))) + (if 0 < (μ12 (μ12 (μ12 x0 3) 0) (μ (μ (μ x0 1) 9) x1)) then (μ12 (μ12 (μ12 x0 3) 0) (μ (μ (μ x0 1) 9) x1)) else -(μ12 (μ12 (μ12 x0 3) 0) (μ (μ (μ x0 1) 9) x1)))) - 1)), (1, (if 0 < (μ12 (μ12 (μ12 x0 3) 0) (μ (μ (μ x0 1) 9) x1)) then (μ12 (μ12 (μ12 x0 3) 0) (μ (μ (μ x0 1) 9) x1)) else -(μ12 (μ12 (μ12 x0 3) 0) (μ (μ (μ x0 1) 9) x1))))] [(1, (if 0 < (μ12 (μ12 (μ12 x0 3) 0) (μ (μ (μ x0 1) 9) x1)) then (μ12 (μ12 (μ12 x0 3) 0) (μ (μ (μ x0 1) 9) x1)) else -(μ12 (μ12 (μ12 x0 3) 0) (μ (μ (μ x0 1) 9) x1)))), (1, (((((μ7 (μ7 (μ7 x0 1) 5) (μ (μ (μ x0 1) 9) x1)) * r12) * (μ12 (μ12 (μ12 x0 3) 1) (μ (μ (μ x0 1) 9) x1))) + (if 0 < (μ12 (μ12 (μ12 x0 3) 0) (μ (μ (μ x0 1) 9) x1)) then (μ12 (μ12 (μ12 x0 3) 0) (μ (μ (μ x0 1) 9) x1)) else -(μ12 (μ12 (μ12 x0 3) 0) (μ (μ (μ x0 1) 9) x1)))) - 1))] hΦ lkS_X7_227 ⟨by decide, by decide⟩ (Nat.le_of_ble_eq_true rfl) rfl (by decide) dX7_daysToMeet_81 rfl h (fun r18 μ18 h => ?_)
      refine ex_l2i hΦ dX7_daysToMeet_84 ?_
      exact ex_returni hΦ hR dX7_daysToMeet_85 h
    · have h := h.2 c
      refine ex_iconst hΦ dX7_daysToMeet_29 ?_
      exact ex_returni hΦ hR dX7_daysToMeet_30 h
theorem bX7_oddsOfNoSlip_21 {G : Gm} {Φ : Fr} {S : List Sh} {μ : Mem} {Q : Int → Mem → Prop} (hΦ : St G Φ cX7_oddsOfNoSlip RX7 9 2 46 0 0) (hR : Rt G Φ (Pi S Q) 0 0 (some .int)) {x0 x1 x2 x3 x4 x6 : Int} (h : R32 x6 ∧ ((8 ≤ x6 → Q x4 μ) ∧ (¬ (8 ≤ x6) → R32 x3 ∧ (R32 x1 ∧ ((x3 = x1 → Q x4 μ) ∧ (¬ (x3 = x1) → So S x0 (.inl 7) ∧ (Ci G mX7_nextLinkTo [(2, x0), (0, x3)] S μ (fun r5 μ5 => R32 r5 ∧ ((r5 ≠ (-1) → Ex G Φ 9 51 [some (2, x0), some (0, x1), some (0, x2), some (0, x3), some (1, x4), none, some (0, x6), some (0, r5), some (0, 0)] [] S μ5 0 0) ∧ (r5 = (-1) → Q 0 μ5)))))))))) : Ex G Φ 9 21 [some (2, x0), some (0, x1), some (0, x2), some (0, x3), some (1, x4), none, some (0, x6), none, none] [] S μ 0 0 := by
  refine ex_iload hΦ dX7_oddsOfNoSlip_21 rfl ?_
  refine ex_bipush hΦ dX7_oddsOfNoSlip_23 (by decide) ?_
  obtain ⟨o1, h⟩ := h
  refine ex_icmp_ge 104 hΦ dX7_oddsOfNoSlip_25 (by decide) o1 ⟨by decide, by decide⟩ (fun c => ?_) (fun c => ?_)
  · have h := h.1 c
    refine ex_lload hΦ dX7_oddsOfNoSlip_104 rfl ?_
    refine ex_l2i hΦ dX7_oddsOfNoSlip_106 ?_
    exact ex_returni hΦ hR dX7_oddsOfNoSlip_107 h
  · have h := h.2 c
    refine ex_iload_n hΦ dX7_oddsOfNoSlip_28 rfl ?_
    refine ex_iload_n hΦ dX7_oddsOfNoSlip_29 rfl ?_
    obtain ⟨o2, h⟩ := h
    obtain ⟨o3, h⟩ := h
    refine ex_icmp_eq 104 hΦ dX7_oddsOfNoSlip_30 (by decide) o2 o3 (fun c => ?_) (fun c => ?_)
    · have h := h.1 c
      refine ex_lload hΦ dX7_oddsOfNoSlip_104 rfl ?_
      refine ex_l2i hΦ dX7_oddsOfNoSlip_106 ?_
      exact ex_returni hΦ hR dX7_oddsOfNoSlip_107 h
    · have h := h.2 c
      obtain ⟨o4, h⟩ := h
      refine ex_aload_n hΦ dX7_oddsOfNoSlip_33 rfl o4.1 ?_
      refine ex_iload_n hΦ dX7_oddsOfNoSlip_34 rfl ?_
      refine ex_callVi [(0, x3)] [(0, x3), (2, x0)] hΦ lkV_X7_363 ⟨by decide, by decide⟩ (Nat.le_of_ble_eq_true rfl) rfl (by decide) 7 (by decide) rfl o4 dX7_oddsOfNoSlip_35 rfl h (fun r5 μ5 h => ?_)
      refine ex_istore (L' := [some (2, x0), some (0, x1), some (0, x2), some (0, x3), some (1, x4), none, some (0, x6), some (0, r5), none]) hΦ dX7_oddsOfNoSlip_38 (by decide) rfl ?_
      refine ex_iload hΦ dX7_oddsOfNoSlip_40 rfl ?_
      refine ex_iconst hΦ dX7_oddsOfNoSlip_42 ?_
      obtain ⟨o6, h⟩ := h
      refine ex_icmp_ne 48 hΦ dX7_oddsOfNoSlip_43 (by decide) o6 ⟨by decide, by decide⟩ (fun c => ?_) (fun c => ?_)
      · have h := h.1 c
        refine ex_iconst hΦ dX7_oddsOfNoSlip_48 ?_
        refine ex_istore (L' := [some (2, x0), some (0, x1), some (0, x2), some (0, x3), some (1, x4), none, some (0, x6), some (0, r5), some (0, 0)]) hΦ dX7_oddsOfNoSlip_49 (by decide) rfl ?_
        exact h
      · have h := h.2 c
        refine ex_iconst hΦ dX7_oddsOfNoSlip_46 ?_
        exact ex_returni hΦ hR dX7_oddsOfNoSlip_47 h
theorem bX7_oddsOfNoSlip_51 {G : Gm} {Φ : Fr} {S : List Sh} {μ : Mem} {Q : Int → Mem → Prop} (hΦ : St G Φ cX7_oddsOfNoSlip RX7 9 2 46 0 0) (hR : Rt G Φ (Pi S Q) 0 0 (some .int)) {x0 x1 x2 x3 x4 x6 x7 x8 : Int} (h : R32 x8 ∧ (R32 x2 ∧ ((x2 ≤ x8 → So S x0 (.inl 7) ∧ (So S (μ x0 1) (.inl 6) ∧ Ci G mX6_across [(2, (μ x0 1)), (0, x7), (0, x3)] S μ (fun r5 μ5 => Ex G Φ 9 21 [some (2, x0), some (0, x1), some (0, x2), some (0, r5), some (1, x4), none, some (0, (x6 + 1)), none, none] [] S μ5 0 0))) ∧ (¬ (x2 ≤ x8) → So S x0 (.inl 7) ∧ (So S (μ x0 1) (.inl 6) ∧ (Ai S (μ (μ x0 1) 7) 0 x7 ∧ (R32 (1000 - (μ (μ (μ x0 1) 7) x7)) ∧ (R64 (x4 * (1000 - (μ (μ (μ x0 1) 7) x7))) ∧ Ex G Φ 9 51 [some (2, x0), some (0, x1), some (0, x2), some (0, x3), some (1, (Int.tdiv (x4 * (1000 - (μ (μ (μ x0 1) 7) x7))) 1000)), none, some (0, x6), some (0, x7), some (0, (x8 + 1))] [] S μ 0 0)))))))) : Ex G Φ 9 51 [some (2, x0), some (0, x1), some (0, x2), some (0, x3), some (1, x4), none, some (0, x6), some (0, x7), some (0, x8)] [] S μ 0 0 := by
  refine ex_iload hΦ dX7_oddsOfNoSlip_51 rfl ?_
  refine ex_iload_n hΦ dX7_oddsOfNoSlip_53 rfl ?_
  obtain ⟨o1, h⟩ := h
  obtain ⟨o2, h⟩ := h
  refine ex_icmp_ge 87 hΦ dX7_oddsOfNoSlip_54 (by decide) o1 o2 (fun c => ?_) (fun c => ?_)
  · have h := h.1 c
    obtain ⟨o3, h⟩ := h
    refine ex_aload_n hΦ dX7_oddsOfNoSlip_87 rfl o3.1 ?_
    refine ex_getf hΦ fl_X7_19 o3 dX7_oddsOfNoSlip_88 ?_
    refine ex_iload hΦ dX7_oddsOfNoSlip_91 rfl ?_
    refine ex_iload_n hΦ dX7_oddsOfNoSlip_93 rfl ?_
    obtain ⟨o4, h⟩ := h
    refine ex_callVi [(0, x7), (0, x3)] [(0, x3), (0, x7), (2, (μ x0 1))] hΦ lkV_X7_368 ⟨by decide, by decide⟩ (Nat.le_of_ble_eq_true rfl) rfl (by decide) 6 (by decide) rfl o4 dX7_oddsOfNoSlip_94 rfl h (fun r5 μ5 h => ?_)
    refine ex_istore_n (L' := [some (2, x0), some (0, x1), some (0, x2), some (0, r5), some (1, x4), none, some (0, x6), some (0, x7), some (0, x8)]) hΦ dX7_oddsOfNoSlip_97 (by decide) rfl ?_
    refine ex_iinc (L' := [some (2, x0), some (0, x1), some (0, x2), some (0, r5), some (1, x4), none, some (0, (x6 + 1)), some (0, x7), some (0, x8)]) hΦ dX7_oddsOfNoSlip_98 rfl (by decide) rfl ?_
    refine ex_goto 21 hΦ dX7_oddsOfNoSlip_101 (by decide) ?_
    refine ex_forget (L' := [some (2, x0), some (0, x1), some (0, x2), some (0, r5), some (1, x4), none, some (0, (x6 + 1)), none, none]) [7, 8] rfl ?_
    exact h
  · have h := h.2 c
    refine ex_lload hΦ dX7_oddsOfNoSlip_57 rfl ?_
    refine ex_sipush hΦ dX7_oddsOfNoSlip_59 (by decide) ?_
    obtain ⟨o6, h⟩ := h
    refine ex_aload_n hΦ dX7_oddsOfNoSlip_62 rfl o6.1 ?_
    refine ex_getf hΦ fl_X7_19 o6 dX7_oddsOfNoSlip_63 ?_
    obtain ⟨o7, h⟩ := h
    refine ex_getf hΦ fl_X7_173 o7 dX7_oddsOfNoSlip_66 ?_
    refine ex_iload hΦ dX7_oddsOfNoSlip_69 rfl ?_
    obtain ⟨o8, h⟩ := h
    refine ex_iald' hΦ o8 dX7_oddsOfNoSlip_71 ?_
    refine ex_isub hΦ dX7_oddsOfNoSlip_72 ?_
    obtain ⟨o9, h⟩ := h
    refine ex_i2l hΦ dX7_oddsOfNoSlip_73 o9 ?_
    refine ex_lmul hΦ dX7_oddsOfNoSlip_74 ?_
    refine ex_ldc2 hΦ dX7_oddsOfNoSlip_75 qw770 ?_
    obtain ⟨o10, h⟩ := h
    refine ex_ldiv hΦ dX7_oddsOfNoSlip_78 o10 ⟨by decide, by decide⟩ (by decide) ?_
    refine ex_lstore (L' := [some (2, x0), some (0, x1), some (0, x2), some (0, x3), some (1, (Int.tdiv (x4 * (1000 - (μ (μ (μ x0 1) 7) x7))) 1000)), none, some (0, x6), some (0, x7), some (0, x8)]) hΦ dX7_oddsOfNoSlip_79 (by decide) rfl ?_
    refine ex_iinc (L' := [some (2, x0), some (0, x1), some (0, x2), some (0, x3), some (1, (Int.tdiv (x4 * (1000 - (μ (μ (μ x0 1) 7) x7))) 1000)), none, some (0, x6), some (0, x7), some (0, (x8 + 1))]) hΦ dX7_oddsOfNoSlip_81 rfl (by decide) rfl ?_
    refine ex_goto 51 hΦ dX7_oddsOfNoSlip_84 (by decide) ?_
    exact h
theorem eX7_oddsOfNoSlip {G : Gm} {S : List Sh} {μ : Mem} {Q : Int → Mem → Prop} {x0 x1 x2 : Int} (h : ∀ Φ : Fr, St G Φ cX7_oddsOfNoSlip RX7 9 2 46 0 0 → Rt G Φ (Pi S Q) 0 0 (some .int) → Ex G Φ 9 0 [some (2, x0), some (0, x1), some (0, x2), none, none, none, none, none, none] [] S μ 0 0) : Ci G mX7_oddsOfNoSlip [(2, x0), (0, x1), (0, x2)] S μ Q :=
  call_of' (plainFor_of_name (by decide +kernel)) [some (2, x0), some (0, x1), some (0, x2), none, none, none, none, none, none] rfl (Nat.le_of_ble_eq_true rfl) (fun Φ hΦ hR => h Φ hΦ hR)
theorem bX7_oddsOfNoSlip_0 {G : Gm} {Φ : Fr} {S : List Sh} {μ : Mem} {Q : Int → Mem → Prop} (hΦ : St G Φ cX7_oddsOfNoSlip RX7 9 2 46 0 0) (hR : Rt G Φ (Pi S Q) 0 0 (some .int)) {x0 x1 x2 : Int} (h : So S x0 (.inl 7) ∧ (Cv G mX7_countLinksAway [(2, x0), (0, x1)] S μ (fun μ2 => So S (μ2 x0 1) (.inl 6) ∧ Ex G Φ 9 21 [some (2, x0), some (0, x1), some (0, x2), some (0, (μ2 (μ2 x0 1) 3)), some (1, 1000000000), none, some (0, 0), none, none] [] S μ2 0 0))) : Ex G Φ 9 0 [some (2, x0), some (0, x1), some (0, x2), none, none, none, none, none, none] [] S μ 0 0 := by
  obtain ⟨o1, h⟩ := h
  refine ex_aload_n hΦ dX7_oddsOfNoSlip_0 rfl o1.1 ?_
  refine ex_iload_n hΦ dX7_oddsOfNoSlip_1 rfl ?_
  refine ex_callVv [(0, x1)] [(0, x1), (2, x0)] hΦ lkV_X7_358 ⟨by decide, by decide⟩ (Nat.le_of_ble_eq_true rfl) rfl (by decide) 7 (by decide) rfl o1 dX7_oddsOfNoSlip_2 rfl h (fun μ2 h => ?_)
  refine ex_aload_n hΦ dX7_oddsOfNoSlip_5 rfl o1.1 ?_
  refine ex_getf hΦ fl_X7_19 o1 dX7_oddsOfNoSlip_6 ?_
  obtain ⟨o3, h⟩ := h
  refine ex_getf hΦ fl_X7_116 o3 dX7_oddsOfNoSlip_9 ?_
  refine ex_istore_n (L' := [some (2, x0), some (0, x1), some (0, x2), some (0, (μ2 (μ2 x0 1) 3)), none, none, none, none, none]) hΦ dX7_oddsOfNoSlip_12 (by decide) rfl ?_
  refine ex_ldc2 hΦ dX7_oddsOfNoSlip_13 qw764 ?_
  refine ex_lstore (L' := [some (2, x0), some (0, x1), some (0, x2), some (0, (μ2 (μ2 x0 1) 3)), some (1, 1000000000), none, none, none, none]) hΦ dX7_oddsOfNoSlip_16 (by decide) rfl ?_
  refine ex_iconst hΦ dX7_oddsOfNoSlip_18 ?_
  refine ex_istore (L' := [some (2, x0), some (0, x1), some (0, x2), some (0, (μ2 (μ2 x0 1) 3)), some (1, 1000000000), none, some (0, 0), none, none]) hΦ dX7_oddsOfNoSlip_19 (by decide) rfl ?_
  exact h
theorem bX7_countLinksAway_17 {G : Gm} {Φ : Fr} {S : List Sh} {μ : Mem} {Q : Mem → Prop} (hΦ : St G Φ cX7_countLinksAway RX7 4 1 23 0 0) (hR : Rt G Φ (Pv S Q) 0 0 none) {x0 x1 x2 : Int} (h : R32 x2 ∧ ((8 ≤ x2 → Q μ) ∧ (¬ (8 ≤ x2) → Ex G Φ 4 25 [some (2, x0), some (0, x1), some (0, x2), some (0, 0)] [] S μ 0 0))) : Ex G Φ 4 17 [some (2, x0), some (0, x1), some (0, x2), none] [] S μ 0 0 := by
  refine ex_iload_n hΦ dX7_countLinksAway_17 rfl ?_
  refine ex_bipush hΦ dX7_countLinksAway_18 (by decide) ?_
  obtain ⟨o1, h⟩ := h
  refine ex_icmp_ge 102 hΦ dX7_countLinksAway_20 (by decide) o1 ⟨by decide, by decide⟩ (fun c => ?_) (fun c => ?_)
  · have h := h.1 c
    exact ex_returnv hΦ hR dX7_countLinksAway_102 h
  · have h := h.2 c
    refine ex_iconst hΦ dX7_countLinksAway_23 ?_
    refine ex_istore_n (L' := [some (2, x0), some (0, x1), some (0, x2), some (0, 0)]) hΦ dX7_countLinksAway_24 (by decide) rfl ?_
    exact h
theorem bX7_countLinksAway_25 {G : Gm} {Φ : Fr} {S : List Sh} {μ : Mem} {Q : Mem → Prop} (hΦ : St G Φ cX7_countLinksAway RX7 4 1 23 0 0) (hR : Rt G Φ (Pv S Q) 0 0 none) {x0 x1 x2 x3 : Int} (h : So S x0 (.inl 7) ∧ (So S (μ x0 1) (.inl 6) ∧ (R32 x3 ∧ (R32 (μ (μ x0 1) 1) ∧ (((μ (μ x0 1) 1) ≤ x3 → Ex G Φ 4 17 [some (2, x0), some (0, x1), some (0, (x2 + 1)), none] [] S μ 0 0) ∧ (¬ ((μ (μ x0 1) 1) ≤ x3) → Ci G mX7_isOn [(2, x0), (0, x3)] S μ (fun r5 μ5 => R32 r5 ∧ ((r5 = 0 → Ex G Φ 4 25 [some (2, x0), some (0, x1), some (0, x2), some (0, (x3 + 1))] [] S μ5 0 0) ∧ (¬ (r5 = 0) → So S (μ5 x0 1) (.inl 6) ∧ (Ai S (μ5 (μ5 x0 1) 9) 0 x3 ∧ (Ai S (μ5 (μ5 x0 1) 10) 0 x3 ∧ (Cv G mX7_countAcross [(2, x0), (0, (μ5 (μ5 (μ5 x0 1) 9) x3)), (0, (μ5 (μ5 (μ5 x0 1) 10) x3)), (0, x2)] S μ5 (fun μ10 => So S (μ10 x0 1) (.inl 6) ∧ (Ai S (μ10 (μ10 x0 1) 10) 0 x3 ∧ (Ai S (μ10 (μ10 x0 1) 9) 0 x3 ∧ Cv G mX7_countAcross [(2, x0), (0, (μ10 (μ10 (μ10 x0 1) 10) x3)), (0, (μ10 (μ10 (μ10 x0 1) 9) x3)), (0, x2)] S μ10 (fun μ14 => Ex G Φ 4 25 [some (2, x0), some (0, x1), some (0, x2), some (0, (x3 + 1))] [] S μ14 0 0)))))))))))))))) : Ex G Φ 4 25 [some (2, x0), some (0, x1), some (0, x2), some (0, x3)] [] S μ 0 0 := by
  refine ex_iload_n hΦ dX7_countLinksAway_25 rfl ?_
  obtain ⟨o1, h⟩ := h
  refine ex_aload_n hΦ dX7_countLinksAway_26 rfl o1.1 ?_
  refine ex_getf hΦ fl_X7_19 o1 dX7_countLinksAway_27 ?_
  obtain ⟨o2, h⟩ := h
  refine ex_getf hΦ fl_X7_101 o2 dX7_countLinksAway_30 ?_
  obtain ⟨o3, h⟩ := h
  obtain ⟨o4, h⟩ := h
  refine ex_icmp_ge 96 hΦ dX7_countLinksAway_33 (by decide) o3 o4 (fun c => ?_) (fun c => ?_)
  · have h := h.1 c
    refine ex_iinc (L' := [some (2, x0), some (0, x1), some (0, (x2 + 1)), some (0, x3)]) hΦ dX7_countLinksAway_96 rfl (by decide) rfl ?_
    refine ex_goto 17 hΦ dX7_countLinksAway_99 (by decide) ?_
    refine ex_forget (L' := [some (2, x0), some (0, x1), some (0, (x2 + 1)), none]) [3] rfl ?_
    exact h
  · have h := h.2 c
    refine ex_aload_n hΦ dX7_countLinksAway_36 rfl o1.1 ?_
    refine ex_iload_n hΦ dX7_countLinksAway_37 rfl ?_
    refine ex_callVi [(0, x3)] [(0, x3), (2, x0)] hΦ lkV_X7_176 ⟨by decide, by decide⟩ (Nat.le_of_ble_eq_true rfl) rfl (by decide) 7 (by decide) rfl o1 dX7_countLinksAway_38 rfl h (fun r5 μ5 h => ?_)
    obtain ⟨o6, h⟩ := h
    refine ex_if_eq 90 hΦ dX7_countLinksAway_41 (by decide) o6 (fun c => ?_) (fun c => ?_)
    · have h := h.1 c
      refine ex_iinc (L' := [some (2, x0), some (0, x1), some (0, x2), some (0, (x3 + 1))]) hΦ dX7_countLinksAway_90 rfl (by decide) rfl ?_
      refine ex_goto 25 hΦ dX7_countLinksAway_93 (by decide) ?_
      exact h
    · have h := h.2 c
      refine ex_aload_n hΦ dX7_countLinksAway_44 rfl o1.1 ?_
      refine ex_aload_n hΦ dX7_countLinksAway_45 rfl o1.1 ?_
      refine ex_getf hΦ fl_X7_19 o1 dX7_countLinksAway_46 ?_
      obtain ⟨o7, h⟩ := h
      refine ex_getf hΦ fl_X7_167 o7 dX7_countLinksAway_49 ?_
      refine ex_iload_n hΦ dX7_countLinksAway_52 rfl ?_
      obtain ⟨o8, h⟩ := h
      refine ex_iald' hΦ o8 dX7_countLinksAway_53 ?_
      refine ex_aload_n hΦ dX7_countLinksAway_54 rfl o1.1 ?_
      refine ex_getf hΦ fl_X7_19 o1 dX7_countLinksAway_55 ?_
      refine ex_getf hΦ fl_X7_170 o7 dX7_countLinksAway_58 ?_
      refine ex_iload_n hΦ dX7_countLinksAway_61 rfl ?_
      obtain ⟨o9, h⟩ := h
      refine ex_iald' hΦ o9 dX7_countLinksAway_62 ?_
      refine ex_iload_n hΦ dX7_countLinksAway_63 rfl ?_
      refine ex_callVv [(0, (μ5 (μ5 (μ5 x0 1) 9) x3)), (0, (μ5 (μ5 (μ5 x0 1) 10) x3)), (0, x2)] [(0, x2), (0, (μ5 (μ5 (μ5 x0 1) 10) x3)), (0, (μ5 (μ5 (μ5 x0 1) 9) x3)), (2, x0)] hΦ lkV_X7_377 ⟨by decide, by decide⟩ (Nat.le_of_ble_eq_true rfl) rfl (by decide) 7 (by decide) rfl o1 dX7_countLinksAway_64 rfl h (fun μ10 h => ?_)
      refine ex_aload_n hΦ dX7_countLinksAway_67 rfl o1.1 ?_
      refine ex_aload_n hΦ dX7_countLinksAway_68 rfl o1.1 ?_
      refine ex_getf hΦ fl_X7_19 o1 dX7_countLinksAway_69 ?_
      obtain ⟨o11, h⟩ := h
      refine ex_getf hΦ fl_X7_170 o11 dX7_countLinksAway_72 ?_
      refine ex_iload_n hΦ dX7_countLinksAway_75 rfl ?_
      obtain ⟨o12, h⟩ := h
      refine ex_iald' hΦ o12 dX7_countLinksAway_76 ?_
      refine ex_aload_n hΦ dX7_countLinksAway_77 rfl o1.1 ?_
      refine ex_getf hΦ fl_X7_19 o1 dX7_countLinksAway_78 ?_
      refine ex_getf hΦ fl_X7_167 o11 dX7_countLinksAway_81 ?_
      refine ex_iload_n hΦ dX7_countLinksAway_84 rfl ?_
      obtain ⟨o13, h⟩ := h
      refine ex_iald' hΦ o13 dX7_countLinksAway_85 ?_
      refine ex_iload_n hΦ dX7_countLinksAway_86 rfl ?_
      refine ex_callVv [(0, (μ10 (μ10 (μ10 x0 1) 10) x3)), (0, (μ10 (μ10 (μ10 x0 1) 9) x3)), (0, x2)] [(0, x2), (0, (μ10 (μ10 (μ10 x0 1) 9) x3)), (0, (μ10 (μ10 (μ10 x0 1) 10) x3)), (2, x0)] hΦ lkV_X7_377 ⟨by decide, by decide⟩ (Nat.le_of_ble_eq_true rfl) rfl (by decide) 7 (by decide) rfl o1 dX7_countLinksAway_87 rfl h (fun μ14 h => ?_)
      refine ex_iinc (L' := [some (2, x0), some (0, x1), some (0, x2), some (0, (x3 + 1))]) hΦ dX7_countLinksAway_90 rfl (by decide) rfl ?_
      refine ex_goto 25 hΦ dX7_countLinksAway_93 (by decide) ?_
      exact h
theorem eX7_countLinksAway {G : Gm} {S : List Sh} {μ : Mem} {Q : Mem → Prop} {x0 x1 : Int} (h : ∀ Φ : Fr, St G Φ cX7_countLinksAway RX7 4 1 23 0 0 → Rt G Φ (Pv S Q) 0 0 none → Ex G Φ 4 0 [some (2, x0), some (0, x1), none, none] [] S μ 0 0) : Cv G mX7_countLinksAway [(2, x0), (0, x1)] S μ Q :=
  call_of' (plainFor_of_name (by decide +kernel)) [some (2, x0), some (0, x1), none, none] rfl (Nat.le_of_ble_eq_true rfl) (fun Φ hΦ hR => h Φ hΦ hR)
theorem bX7_countLinksAway_0 {G : Gm} {Φ : Fr} {S : List Sh} {μ : Mem} {Q : Mem → Prop} (hΦ : St G Φ cX7_countLinksAway RX7 4 1 23 0 0) (hR : Rt G Φ (Pv S Q) 0 0 none) {x0 x1 : Int} (h : So S x0 (.inl 7) ∧ (Cv G mJ7_fill_53178 [(2, (μ x0 10)), (0, (-1))] S μ (fun μ2 => Ai S (μ2 x0 10) 0 x1 ∧ (∀ m4 : Mem, m4 = mu μ2 (μ2 x0 10) x1 0 → (Ex G Φ 4 17 [some (2, x0), some (0, x1), some (0, 0), none] [] S m4 0 0))))) : Ex G Φ 4 0 [some (2, x0), some (0, x1), none, none] [] S μ 0 0 := by
  obtain ⟨o1, h⟩ := h
  refine ex_aload_n hΦ dX7_countLinksAway_0 rfl o1.1 ?_
  refine ex_getf hΦ fl_X7_68 o1 dX7_countLinksAway_1 ?_
  refine ex_iconst hΦ dX7_countLinksAway_4 ?_
  refine ex_callSv [(2, (μ x0 10)), (0, (-1))] [(0, (-1)), (2, (μ x0 10))] hΦ lkS_X7_371 ⟨by decide, by decide⟩ (Nat.le_of_ble_eq_true rfl) rfl (by decide) dX7_countLinksAway_5 rfl h (fun μ2 h => ?_)
  refine ex_aload_n hΦ dX7_countLinksAway_8 rfl o1.1 ?_
  refine ex_getf hΦ fl_X7_68 o1 dX7_countLinksAway_9 ?_
  refine ex_iload_n hΦ dX7_countLinksAway_12 rfl ?_
  refine ex_iconst hΦ dX7_countLinksAway_13 ?_
  obtain ⟨o3, h⟩ := h
  obtain ⟨m4, hm4⟩ : ∃ m : Mem, m = mu μ2 (μ2 x0 10) x1 0 := ⟨_, rfl⟩
  have h := h m4 hm4
  refine ex_iast'' hΦ o3 dX7_countLinksAway_14 hm4 ?_
  refine ex_iconst hΦ dX7_countLinksAway_15 ?_
  refine ex_istore_n (L' := [some (2, x0), some (0, x1), some (0, 0), none]) hΦ dX7_countLinksAway_16 (by decide) rfl ?_
  exact h
theorem eX7_countAcross {G : Gm} {S : List Sh} {μ : Mem} {Q : Mem → Prop} {x0 x1 x2 x3 : Int} (h : ∀ Φ : Fr, St G Φ cX7_countAcross RX7 4 0 0 0 0 → Rt G Φ (Pv S Q) 0 0 none → Ex G Φ 4 0 [some (2, x0), some (0, x1), some (0, x2), some (0, x3)] [] S μ 0 0) : Cv G mX7_countAcross [(2, x0), (0, x1), (0, x2), (0, x3)] S μ Q :=
  call_of' (plainFor_of_name (by decide +kernel)) [some (2, x0), some (0, x1), some (0, x2), some (0, x3)] rfl (Nat.le_of_ble_eq_true rfl) (fun Φ hΦ hR => h Φ hΦ hR)
theorem bX7_countAcross_0 {G : Gm} {Φ : Fr} {S : List Sh} {μ : Mem} {Q : Mem → Prop} (hΦ : St G Φ cX7_countAcross RX7 4 0 0 0 0) (hR : Rt G Φ (Pv S Q) 0 0 none) {x0 x1 x2 x3 : Int} (h : So S x0 (.inl 7) ∧ (Ai S (μ x0 10) 0 x1 ∧ (R32 (μ (μ x0 10) x1) ∧ (R32 x3 ∧ (((μ (μ x0 10) x1) ≠ x3 → Q μ) ∧ ((μ (μ x0 10) x1) = x3 → Ai S (μ x0 10) 0 x2 ∧ (R32 (μ (μ x0 10) x2) ∧ (((μ (μ x0 10) x2) ≠ (-1) → Q μ) ∧ ((μ (μ x0 10) x2) = (-1) → ∀ m7 : Mem, m7 = mu μ (μ x0 10) x2 (x3 + 1) → (Q m7)))))))))) : Ex G Φ 4 0 [some (2, x0), some (0, x1), some (0, x2), some (0, x3)] [] S μ 0 0 := by
  obtain ⟨o1, h⟩ := h
  refine ex_aload_n hΦ dX7_countAcross_0 rfl o1.1 ?_
  refine ex_getf hΦ fl_X7_68 o1 dX7_countAcross_1 ?_
  refine ex_iload_n hΦ dX7_countAcross_4 rfl ?_
  obtain ⟨o2, h⟩ := h
  refine ex_iald' hΦ o2 dX7_countAcross_5 ?_
  refine ex_iload_n hΦ dX7_countAcross_6 rfl ?_
  obtain ⟨o3, h⟩ := h
  obtain ⟨o4, h⟩ := h
  refine ex_icmp_ne 29 hΦ dX7_countAcross_7 (by decide) o3 o4 (fun c => ?_) (fun c => ?_)
  · have h := h.1 c
    exact ex_returnv hΦ hR dX7_countAcross_29 h
  · have h := h.2 c
    refine ex_aload_n hΦ dX7_countAcross_10 rfl o1.1 ?_
    refine ex_getf hΦ fl_X7_68 o1 dX7_countAcross_11 ?_
    refine ex_iload_n hΦ dX7_countAcross_14 rfl ?_
    obtain ⟨o5, h⟩ := h
    refine ex_iald' hΦ o5 dX7_countAcross_15 ?_
    refine ex_iconst hΦ dX7_countAcross_16 ?_
    obtain ⟨o6, h⟩ := h
    refine ex_icmp_ne 29 hΦ dX7_countAcross_17 (by decide) o6 ⟨by decide, by decide⟩ (fun c => ?_) (fun c => ?_)
    · have h := h.1 c
      exact ex_returnv hΦ hR dX7_countAcross_29 h
    · have h := h.2 c
      refine ex_aload_n hΦ dX7_countAcross_20 rfl o1.1 ?_
      refine ex_getf hΦ fl_X7_68 o1 dX7_countAcross_21 ?_
      refine ex_iload_n hΦ dX7_countAcross_24 rfl ?_
      refine ex_iload_n hΦ dX7_countAcross_25 rfl ?_
      refine ex_iconst hΦ dX7_countAcross_26 ?_
      refine ex_iadd hΦ dX7_countAcross_27 ?_
      obtain ⟨m7, hm7⟩ : ∃ m : Mem, m = mu μ (μ x0 10) x2 (x3 + 1) := ⟨_, rfl⟩
      have h := h m7 hm7
      refine ex_iast'' hΦ o5 dX7_countAcross_28 hm7 ?_
      exact ex_returnv hΦ hR dX7_countAcross_29 h
theorem bX7_nextLinkTo_2 {G : Gm} {Φ : Fr} {S : List Sh} {μ : Mem} {Q : Int → Mem → Prop} (hΦ : St G Φ cX7_nextLinkTo RX7 4 1 22 0 0) (hR : Rt G Φ (Pi S Q) 0 0 (some .int)) {x0 x1 x2 : Int} (h : So S x0 (.inl 7) ∧ (So S (μ x0 1) (.inl 6) ∧ (R32 x2 ∧ (R32 (μ (μ x0 1) 1) ∧ (((μ (μ x0 1) 1) ≤ x2 → Q (-1) μ) ∧ (¬ ((μ (μ x0 1) 1) ≤ x2) → Ci G mX6_across [(2, (μ x0 1)), (0, x2), (0, x1)] S μ (fun r5 μ5 => Ci G mX7_isOn [(2, x0), (0, x2)] S μ5 (fun r6 μ6 => R32 r6 ∧ ((r6 = 0 → Ex G Φ 4 2 [some (2, x0), some (0, x1), some (0, (x2 + 1)), none] [] S μ6 0 0) ∧ (¬ (r6 = 0) → R32 r5 ∧ ((r5 = (-1) → Ex G Φ 4 2 [some (2, x0), some (0, x1), some (0, (x2 + 1)), none] [] S μ6 0 0) ∧ (¬ (r5 = (-1)) → Ai S (μ6 x0 10) 0 r5 ∧ (Ai S (μ6 x0 10) 0 x1 ∧ (R32 (μ6 (μ6 x0 10) r5) ∧ (R32 ((μ6 (μ6 x0 10) x1) - 1) ∧ (((μ6 (μ6 x0 10) r5) ≠ ((μ6 (μ6 x0 10) x1) - 1) → Ex G Φ 4 2 [some (2, x0), some (0, x1), some (0, (x2 + 1)), none] [] S μ6 0 0) ∧ ((μ6 (μ6 x0 10) r5) = ((μ6 (μ6 x0 10) x1) - 1) → Q x2 μ6))))))))))))))))) : Ex G Φ 4 2 [some (2, x0), some (0, x1), some (0, x2), none] [] S μ 0 0 := by
  refine ex_iload_n hΦ dX7_nextLinkTo_2 rfl ?_
  obtain ⟨o1, h⟩ := h
  refine ex_aload_n hΦ dX7_nextLinkTo_3 rfl o1.1 ?_
  refine ex_getf hΦ fl_X7_19 o1 dX7_nextLinkTo_4 ?_
  obtain ⟨o2, h⟩ := h
  refine ex_getf hΦ fl_X7_101 o2 dX7_nextLinkTo_7 ?_
  obtain ⟨o3, h⟩ := h
  obtain ⟨o4, h⟩ := h
  refine ex_icmp_ge 61 hΦ dX7_nextLinkTo_10 (by decide) o3 o4 (fun c => ?_) (fun c => ?_)
  · have h := h.1 c
    refine ex_iconst hΦ dX7_nextLinkTo_61 ?_
    exact ex_returni hΦ hR dX7_nextLinkTo_62 h
  · have h := h.2 c
    refine ex_aload_n hΦ dX7_nextLinkTo_13 rfl o1.1 ?_
    refine ex_getf hΦ fl_X7_19 o1 dX7_nextLinkTo_14 ?_
    refine ex_iload_n hΦ dX7_nextLinkTo_17 rfl ?_
    refine ex_iload_n hΦ dX7_nextLinkTo_18 rfl ?_
    refine ex_callVi [(0, x2), (0, x1)] [(0, x1), (0, x2), (2, (μ x0 1))] hΦ lkV_X7_368 ⟨by decide, by decide⟩ (Nat.le_of_ble_eq_true rfl) rfl (by decide) 6 (by decide) rfl o2 dX7_nextLinkTo_19 rfl h (fun r5 μ5 h => ?_)
    refine ex_istore_n (L' := [some (2, x0), some (0, x1), some (0, x2), some (0, r5)]) hΦ dX7_nextLinkTo_22 (by decide) rfl ?_
    refine ex_aload_n hΦ dX7_nextLinkTo_23 rfl o1.1 ?_
    refine ex_iload_n hΦ dX7_nextLinkTo_24 rfl ?_
    refine ex_callVi [(0, x2)] [(0, x2), (2, x0)] hΦ lkV_X7_176 ⟨by decide, by decide⟩ (Nat.le_of_ble_eq_true rfl) rfl (by decide) 7 (by decide) rfl o1 dX7_nextLinkTo_25 rfl h (fun r6 μ6 h => ?_)
    obtain ⟨o7, h⟩ := h
    refine ex_if_eq 55 hΦ dX7_nextLinkTo_28 (by decide) o7 (fun c => ?_) (fun c => ?_)
    · have h := h.1 c
      refine ex_iinc (L' := [some (2, x0), some (0, x1), some (0, (x2 + 1)), some (0, r5)]) hΦ dX7_nextLinkTo_55 rfl (by decide) rfl ?_
      refine ex_goto 2 hΦ dX7_nextLinkTo_58 (by decide) ?_
      refine ex_forget (L' := [some (2, x0), some (0, x1), some (0, (x2 + 1)), none]) [3] rfl ?_
      exact h
    · have h := h.2 c
      refine ex_iload_n hΦ dX7_nextLinkTo_31 rfl ?_
      refine ex_iconst hΦ dX7_nextLinkTo_32 ?_
      obtain ⟨o8, h⟩ := h
      refine ex_icmp_eq 55 hΦ dX7_nextLinkTo_33 (by decide) o8 ⟨by decide, by decide⟩ (fun c => ?_) (fun c => ?_)
      · have h := h.1 c
        refine ex_iinc (L' := [some (2, x0), some (0, x1), some (0, (x2 + 1)), some (0, r5)]) hΦ dX7_nextLinkTo_55 rfl (by decide) rfl ?_
        refine ex_goto 2 hΦ dX7_nextLinkTo_58 (by decide) ?_
        refine ex_forget (L' := [some (2, x0), some (0, x1), some (0, (x2 + 1)), none]) [3] rfl ?_
        exact h
      · have h := h.2 c
        refine ex_aload_n hΦ dX7_nextLinkTo_36 rfl o1.1 ?_
        refine ex_getf hΦ fl_X7_68 o1 dX7_nextLinkTo_37 ?_
        refine ex_iload_n hΦ dX7_nextLinkTo_40 rfl ?_
        obtain ⟨o9, h⟩ := h
        refine ex_iald' hΦ o9 dX7_nextLinkTo_41 ?_
        refine ex_aload_n hΦ dX7_nextLinkTo_42 rfl o1.1 ?_
        refine ex_getf hΦ fl_X7_68 o1 dX7_nextLinkTo_43 ?_
        refine ex_iload_n hΦ dX7_nextLinkTo_46 rfl ?_
        obtain ⟨o10, h⟩ := h
        refine ex_iald' hΦ o10 dX7_nextLinkTo_47 ?_
        refine ex_iconst hΦ dX7_nextLinkTo_48 ?_
        refine ex_isub hΦ dX7_nextLinkTo_49 ?_
        obtain ⟨o11, h⟩ := h
        obtain ⟨o12, h⟩ := h
        refine ex_icmp_ne 55 hΦ dX7_nextLinkTo_50 (by decide) o11 o12 (fun c => ?_) (fun c => ?_)
        · have h := h.1 c
          refine ex_iinc (L' := [some (2, x0), some (0, x1), some (0, (x2 + 1)), some (0, r5)]) hΦ dX7_nextLinkTo_55 rfl (by decide) rfl ?_
          refine ex_goto 2 hΦ dX7_nextLinkTo_58 (by decide) ?_
          refine ex_forget (L' := [some (2, x0), some (0, x1), some (0, (x2 + 1)), none]) [3] rfl ?_
          exact h
        · have h := h.2 c
          refine ex_iload_n hΦ dX7_nextLinkTo_53 rfl ?_
          exact ex_returni hΦ hR dX7_nextLinkTo_54 h
theorem eX7_nextLinkTo {G : Gm} {S : List Sh} {μ : Mem} {Q : Int → Mem → Prop} {x0 x1 : Int} (h : ∀ Φ : Fr, St G Φ cX7_nextLinkTo RX7 4 1 22 0 0 → Rt G Φ (Pi S Q) 0 0 (some .int) → Ex G Φ 4 0 [some (2, x0), some (0, x1), none, none] [] S μ 0 0) : Ci G mX7_nextLinkTo [(2, x0), (0, x1)] S μ Q :=
  call_of' (plainFor_of_name (by decide +kernel)) [some (2, x0), some (0, x1), none, none] rfl (Nat.le_of_ble_eq_true rfl) (fun Φ hΦ hR => h Φ hΦ hR)
theorem bX7_nextLinkTo_0 {G : Gm} {Φ : Fr} {S : List Sh} {μ : Mem} {Q : Int → Mem → Prop} (hΦ : St G Φ cX7_nextLinkTo RX7 4 1 22 0 0) (hR : Rt G Φ (Pi S Q) 0 0 (some .int)) {x0 x1 : Int} (h : Ex G Φ 4 2 [some (2, x0), some (0, x1), some (0, 0), none] [] S μ 0 0) : Ex G Φ 4 0 [some (2, x0), some (0, x1), none, none] [] S μ 0 0 := by
  refine ex_iconst hΦ dX7_nextLinkTo_0 ?_
  refine ex_istore_n (L' := [some (2, x0), some (0, x1), some (0, 0), none]) hΦ dX7_nextLinkTo_1 (by decide) rfl ?_
  exact h
theorem eX7_wouldTurn {G : Gm} {S : List Sh} {μ : Mem} {Q : Int → Mem → Prop} {x0 x1 x2 x3 x4 x5 : Int} (h : ∀ Φ : Fr, St G Φ cX7_wouldTurn RX7 7 5 135 0 0 → Rt G Φ (Pi S Q) 0 0 (some .boolean) → Ex G Φ 7 0 [some (2, x0), some (0, x1), some (0, x2), some (0, x3), some (0, x4), some (0, x5), none] [] S μ 0 0) : Ci G mX7_wouldTurn [(2, x0), (0, x1), (0, x2), (0, x3), (0, x4), (0, x5)] S μ Q :=
  call_of' (plainFor_of_name (by decide +kernel)) [some (2, x0), some (0, x1), some (0, x2), some (0, x3), some (0, x4), some (0, x5), none] rfl (Nat.le_of_ble_eq_true rfl) (fun Φ hΦ hR => h Φ hΦ hR)
theorem bX7_wouldTurn_0 {G : Gm} {Φ : Fr} {S : List Sh} {μ : Mem} {Q : Int → Mem → Prop} (hΦ : St G Φ cX7_wouldTurn RX7 7 5 135 0 0) (hR : Rt G Φ (Pi S Q) 0 0 (some .boolean)) {x0 x1 x2 x3 x4 x5 : Int} (h : So S x0 (.inl 7) ∧ (So S (μ x0 1) (.inl 6) ∧ (Cv G mX6_setLink [(2, (μ x0 1)), (0, (μ (μ x0 1) 1)), (0, x3), (0, x4), (0, x5)] S μ (fun μ3 => Ci G mX7_linksOn [(2, x0)] S μ3 (fun r4 μ4 => 0 ≤ (μ (μ x0 1) 1) ∧ ((μ (μ x0 1) 1) ≤ 31 ∧ (So S (μ3 x0 4) (.inl 3) ∧ (Cv G mX3_reckon [(2, (μ3 x0 4)), (2, (μ3 x0 1)), (0, (mor r4 (1 * 2 ^ (Int.toNat (μ (μ x0 1) 1))))), (0, 0)] S μ4 (fun μ8 => So S (μ8 x0 4) (.inl 3) ∧ (Ai S (μ8 (μ8 x0 4) 0) 1 x1 ∧ (R32 x2 ∧ (R64 (μ8 (μ8 (μ8 x0 4) 0) x1) ∧ (R64 x2 ∧ (((μ8 (μ8 (μ8 x0 4) 0) x1) ≠ x2 → Q 0 μ8) ∧ ((μ8 (μ8 (μ8 x0 4) 0) x1) = x2 → Ai S (μ8 (μ8 x0 4) 1) 1 x1 ∧ (R64 (μ8 (μ8 (μ8 x0 4) 1) x1) ∧ (((μ8 (μ8 (μ8 x0 4) 1) x1) ≠ 1 → Q 0 μ8) ∧ ((μ8 (μ8 (μ8 x0 4) 1) x1) = 1 → Q 1 μ8)))))))))))))))))) : Ex G Φ 7 0 [some (2, x0), some (0, x1), some (0, x2), some (0, x3), some (0, x4), some (0, x5), none] [] S μ 0 0 := by
  obtain ⟨o1, h⟩ := h
  refine ex_aload_n hΦ dX7_wouldTurn_0 rfl o1.1 ?_
  refine ex_getf hΦ fl_X7_19 o1 dX7_wouldTurn_1 ?_
  obtain ⟨o2, h⟩ := h
  refine ex_getf hΦ fl_X7_101 o2 dX7_wouldTurn_4 ?_
  refine ex_istore (L' := [some (2, x0), some (0, x1), some (0, x2), some (0, x3), some (0, x4), some (0, x5), some (0, (μ (μ x0 1) 1))]) hΦ dX7_wouldTurn_7 (by decide) rfl ?_
  refine ex_aload_n hΦ dX7_wouldTurn_9 rfl o1.1 ?_
  refine ex_getf hΦ fl_X7_19 o1 dX7_wouldTurn_10 ?_
  refine ex_iload hΦ dX7_wouldTurn_13 rfl ?_
  refine ex_iload_n hΦ dX7_wouldTurn_15 rfl ?_
  refine ex_iload hΦ dX7_wouldTurn_16 rfl ?_
  refine ex_iload hΦ dX7_wouldTurn_18 rfl ?_
  refine ex_callVv [(0, (μ (μ x0 1) 1)), (0, x3), (0, x4), (0, x5)] [(0, x5), (0, x4), (0, x3), (0, (μ (μ x0 1) 1)), (2, (μ x0 1))] hΦ lkV_X7_381 ⟨by decide, by decide⟩ (Nat.le_of_ble_eq_true rfl) rfl (by decide) 6 (by decide) rfl o2 dX7_wouldTurn_20 rfl h (fun μ3 h => ?_)
  refine ex_aload_n hΦ dX7_wouldTurn_23 rfl o1.1 ?_
  refine ex_getf hΦ fl_X7_33 o1 dX7_wouldTurn_24 ?_
  refine ex_aload_n hΦ dX7_wouldTurn_27 rfl o1.1 ?_
  refine ex_getf hΦ fl_X7_19 o1 dX7_wouldTurn_28 ?_
  refine ex_aload_n hΦ dX7_wouldTurn_31 rfl o1.1 ?_
  refine ex_callVi [] [(2, x0), (2, (μ3 x0 1)), (2, (μ3 x0 4))] hΦ lkV_X7_310 ⟨by decide, by decide⟩ (Nat.le_of_ble_eq_true rfl) rfl (by decide) 7 (by decide) rfl o1 dX7_wouldTurn_32 rfl h (fun r4 μ4 h => ?_)
  refine ex_iconst hΦ dX7_wouldTurn_35 ?_
  refine ex_iload hΦ dX7_wouldTurn_36 rfl ?_
  obtain ⟨o5, h⟩ := h
  obtain ⟨o6, h⟩ := h
  refine ex_ishl hΦ dX7_wouldTurn_38 o5 o6 ?_
  refine ex_ior hΦ dX7_wouldTurn_39 ?_
  refine ex_iconst hΦ dX7_wouldTurn_40 ?_
  obtain ⟨o7, h⟩ := h
  refine ex_callVv [(2, (μ3 x0 1)), (0, (mor r4 (1 * 2 ^ (Int.toNat (μ (μ x0 1) 1))))), (0, 0)] [(0, 0), (0, (mor r4 (1 * 2 ^ (Int.toNat (μ (μ x0 1) 1))))), (2, (μ3 x0 1)), (2, (μ3 x0 4))] hΦ lkV_X7_313 ⟨by decide, by decide⟩ (Nat.le_of_ble_eq_true rfl) rfl (by decide) 3 (by decide) rfl o7 dX7_wouldTurn_41 rfl h (fun μ8 h => ?_)
  refine ex_aload_n hΦ dX7_wouldTurn_44 rfl o1.1 ?_
  refine ex_getf hΦ fl_X7_33 o1 dX7_wouldTurn_45 ?_
  obtain ⟨o9, h⟩ := h
  refine ex_getf hΦ fl_X7_154 o9 dX7_wouldTurn_48 ?_
  refine ex_iload_n hΦ dX7_wouldTurn_51 rfl ?_
  obtain ⟨o10, h⟩ := h
  refine ex_lald' hΦ o10 dX7_wouldTurn_52 ?_
  refine ex_iload_n hΦ dX7_wouldTurn_53 rfl ?_
  obtain ⟨o11, h⟩ := h
  refine ex_i2l hΦ dX7_wouldTurn_54 o11 ?_
  obtain ⟨o12, h⟩ := h
  obtain ⟨o13, h⟩ := h
  refine ex_lcmp hΦ dX7_wouldTurn_55 o12 o13 ?_
  refine ex_lif_ne 77 hΦ dX7_wouldTurn_56 (by decide) (fun c => ?_) (fun c => ?_)
  · have h := h.1 c
    refine ex_iconst hΦ dX7_wouldTurn_77 ?_
    exact ex_returnz hΦ hR (by decide) (by decide) dX7_wouldTurn_78 h
  · have h := h.2 c
    refine ex_aload_n hΦ dX7_wouldTurn_59 rfl o1.1 ?_
    refine ex_getf hΦ fl_X7_33 o1 dX7_wouldTurn_60 ?_
    refine ex_getf hΦ fl_X7_158 o9 dX7_wouldTurn_63 ?_
    refine ex_iload_n hΦ dX7_wouldTurn_66 rfl ?_
    obtain ⟨o14, h⟩ := h
    refine ex_lald' hΦ o14 dX7_wouldTurn_67 ?_
    refine ex_lconst (x := 1) hΦ dX7_wouldTurn_68 (by decide) ?_
    obtain ⟨o15, h⟩ := h
    refine ex_lcmp hΦ dX7_wouldTurn_69 o15 ⟨by decide, by decide⟩ ?_
    refine ex_lif_ne 77 hΦ dX7_wouldTurn_70 (by decide) (fun c => ?_) (fun c => ?_)
    · have h := h.1 c
      refine ex_iconst hΦ dX7_wouldTurn_77 ?_
      exact ex_returnz hΦ hR (by decide) (by decide) dX7_wouldTurn_78 h
    · have h := h.2 c
      refine ex_iconst hΦ dX7_wouldTurn_73 ?_
      refine ex_goto 78 hΦ dX7_wouldTurn_74 (by decide) ?_
      exact ex_returnz hΦ hR (by decide) (by decide) dX7_wouldTurn_78 h
theorem bX7_teethThatFit_4 {G : Gm} {Φ : Fr} {S : List Sh} {μ : Mem} {Q : Int → Mem → Prop} (hΦ : St G Φ cX7_teethThatFit RX7 4 6 141 0 0) (hR : Rt G Φ (Pi S Q) 0 0 (some .int)) {x0 x1 x2 x3 : Int} (h : R32 x3 ∧ ((30 < x3 → Q x2 μ) ∧ (¬ (30 < x3) → So S x0 (.inl 7) ∧ (Ci G mX7_isAsSeen [(2, x0), (0, x1), (0, x3)] S μ (fun r3 μ3 => R32 r3 ∧ ((r3 = 0 → Ex G Φ 4 4 [some (2, x0), some (0, x1), some (0, x2), some (0, (x3 + 1))] [] S μ3 0 0) ∧ (¬ (r3 = 0) → 0 ≤ x3 ∧ (x3 ≤ 31 ∧ Ex G Φ 4 4 [some (2, x0), some (0, x1), some (0, (mor x2 (1 * 2 ^ (Int.toNat x3)))), some (0, (x3 + 1))] [] S μ3 0 0)))))))) : Ex G Φ 4 4 [some (2, x0), some (0, x1), some (0, x2), some (0, x3)] [] S μ 0 0 := by
  refine ex_iload_n hΦ dX7_teethThatFit_4 rfl ?_
  refine ex_bipush hΦ dX7_teethThatFit_5 (by decide) ?_
  obtain ⟨o1, h⟩ := h
  refine ex_icmp_gt 31 hΦ dX7_teethThatFit_7 (by decide) o1 ⟨by decide, by decide⟩ (fun c => ?_) (fun c => ?_)
  · have h := h.1 c
    refine ex_iload_n hΦ dX7_teethThatFit_31 rfl ?_
    exact ex_returni hΦ hR dX7_teethThatFit_32 h
  · have h := h.2 c
    obtain ⟨o2, h⟩ := h
    refine ex_aload_n hΦ dX7_teethThatFit_10 rfl o2.1 ?_
    refine ex_iload_n hΦ dX7_teethThatFit_11 rfl ?_
    refine ex_iload_n hΦ dX7_teethThatFit_12 rfl ?_
    refine ex_callVi [(0, x1), (0, x3)] [(0, x3), (0, x1), (2, x0)] hΦ lkV_X7_385 ⟨by decide, by decide⟩ (Nat.le_of_ble_eq_true rfl) rfl (by decide) 7 (by decide) rfl o2 dX7_teethThatFit_13 rfl h (fun r3 μ3 h => ?_)
    obtain ⟨o4, h⟩ := h
    refine ex_if_eq 25 hΦ dX7_teethThatFit_16 (by decide) o4 (fun c => ?_) (fun c => ?_)
    · have h := h.1 c
      refine ex_iinc (L' := [some (2, x0), some (0, x1), some (0, x2), some (0, (x3 + 1))]) hΦ dX7_teethThatFit_25 rfl (by decide) rfl ?_
      refine ex_goto 4 hΦ dX7_teethThatFit_28 (by decide) ?_
      exact h
    · have h := h.2 c
      refine ex_iload_n hΦ dX7_teethThatFit_19 rfl ?_
      refine ex_iconst hΦ dX7_teethThatFit_20 ?_
      refine ex_iload_n hΦ dX7_teethThatFit_21 rfl ?_
      obtain ⟨o5, h⟩ := h
      obtain ⟨o6, h⟩ := h
      refine ex_ishl hΦ dX7_teethThatFit_22 o5 o6 ?_
      refine ex_ior hΦ dX7_teethThatFit_23 ?_
      refine ex_istore_n (L' := [some (2, x0), some (0, x1), some (0, (mor x2 (1 * 2 ^ (Int.toNat x3)))), some (0, x3)]) hΦ dX7_teethThatFit_24 (by decide) rfl ?_
      refine ex_iinc (L' := [some (2, x0), some (0, x1), some (0, (mor x2 (1 * 2 ^ (Int.toNat x3)))), some (0, (x3 + 1))]) hΦ dX7_teethThatFit_25 rfl (by decide) rfl ?_
      refine ex_goto 4 hΦ dX7_teethThatFit_28 (by decide) ?_
      exact h
theorem eX7_teethThatFit {G : Gm} {S : List Sh} {μ : Mem} {Q : Int → Mem → Prop} {x0 x1 : Int} (h : ∀ Φ : Fr, St G Φ cX7_teethThatFit RX7 4 6 141 0 0 → Rt G Φ (Pi S Q) 0 0 (some .int) → Ex G Φ 4 0 [some (2, x0), some (0, x1), none, none] [] S μ 0 0) : Ci G mX7_teethThatFit [(2, x0), (0, x1)] S μ Q :=
  call_of' (plainFor_of_name (by decide +kernel)) [some (2, x0), some (0, x1), none, none] rfl (Nat.le_of_ble_eq_true rfl) (fun Φ hΦ hR => h Φ hΦ hR)
theorem bX7_teethThatFit_0 {G : Gm} {Φ : Fr} {S : List Sh} {μ : Mem} {Q : Int → Mem → Prop} (hΦ : St G Φ cX7_teethThatFit RX7 4 6 141 0 0) (hR : Rt G Φ (Pi S Q) 0 0 (some .int)) {x0 x1 : Int} (h : Ex G Φ 4 4 [some (2, x0), some (0, x1), some (0, 0), some (0, 3)] [] S μ 0 0) : Ex G Φ 4 0 [some (2, x0), some (0, x1), none, none] [] S μ 0 0 := by
  refine ex_iconst hΦ dX7_teethThatFit_0 ?_
  refine ex_istore_n (L' := [some (2, x0), some (0, x1), some (0, 0), none]) hΦ dX7_teethThatFit_1 (by decide) rfl ?_
  refine ex_iconst hΦ dX7_teethThatFit_2 ?_
  refine ex_istore_n (L' := [some (2, x0), some (0, x1), some (0, 0), some (0, 3)]) hΦ dX7_teethThatFit_3 (by decide) rfl ?_
  exact h
theorem bX7_isAsSeen_2 {G : Gm} {Φ : Fr} {S : List Sh} {μ : Mem} {Q : Int → Mem → Prop} (hΦ : St G Φ cX7_isAsSeen RX7 4 5 118 0 0) (hR : Rt G Φ (Pi S Q) 0 0 (some .boolean)) {x0 x1 x2 x3 : Int} (h : So S x0 (.inl 7) ∧ (So S (μ x0 8) (.inl 2) ∧ (R32 x3 ∧ (R32 (μ (μ x0 8) 3) ∧ (((μ (μ x0 8) 3) ≤ x3 → Q 1 μ) ∧ (¬ ((μ (μ x0 8) 3) ≤ x3) → Ai S (μ (μ x0 8) 0) 0 x3 ∧ (R32 (μ (μ (μ x0 8) 0) x3) ∧ (R32 x1 ∧ (((μ (μ (μ x0 8) 0) x3) ≠ x1 → Ex G Φ 4 2 [some (2, x0), some (0, x1), some (0, x2), some (0, (x3 + 1))] [] S μ 0 0) ∧ ((μ (μ (μ x0 8) 0) x3) = x1 → Ai S (μ (μ x0 8) 1) 0 x3 ∧ (Ci G mX7_placeWith [(2, x0), (0, x1), (0, x2), (0, (μ (μ (μ x0 8) 1) x3))] S μ (fun r9 μ9 => So S (μ9 x0 8) (.inl 2) ∧ (Ai S (μ9 (μ9 x0 8) 2) 0 x3 ∧ (R32 r9 ∧ (R32 (μ9 (μ9 (μ9 x0 8) 2) x3) ∧ ((r9 = (μ9 (μ9 (μ9 x0 8) 2) x3) → Ex G Φ 4 2 [some (2, x0), some (0, x1), some (0, x2), some (0, (x3 + 1))] [] S μ9 0 0) ∧ (¬ (r9 = (μ9 (μ9 (μ9 x0 8) 2) x3)) → Q 0 μ9))))))))))))))))) : Ex G Φ 4 2 [some (2, x0), some (0, x1), some (0, x2), some (0, x3)] [] S μ 0 0 := by
  refine ex_iload_n hΦ dX7_isAsSeen_2 rfl ?_
  obtain ⟨o1, h⟩ := h
  refine ex_aload_n hΦ dX7_isAsSeen_3 rfl o1.1 ?_
  refine ex_getf hΦ fl_X7_61 o1 dX7_isAsSeen_4 ?_
  obtain ⟨o2, h⟩ := h
  refine ex_getf hΦ fl_X7_132 o2 dX7_isAsSeen_7 ?_
  obtain ⟨o3, h⟩ := h
  obtain ⟨o4, h⟩ := h
  refine ex_icmp_ge 61 hΦ dX7_isAsSeen_10 (by decide) o3 o4 (fun c => ?_) (fun c => ?_)
  · have h := h.1 c
    refine ex_iconst hΦ dX7_isAsSeen_61 ?_
    exact ex_returnz hΦ hR (by decide) (by decide) dX7_isAsSeen_62 h
  · have h := h.2 c
    refine ex_aload_n hΦ dX7_isAsSeen_13 rfl o1.1 ?_
    refine ex_getf hΦ fl_X7_61 o1 dX7_isAsSeen_14 ?_
    refine ex_getf hΦ fl_X7_283 o2 dX7_isAsSeen_17 ?_
    refine ex_iload_n hΦ dX7_isAsSeen_20 rfl ?_
    obtain ⟨o5, h⟩ := h
    refine ex_iald' hΦ o5 dX7_isAsSeen_21 ?_
    refine ex_iload_n hΦ dX7_isAsSeen_22 rfl ?_
    obtain ⟨o6, h⟩ := h
    obtain ⟨o7, h⟩ := h
    refine ex_icmp_ne 55 hΦ dX7_isAsSeen_23 (by decide) o6 o7 (fun c => ?_) (fun c => ?_)
    · have h := h.1 c
      refine ex_iinc (L' := [some (2, x0), some (0, x1), some (0, x2), some (0, (x3 + 1))]) hΦ dX7_isAsSeen_55 rfl (by decide) rfl ?_
      refine ex_goto 2 hΦ dX7_isAsSeen_58 (by decide) ?_
      exact h
    · have h := h.2 c
      refine ex_aload_n hΦ dX7_isAsSeen_26 rfl o1.1 ?_
      refine ex_iload_n hΦ dX7_isAsSeen_27 rfl ?_
      refine ex_iload_n hΦ dX7_isAsSeen_28 rfl ?_
      refine ex_aload_n hΦ dX7_isAsSeen_29 rfl o1.1 ?_
      refine ex_getf hΦ fl_X7_61 o1 dX7_isAsSeen_30 ?_
      refine ex_getf hΦ fl_X7_285 o2 dX7_isAsSeen_33 ?_
      refine ex_iload_n hΦ dX7_isAsSeen_36 rfl ?_
      obtain ⟨o8, h⟩ := h
      refine ex_iald' hΦ o8 dX7_isAsSeen_37 ?_
      refine ex_callVi [(0, x1), (0, x2), (0, (μ (μ (μ x0 8) 1) x3))] [(0, (μ (μ (μ x0 8) 1) x3)), (0, x2), (0, x1), (2, x0)] hΦ lkV_X7_388 ⟨by decide, by decide⟩ (Nat.le_of_ble_eq_true rfl) rfl (by decide) 7 (by decide) rfl o1 dX7_isAsSeen_38 rfl h (fun r9 μ9 h => ?_)
      refine ex_aload_n hΦ dX7_isAsSeen_41 rfl o1.1 ?_
      refine ex_getf hΦ fl_X7_61 o1 dX7_isAsSeen_42 ?_
      obtain ⟨o10, h⟩ := h
      refine ex_getf hΦ fl_X7_288 o10 dX7_isAsSeen_45 ?_
      refine ex_iload_n hΦ dX7_isAsSeen_48 rfl ?_
      obtain ⟨o11, h⟩ := h
      refine ex_iald' hΦ o11 dX7_isAsSeen_49 ?_
      obtain ⟨o12, h⟩ := h
      obtain ⟨o13, h⟩ := h
      refine ex_icmp_eq 55 hΦ dX7_isAsSeen_50 (by decide) o12 o13 (fun c => ?_) (fun c => ?_)
      · have h := h.1 c
        refine ex_iinc (L' := [some (2, x0), some (0, x1), some (0, x2), some (0, (x3 + 1))]) hΦ dX7_isAsSeen_55 rfl (by decide) rfl ?_
        refine ex_goto 2 hΦ dX7_isAsSeen_58 (by decide) ?_
        exact h
      · have h := h.2 c
        refine ex_iconst hΦ dX7_isAsSeen_53 ?_
        exact ex_returnz hΦ hR (by decide) (by decide) dX7_isAsSeen_54 h
theorem eX7_isAsSeen {G : Gm} {S : List Sh} {μ : Mem} {Q : Int → Mem → Prop} {x0 x1 x2 : Int} (h : ∀ Φ : Fr, St G Φ cX7_isAsSeen RX7 4 5 118 0 0 → Rt G Φ (Pi S Q) 0 0 (some .boolean) → Ex G Φ 4 0 [some (2, x0), some (0, x1), some (0, x2), none] [] S μ 0 0) : Ci G mX7_isAsSeen [(2, x0), (0, x1), (0, x2)] S μ Q :=
  call_of' (plainFor_of_name (by decide +kernel)) [some (2, x0), some (0, x1), some (0, x2), none] rfl (Nat.le_of_ble_eq_true rfl) (fun Φ hΦ hR => h Φ hΦ hR)
theorem bX7_isAsSeen_0 {G : Gm} {Φ : Fr} {S : List Sh} {μ : Mem} {Q : Int → Mem → Prop} (hΦ : St G Φ cX7_isAsSeen RX7 4 5 118 0 0) (hR : Rt G Φ (Pi S Q) 0 0 (some .boolean)) {x0 x1 x2 : Int} (h : Ex G Φ 4 2 [some (2, x0), some (0, x1), some (0, x2), some (0, 0)] [] S μ 0 0) : Ex G Φ 4 0 [some (2, x0), some (0, x1), some (0, x2), none] [] S μ 0 0 := by
  refine ex_iconst hΦ dX7_isAsSeen_0 ?_
  refine ex_istore_n (L' := [some (2, x0), some (0, x1), some (0, x2), some (0, 0)]) hΦ dX7_isAsSeen_1 (by decide) rfl ?_
  exact h
theorem eX7_placeWith {G : Gm} {S : List Sh} {μ : Mem} {Q : Int → Mem → Prop} {x0 x1 x2 x3 : Int} (h : ∀ Φ : Fr, St G Φ cX7_placeWith RX7 4 4 95 0 0 → Rt G Φ (Pi S Q) 0 0 (some .int) → Ex G Φ 4 0 [some (2, x0), some (0, x1), some (0, x2), some (0, x3)] [] S μ 0 0) : Ci G mX7_placeWith [(2, x0), (0, x1), (0, x2), (0, x3)] S μ Q :=
  call_of' (plainFor_of_name (by decide +kernel)) [some (2, x0), some (0, x1), some (0, x2), some (0, x3)] rfl (Nat.le_of_ble_eq_true rfl) (fun Φ hΦ hR => h Φ hΦ hR)
theorem bX7_placeWith_0 {G : Gm} {Φ : Fr} {S : List Sh} {μ : Mem} {Q : Int → Mem → Prop} (hΦ : St G Φ cX7_placeWith RX7 4 4 95 0 0) (hR : Rt G Φ (Pi S Q) 0 0 (some .int)) {x0 x1 x2 x3 : Int} (h : So S x0 (.inl 7) ∧ (Ci G mX7_placeIn [(2, x0), (0, x1), (0, 0)] S μ (fun r2 μ2 => R32 r2 ∧ (R32 x3 ∧ (Cj G mX7_turnedIn [(2, x0), (0, x1), (1, x3)] S μ2 (fun r5 μ5 => R32 x2 ∧ Cj G mX7_leftOver [(1, (r2 + r5)), (1, x2)] S μ5 (fun r7 μ7 => Q r7 μ7))))))) : Ex G Φ 4 0 [some (2, x0), some (0, x1), some (0, x2), some (0, x3)] [] S μ 0 0 := by
  obtain ⟨o1, h⟩ := h
  refine ex_aload_n hΦ dX7_placeWith_0 rfl o1.1 ?_
  refine ex_iload_n hΦ dX7_placeWith_1 rfl ?_
  refine ex_iconst hΦ dX7_placeWith_2 ?_
  refine ex_callVi [(0, x1), (0, 0)] [(0, 0), (0, x1), (2, x0)] hΦ lkV_X7_150 ⟨by decide, by decide⟩ (Nat.le_of_ble_eq_true rfl) rfl (by decide) 7 (by decide) rfl o1 dX7_placeWith_3 rfl h (fun r2 μ2 h => ?_)
  obtain ⟨o3, h⟩ := h
  refine ex_i2l hΦ dX7_placeWith_6 o3 ?_
  refine ex_aload_n hΦ dX7_placeWith_7 rfl o1.1 ?_
  refine ex_iload_n hΦ dX7_placeWith_8 rfl ?_
  refine ex_iload_n hΦ dX7_placeWith_9 rfl ?_
  obtain ⟨o4, h⟩ := h
  refine ex_i2l hΦ dX7_placeWith_10 o4 ?_
  refine ex_callVj [(0, x1), (1, x3)] [(1, x3), (0, x1), (2, x0), (1, r2)] hΦ lkV_X7_317 ⟨by decide, by decide⟩ (Nat.le_of_ble_eq_true rfl) rfl (by decide) 7 (by decide) rfl o1 dX7_placeWith_11 rfl h (fun r5 μ5 h => ?_)
  refine ex_ladd hΦ dX7_placeWith_14 ?_
  refine ex_iload_n hΦ dX7_placeWith_15 rfl ?_
  obtain ⟨o6, h⟩ := h
  refine ex_i2l hΦ dX7_placeWith_16 o6 ?_
  refine ex_callSj [(1, (r2 + r5)), (1, x2)] [(1, x2), (1, (r2 + r5))] hΦ lkS_X7_231 ⟨by decide, by decide⟩ (Nat.le_of_ble_eq_true rfl) rfl (by decide) dX7_placeWith_17 rfl h (fun r7 μ7 h => ?_)
  refine ex_l2i hΦ dX7_placeWith_20 ?_
  exact ex_returni hΦ hR dX7_placeWith_21 h
theorem bX7_greatestPart_14 {G : Gm} {Φ : Fr} {S : List Sh} {μ : Mem} {Q : Int → Mem → Prop} (hΦ : St G Φ cX7_greatestPart RX7 7 5 118 0 0) (hR : Rt G Φ (Pi S Q) 0 0 (some .int)) {x0 x1 x2 x3 x4 x5 : Int} (h : R32 x5 ∧ ((30 < x5 → Q x4 μ) ∧ (¬ (30 < x5) → R32 x3 ∧ (0 ≤ x5 ∧ (x5 ≤ 31 ∧ (R32 ((x3 / 2 ^ (Int.toNat x5)) % 2) ∧ ((((x3 / 2 ^ (Int.toNat x5)) % 2) ≠ 1 → Ex G Φ 7 14 [some (2, x0), some (0, x1), some (0, x2), some (0, x3), some (0, x4), some (0, (x5 + 1)), none] [] S μ 0 0) ∧ (((x3 / 2 ^ (Int.toNat x5)) % 2) = 1 → So S x0 (.inl 7) ∧ (Ci G mX7_placeWith [(2, x0), (0, x1), (0, x5), (0, x2)] S μ (fun r7 μ7 => Ai S (μ7 x0 11) 0 r7 ∧ (∀ m9 : Mem, m9 = mu μ7 (μ7 x0 11) r7 ((μ7 (μ7 x0 11) r7) + 1) → (Ai S (m9 x0 11) 0 r7 ∧ (R32 x4 ∧ (R32 (m9 (m9 x0 11) r7) ∧ Ex G Φ 7 14 [some (2, x0), some (0, x1), some (0, x2), some (0, x3), some (0, (if x4 < (m9 (m9 x0 11) r7) then (m9 (m9 x0 11) r7) else x4)), some (0, (x5 + 1)), none] [] S m9 0 0)))))))))))))) : Ex G Φ 7 14 [some (2, x0), some (0, x1), some (0, x2), some (0, x3), some (0, x4), some (0, x5), none] [] S μ 0 0 := by
  refine ex_iload hΦ dX7_greatestPart_14 rfl ?_
  refine ex_bipush hΦ dX7_greatestPart_16 (by decide) ?_
  obtain ⟨o1, h⟩ := h
  refine ex_icmp_gt 72 hΦ dX7_greatestPart_18 (by decide) o1 ⟨by decide, by decide⟩ (fun c => ?_) (fun c => ?_)
  · have h := h.1 c
    refine ex_iload hΦ dX7_greatestPart_72 rfl ?_
    exact ex_returni hΦ hR dX7_greatestPart_74 h
  · have h := h.2 c
    refine ex_iload_n hΦ dX7_greatestPart_21 rfl ?_
    refine ex_iload hΦ dX7_greatestPart_22 rfl ?_
    obtain ⟨o2, h⟩ := h
    obtain ⟨o3, h⟩ := h
    obtain ⟨o4, h⟩ := h
    refine ex_ishr hΦ dX7_greatestPart_24 o2 o3 o4 ?_
    refine ex_iconst hΦ dX7_greatestPart_25 ?_
    refine ex_iand1 hΦ dX7_greatestPart_26 ?_
    refine ex_iconst hΦ dX7_greatestPart_27 ?_
    obtain ⟨o5, h⟩ := h
    refine ex_icmp_ne 66 hΦ dX7_greatestPart_28 (by decide) o5 ⟨by decide, by decide⟩ (fun c => ?_) (fun c => ?_)
    · have h := h.1 c
      refine ex_iinc (L' := [some (2, x0), some (0, x1), some (0, x2), some (0, x3), some (0, x4), some (0, (x5 + 1)), none]) hΦ dX7_greatestPart_66 rfl (by decide) rfl ?_
      refine ex_goto 14 hΦ dX7_greatestPart_69 (by decide) ?_
      exact h
    · have h := h.2 c
      obtain ⟨o6, h⟩ := h
      refine ex_aload_n hΦ dX7_greatestPart_31 rfl o6.1 ?_
      refine ex_iload_n hΦ dX7_greatestPart_32 rfl ?_
      refine ex_iload hΦ dX7_greatestPart_33 rfl ?_
      refine ex_iload_n hΦ dX7_greatestPart_35 rfl ?_
      refine ex_callVi [(0, x1), (0, x5), (0, x2)] [(0, x2), (0, x5), (0, x1), (2, x0)] hΦ lkV_X7_388 ⟨by decide, by decide⟩ (Nat.le_of_ble_eq_true rfl) rfl (by decide) 7 (by decide) rfl o6 dX7_greatestPart_36 rfl h (fun r7 μ7 h => ?_)
      refine ex_istore (L' := [some (2, x0), some (0, x1), some (0, x2), some (0, x3), some (0, x4), some (0, x5), some (0, r7)]) hΦ dX7_greatestPart_39 (by decide) rfl ?_
      refine ex_aload_n hΦ dX7_greatestPart_41 rfl o6.1 ?_
      refine ex_getf hΦ fl_X7_72 o6 dX7_greatestPart_42 ?_
      refine ex_iload hΦ dX7_greatestPart_45 rfl ?_
      refine ex_dup2 hΦ dX7_greatestPart_47 (Nat.ne_of_beq_eq_false rfl) (Nat.ne_of_beq_eq_false rfl) ?_
      obtain ⟨o8, h⟩ := h
      refine ex_iald' hΦ o8 dX7_greatestPart_48 ?_
      refine ex_iconst hΦ dX7_greatestPart_49 ?_
      refine ex_iadd hΦ dX7_greatestPart_50 ?_
      obtain ⟨m9, hm9⟩ : ∃ m : Mem, m = mu μ7 (μ7 x0 11) r7 ((μ7 (μ7 x0 11) r7) + 1) := ⟨_, rfl⟩
      have h := h m9 hm9
      refine ex_iast'' hΦ o8 dX7_greatestPart_51 hm9 ?_
      refine ex_iload hΦ dX7_greatestPart_52 rfl ?_
      refine ex_aload_n hΦ dX7_greatestPart_54 rfl o6.1 ?_
      refine ex_getf hΦ fl_X7_72 o6 dX7_greatestPart_55 ?_
      refine ex_iload hΦ dX7_greatestPart_58 rfl ?_
      obtain ⟨o10, h⟩ := h
      refine ex_iald' hΦ o10 dX7_greatestPart_60 ?_
      obtain ⟨o11, h⟩ := h
      obtain ⟨o12, h⟩ := h
      refine ex_mmax hΦ qw813 qw299 qw91 qw300 ⟨by decide, by decide⟩ ⟨by decide, by decide⟩ (Nat.le_of_ble_eq_true rfl) o11 o12 dX7_greatestPart_61 ?_
      refine ex_istore (L' := [some (2, x0), some (0, x1), some (0, x2), some (0, x3), some (0, (if x4 < (m9 (m9 x0 11) r7) then (m9 (m9 x0 11) r7) else x4)), some (0, x5), some (0, r7)]) hΦ dX7_greatestPart_64 (by decide) rfl ?_
      refine ex_iinc (L' := [some (2, x0), some (0, x1), some (0, x2), some (0, x3), some (0, (if x4 < (m9 (m9 x0 11) r7) then (m9 (m9 x0 11) r7) else x4)), some (0, (x5 + 1)), some (0, r7)]) hΦ dX7_greatestPart_66 rfl (by decide) rfl ?_
      refine ex_goto 14 hΦ dX7_greatestPart_69 (by decide) ?_
      refine ex_forget (L' := [some (2, x0), some (0, x1), some (0, x2), some (0, x3), some (0, (if x4 < (m9 (m9 x0 11) r7) then (m9 (m9 x0 11) r7) else x4)), some (0, (x5 + 1)), none]) [6] rfl ?_
      exact h
theorem eX7_greatestPart {G : Gm} {S : List Sh} {μ : Mem} {Q : Int → Mem → Prop} {x0 x1 x2 x3 : Int} (h : ∀ Φ : Fr, St G Φ cX7_greatestPart RX7 7 5 118 0 0 → Rt G Φ (Pi S Q) 0 0 (some .int) → Ex G Φ 7 0 [some (2, x0), some (0, x1), some (0, x2), some (0, x3), none, none, none] [] S μ 0 0) : Ci G mX7_greatestPart [(2, x0), (0, x1), (0, x2), (0, x3)] S μ Q :=
  call_of' (plainFor_of_name (by decide +kernel)) [some (2, x0), some (0, x1), some (0, x2), some (0, x3), none, none, none] rfl (Nat.le_of_ble_eq_true rfl) (fun Φ hΦ hR => h Φ hΦ hR)
theorem bX7_greatestPart_0 {G : Gm} {Φ : Fr} {S : List Sh} {μ : Mem} {Q : Int → Mem → Prop} (hΦ : St G Φ cX7_greatestPart RX7 7 5 118 0 0) (hR : Rt G Φ (Pi S Q) 0 0 (some .int)) {x0 x1 x2 x3 : Int} (h : So S x0 (.inl 7) ∧ Cv G mJ7_fill_53178 [(2, (μ x0 11)), (0, 0)] S μ (fun μ2 => Ex G Φ 7 14 [some (2, x0), some (0, x1), some (0, x2), some (0, x3), some (0, 0), some (0, 3), none] [] S μ2 0 0)) : Ex G Φ 7 0 [some (2, x0), some (0, x1), some (0, x2), some (0, x3), none, none, none] [] S μ 0 0 := by
  obtain ⟨o1, h⟩ := h
  refine ex_aload_n hΦ dX7_greatestPart_0 rfl o1.1 ?_
  refine ex_getf hΦ fl_X7_72 o1 dX7_greatestPart_1 ?_
  refine ex_iconst hΦ dX7_greatestPart_4 ?_
  refine ex_callSv [(2, (μ x0 11)), (0, 0)] [(0, 0), (2, (μ x0 11))] hΦ lkS_X7_371 ⟨by decide, by decide⟩ (Nat.le_of_ble_eq_true rfl) rfl (by decide) dX7_greatestPart_5 rfl h (fun μ2 h => ?_)
  refine ex_iconst hΦ dX7_greatestPart_8 ?_
  refine ex_istore (L' := [some (2, x0), some (0, x1), some (0, x2), some (0, x3), some (0, 0), none, none]) hΦ dX7_greatestPart_9 (by decide) rfl ?_
  refine ex_iconst hΦ dX7_greatestPart_11 ?_
  refine ex_istore (L' := [some (2, x0), some (0, x1), some (0, x2), some (0, x3), some (0, 0), some (0, 3), none]) hΦ dX7_greatestPart_12 (by decide) rfl ?_
  exact h
theorem eX7_floorPart {G : Gm} {S : List Sh} {μ : Mem} {Q : Int → Mem → Prop} {x0 x2 : Int} (h : ∀ Φ : Fr, St G Φ cX7_floorPart RX7 4 1 25 0 0 → Rt G Φ (Pj S Q) 0 0 (some .long) → Ex G Φ 4 0 [some (1, x0), none, some (1, x2), none] [] S μ 0 0) : Cj G mX7_floorPart [(1, x0), (1, x2)] S μ Q :=
  call_of' (plainFor_of_name (by decide +kernel)) [some (1, x0), none, some (1, x2), none] rfl (Nat.le_of_ble_eq_true rfl) (fun Φ hΦ hR => h Φ hΦ hR)
theorem bX7_floorPart_0 {G : Gm} {Φ : Fr} {S : List Sh} {μ : Mem} {Q : Int → Mem → Prop} (hΦ : St G Φ cX7_floorPart RX7 4 1 25 0 0) (hR : Rt G Φ (Pj S Q) 0 0 (some .long)) {x0 x2 : Int} (h : R64 x2 ∧ ((x2 ≠ 0 → Cj G mJ9_floorDiv_f86c9 [(1, x0), (1, x2)] S μ (fun r2 μ2 => Q r2 μ2)) ∧ (x2 = 0 → Q 0 μ))) : Ex G Φ 4 0 [some (1, x0), none, some (1, x2), none] [] S μ 0 0 := by
  refine ex_lload_n hΦ dX7_floorPart_0 rfl ?_
  refine ex_lconst (x := 0) hΦ dX7_floorPart_1 (by decide) ?_
  obtain ⟨o1, h⟩ := h
  refine ex_lcmp hΦ dX7_floorPart_2 o1 ⟨by decide, by decide⟩ ?_
  refine ex_lif_ne 10 hΦ dX7_floorPart_3 (by decide) (fun c => ?_) (fun c => ?_)
  · have h := h.1 c
    refine ex_lload_n hΦ dX7_floorPart_10 rfl ?_
    refine ex_lload_n hΦ dX7_floorPart_11 rfl ?_
    refine ex_callSj [(1, x0), (1, x2)] [(1, x2), (1, x0)] hΦ lkS_X7_394 ⟨by decide, by decide⟩ (Nat.le_of_ble_eq_true rfl) rfl (by decide) dX7_floorPart_12 rfl h (fun r2 μ2 h => ?_)
    exact ex_returnj hΦ hR dX7_floorPart_15 h
  · have h := h.2 c
    refine ex_lconst (x := 0) hΦ dX7_floorPart_6 (by decide) ?_
    refine ex_goto 15 hΦ dX7_floorPart_7 (by decide) ?_
    exact ex_returnj hΦ hR dX7_floorPart_15 h
theorem eX7_leftOver {G : Gm} {S : List Sh} {μ : Mem} {Q : Int → Mem → Prop} {x0 x2 : Int} (h : ∀ Φ : Fr, St G Φ cX7_leftOver RX7 4 1 25 0 0 → Rt G Φ (Pj S Q) 0 0 (some .long) → Ex G Φ 4 0 [some (1, x0), none, some (1, x2), none] [] S μ 0 0) : Cj G mX7_leftOver [(1, x0), (1, x2)] S μ Q :=
  call_of' (plainFor_of_name (by decide +kernel)) [some (1, x0), none, some (1, x2), none] rfl (Nat.le_of_ble_eq_true rfl) (fun Φ hΦ hR => h Φ hΦ hR)
theorem bX7_leftOver_0 {G : Gm} {Φ : Fr} {S : List Sh} {μ : Mem} {Q : Int → Mem → Prop} (hΦ : St G Φ cX7_leftOver RX7 4 1 25 0 0) (hR : Rt G Φ (Pj S Q) 0 0 (some .long)) {x0 x2 : Int} (h : R64 x2 ∧ ((1 ≤ x2 → Cj G mJ9_floorMod_f86c9 [(1, x0), (1, x2)] S μ (fun r2 μ2 => Q r2 μ2)) ∧ (¬ (1 ≤ x2) → Q 0 μ))) : Ex G Φ 4 0 [some (1, x0), none, some (1, x2), none] [] S μ 0 0 := by
  refine ex_lload_n hΦ dX7_leftOver_0 rfl ?_
  refine ex_lconst (x := 1) hΦ dX7_leftOver_1 (by decide) ?_
  obtain ⟨o1, h⟩ := h
  refine ex_lcmp hΦ dX7_leftOver_2 o1 ⟨by decide, by decide⟩ ?_
  refine ex_lif_ge 10 hΦ dX7_leftOver_3 (by decide) (fun c => ?_) (fun c => ?_)
  · have h := h.1 c
    refine ex_lload_n hΦ dX7_leftOver_10 rfl ?_
    refine ex_lload_n hΦ dX7_leftOver_11 rfl ?_
    refine ex_callSj [(1, x0), (1, x2)] [(1, x2), (1, x0)] hΦ lkS_X7_397 ⟨by decide, by decide⟩ (Nat.le_of_ble_eq_true rfl) rfl (by decide) dX7_leftOver_12 rfl h (fun r2 μ2 h => ?_)
    exact ex_returnj hΦ hR dX7_leftOver_15 h
  · have h := h.2 c
    refine ex_lconst (x := 0) hΦ dX7_leftOver_6 (by decide) ?_
    refine ex_goto 15 hΦ dX7_leftOver_7 (by decide) ?_
    exact ex_returnj hΦ hR dX7_leftOver_15 h
theorem bX7_common_15 {G : Gm} {Φ : Fr} {S : List Sh} {μ : Mem} {Q : Int → Mem → Prop} (hΦ : St G Φ cX7_common RX7 11 1 23 0 0) (hR : Rt G Φ (Pj S Q) 0 0 (some .long)) {x0 x2 x4 x6 x8 : Int} (h : R32 x8 ∧ ((100 ≤ x8 → R64 x4 ∧ Q (if 1 < x4 then x4 else 1) μ) ∧ (¬ (100 ≤ x8) → R64 x6 ∧ ((x6 = 0 → R64 x4 ∧ Q (if 1 < x4 then x4 else 1) μ) ∧ (¬ (x6 = 0) → R64 x4 ∧ (x6 ≠ 0 ∧ Ex G Φ 11 15 [some (1, x0), none, some (1, x2), none, some (1, x6), none, some (1, (Int.tmod x4 x6)), none, some (0, (x8 + 1)), none, none] [] S μ 0 0)))))) : Ex G Φ 11 15 [some (1, x0), none, some (1, x2), none, some (1, x4), none, some (1, x6), none, some (0, x8), none, none] [] S μ 0 0 := by
  refine ex_iload hΦ dX7_common_15 rfl ?_
  refine ex_bipush hΦ dX7_common_17 (by decide) ?_
  obtain ⟨o1, h⟩ := h
  refine ex_icmp_ge 50 hΦ dX7_common_19 (by decide) o1 ⟨by decide, by decide⟩ (fun c => ?_) (fun c => ?_)
  · have h := h.1 c
    refine ex_lload hΦ dX7_common_50 rfl ?_
    refine ex_lconst (x := 1) hΦ dX7_common_52 (by decide) ?_
    obtain ⟨o2, h⟩ := h
    refine ex_mmax_long hΦ qw505 qw506 qw91 qw507 ⟨by decide, by decide⟩ ⟨by decide, by decide⟩ (Nat.le_of_ble_eq_true rfl) o2 ⟨by decide, by decide⟩ dX7_common_53 ?_
    exact ex_returnj hΦ hR dX7_common_56 h
  · have h := h.2 c
    refine ex_lload hΦ dX7_common_22 rfl ?_
    refine ex_lconst (x := 0) hΦ dX7_common_24 (by decide) ?_
    obtain ⟨o3, h⟩ := h
    refine ex_lcmp hΦ dX7_common_25 o3 ⟨by decide, by decide⟩ ?_
    refine ex_lif_eq 50 hΦ dX7_common_26 (by decide) (fun c => ?_) (fun c => ?_)
    · have h := h.1 c
      refine ex_lload hΦ dX7_common_50 rfl ?_
      refine ex_lconst (x := 1) hΦ dX7_common_52 (by decide) ?_
      obtain ⟨o4, h⟩ := h
      refine ex_mmax_long hΦ qw505 qw506 qw91 qw507 ⟨by decide, by decide⟩ ⟨by decide, by decide⟩ (Nat.le_of_ble_eq_true rfl) o4 ⟨by decide, by decide⟩ dX7_common_53 ?_
      exact ex_returnj hΦ hR dX7_common_56 h
    · have h := h.2 c
      refine ex_lload hΦ dX7_common_29 rfl ?_
      refine ex_lload hΦ dX7_common_31 rfl ?_
      obtain ⟨o5, h⟩ := h
      obtain ⟨o6, h⟩ := h
      refine ex_lrem hΦ dX7_common_33 o5 o3 o6 ?_
      refine ex_lstore (L' := [some (1, x0), none, some (1, x2), none, some (1, x4), none, some (1, x6), none, some (0, x8), some (1, (Int.tmod x4 x6)), none]) hΦ dX7_common_34 (by decide) rfl ?_
      refine ex_lload hΦ dX7_common_36 rfl ?_
      refine ex_lstore (L' := [some (1, x0), none, some (1, x2), none, some (1, x6), none, some (1, x6), none, some (0, x8), some (1, (Int.tmod x4 x6)), none]) hΦ dX7_common_38 (by decide) rfl ?_
      refine ex_lload hΦ dX7_common_40 rfl ?_
      refine ex_lstore (L' := [some (1, x0), none, some (1, x2), none, some (1, x6), none, some (1, (Int.tmod x4 x6)), none, some (0, x8), some (1, (Int.tmod x4 x6)), none]) hΦ dX7_common_42 (by decide) rfl ?_
      refine ex_iinc (L' := [some (1, x0), none, some (1, x2), none, some (1, x6), none, some (1, (Int.tmod x4 x6)), none, some (0, (x8 + 1)), some (1, (Int.tmod x4 x6)), none]) hΦ dX7_common_44 rfl (by decide) rfl ?_
      refine ex_goto 15 hΦ dX7_common_47 (by decide) ?_
      refine ex_forget (L' := [some (1, x0), none, some (1, x2), none, some (1, x6), none, some (1, (Int.tmod x4 x6)), none, some (0, (x8 + 1)), none, none]) [9] rfl ?_
      exact h
theorem eX7_common {G : Gm} {S : List Sh} {μ : Mem} {Q : Int → Mem → Prop} {x0 x2 : Int} (h : ∀ Φ : Fr, St G Φ cX7_common RX7 11 1 23 0 0 → Rt G Φ (Pj S Q) 0 0 (some .long) → Ex G Φ 11 0 [some (1, x0), none, some (1, x2), none, none, none, none, none, none, none, none] [] S μ 0 0) : Cj G mX7_common [(1, x0), (1, x2)] S μ Q :=
  call_of' (plainFor_of_name (by decide +kernel)) [some (1, x0), none, some (1, x2), none, none, none, none, none, none, none, none] rfl (Nat.le_of_ble_eq_true rfl) (fun Φ hΦ hR => h Φ hΦ hR)
theorem bX7_common_0 {G : Gm} {Φ : Fr} {S : List Sh} {μ : Mem} {Q : Int → Mem → Prop} (hΦ : St G Φ cX7_common RX7 11 1 23 0 0) (hR : Rt G Φ (Pj S Q) 0 0 (some .long)) {x0 x2 : Int} (h : R64 x0 ∧ (R64 x2 ∧ Ex G Φ 11 15 [some (1, x0), none, some (1, x2), none, some (1, (if 0 < x0 then x0 else -x0)), none, some (1, (if 0 < x2 then x2 else -x2)), none, some (0, 0), none, none] [] S μ 0 0)) : Ex G Φ 11 0 [some (1, x0), none, some (1, x2), none, none, none, none, none, none, none, none] [] S μ 0 0 := by
  refine ex_lload_n hΦ dX7_common_0 rfl ?_
  obtain ⟨o1, h⟩ := h
  refine ex_mabs_long hΦ qw502 qw503 qw91 qw504 ⟨by decide, by decide⟩ ⟨by decide, by decide⟩ (Nat.le_of_ble_eq_true rfl) o1 dX7_common_1 ?_
  refine ex_lstore (L' := [some (1, x0), none, some (1, x2), none, some (1, (if 0 < x0 then x0 else -x0)), none, none, none, none, none, none]) hΦ dX7_common_4 (by decide) rfl ?_
  refine ex_lload_n hΦ dX7_common_6 rfl ?_
  obtain ⟨o2, h⟩ := h
  refine ex_mabs_long hΦ qw502 qw503 qw91 qw504 ⟨by decide, by decide⟩ ⟨by decide, by decide⟩ (Nat.le_of_ble_eq_true rfl) o2 dX7_common_7 ?_
  refine ex_lstore (L' := [some (1, x0), none, some (1, x2), none, some (1, (if 0 < x0 then x0 else -x0)), none, some (1, (if 0 < x2 then x2 else -x2)), none, none, none, none]) hΦ dX7_common_10 (by decide) rfl ?_
  refine ex_iconst hΦ dX7_common_12 ?_
  refine ex_istore (L' := [some (1, x0), none, some (1, x2), none, some (1, (if 0 < x0 then x0 else -x0)), none, some (1, (if 0 < x2 then x2 else -x2)), none, some (0, 0), none, none]) hΦ dX7_common_13 (by decide) rfl ?_
  exact h
