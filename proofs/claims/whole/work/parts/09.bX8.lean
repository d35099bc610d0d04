theorem eX8_in {G : Gm} {S : List Sh} {μ : Mem} {Q : Int → Mem → Prop} {x0 x2 x4 : Int} (h : ∀ Φ : Fr, St G Φ cX8_in RX8 6 0 0 0 0 → Rt G Φ (Pi S Q) 0 0 (some .boolean) → Ex G Φ 6 0 [some (1, x0), none, some (1, x2), none, some (1, x4), none] [] S μ 0 0) : Ci G mX8_in [(1, x0), (1, x2), (1, x4)] S μ Q :=
  call_of' (plainFor_of_name (by decide +kernel)) [some (1, x0), none, some (1, x2), none, some (1, x4), none] rfl (Nat.le_of_ble_eq_true rfl) (fun Φ hΦ hR => h Φ hΦ hR)
theorem bX8_in_0 {G : Gm} {Φ : Fr} {S : List Sh} {μ : Mem} {Q : Int → Mem → Prop} (hΦ : St G Φ cX8_in RX8 6 0 0 0 0) (hR : Rt G Φ (Pi S Q) 0 0 (some .boolean)) {x0 x2 x4 : Int} (h : R64 x0 ∧ (R64 x2 ∧ ((x0 < x2 → Q 0 μ) ∧ (¬ (x0 < x2) → R64 x4 ∧ ((x4 < x0 → Q 0 μ) ∧ (¬ (x4 < x0) → Q 1 μ)))))) : Ex G Φ 6 0 [some (1, x0), none, some (1, x2), none, some (1, x4), none] [] S μ 0 0 := by
  refine ex_lload_n hΦ dX8_in_0 rfl ?_
  refine ex_lload_n hΦ dX8_in_1 rfl ?_
  obtain ⟨o1, h⟩ := h
  obtain ⟨o2, h⟩ := h
  refine ex_lcmp hΦ dX8_in_2 o1 o2 ?_
  refine ex_lif_lt 17 hΦ dX8_in_3 (by decide) (fun c => ?_) (fun c => ?_)
  · have h := h.1 c
    refine ex_iconst hΦ dX8_in_17 ?_
    exact ex_returnz hΦ hR (by decide) (by decide) dX8_in_18 h
  · have h := h.2 c
    refine ex_lload_n hΦ dX8_in_6 rfl ?_
    refine ex_lload hΦ dX8_in_7 rfl ?_
    obtain ⟨o3, h⟩ := h
    refine ex_lcmp hΦ dX8_in_9 o1 o3 ?_
    refine ex_lif_gt 17 hΦ dX8_in_10 (by decide) (fun c => ?_) (fun c => ?_)
    · have h := h.1 c
      refine ex_iconst hΦ dX8_in_17 ?_
      exact ex_returnz hΦ hR (by decide) (by decide) dX8_in_18 h
    · have h := h.2 c
      refine ex_iconst hΦ dX8_in_13 ?_
      refine ex_goto 18 hΦ dX8_in_14 (by decide) ?_
      exact ex_returnz hΦ hR (by decide) (by decide) dX8_in_18 h
theorem eX8_one {G : Gm} {S : List Sh} {μ : Mem} {Q : Int → Mem → Prop} {x0 : Int} (h : ∀ Φ : Fr, St G Φ cX8_one RX8 1 0 0 0 0 → Rt G Φ (Pi S Q) 0 0 (some .int) → Ex G Φ 1 0 [some (0, x0)] [] S μ 0 0) : Ci G mX8_one [(0, x0)] S μ Q :=
  call_of' (plainFor_of_name (by decide +kernel)) [some (0, x0)] rfl (Nat.le_of_ble_eq_true rfl) (fun Φ hΦ hR => h Φ hΦ hR)
theorem bX8_one_0 {G : Gm} {Φ : Fr} {S : List Sh} {μ : Mem} {Q : Int → Mem → Prop} (hΦ : St G Φ cX8_one RX8 1 0 0 0 0) (hR : Rt G Φ (Pi S Q) 0 0 (some .int)) {x0 : Int} (h : R32 x0 ∧ ((x0 = 0 → Q 0 μ) ∧ (¬ (x0 = 0) → Q 1 μ))) : Ex G Φ 1 0 [some (0, x0)] [] S μ 0 0 := by
  refine ex_iload_n hΦ dX8_one_0 rfl ?_
  obtain ⟨o1, h⟩ := h
  refine ex_if_eq 8 hΦ dX8_one_1 (by decide) o1 (fun c => ?_) (fun c => ?_)
  · have h := h.1 c
    refine ex_iconst hΦ dX8_one_8 ?_
    exact ex_returni hΦ hR dX8_one_9 h
  · have h := h.2 c
    refine ex_iconst hΦ dX8_one_4 ?_
    refine ex_goto 9 hΦ dX8_one_5 (by decide) ?_
    exact ex_returni hΦ hR dX8_one_9 h
theorem eX8_has {G : Gm} {S : List Sh} {μ : Mem} {Q : Int → Mem → Prop} {x0 x1 : Int} (h : ∀ Φ : Fr, St G Φ cX8_has RX8 2 0 0 0 0 → Rt G Φ (Pi S Q) 0 0 (some .boolean) → Ex G Φ 2 0 [some (0, x0), some (0, x1)] [] S μ 0 0) : Ci G mX8_has [(0, x0), (0, x1)] S μ Q :=
  call_of' (plainFor_of_name (by decide +kernel)) [some (0, x0), some (0, x1)] rfl (Nat.le_of_ble_eq_true rfl) (fun Φ hΦ hR => h Φ hΦ hR)
theorem bX8_has_0 {G : Gm} {Φ : Fr} {S : List Sh} {μ : Mem} {Q : Int → Mem → Prop} (hΦ : St G Φ cX8_has RX8 2 0 0 0 0) (hR : Rt G Φ (Pi S Q) 0 0 (some .boolean)) {x0 x1 : Int} (h : R32 x0 ∧ (0 ≤ x1 ∧ (x1 ≤ 31 ∧ (R32 ((x0 / 2 ^ (Int.toNat x1)) % 2) ∧ ((((x0 / 2 ^ (Int.toNat x1)) % 2) ≠ 1 → Q 0 μ) ∧ (((x0 / 2 ^ (Int.toNat x1)) % 2) = 1 → Q 1 μ)))))) : Ex G Φ 2 0 [some (0, x0), some (0, x1)] [] S μ 0 0 := by
  refine ex_iload_n hΦ dX8_has_0 rfl ?_
  refine ex_iload_n hΦ dX8_has_1 rfl ?_
  obtain ⟨o1, h⟩ := h
  obtain ⟨o2, h⟩ := h
  obtain ⟨o3, h⟩ := h
  refine ex_ishr hΦ dX8_has_2 o1 o2 o3 ?_
  refine ex_iconst hΦ dX8_has_3 ?_
  refine ex_iand1 hΦ dX8_has_4 ?_
  refine ex_iconst hΦ dX8_has_5 ?_
  obtain ⟨o4, h⟩ := h
  refine ex_icmp_ne 13 hΦ dX8_has_6 (by decide) o4 ⟨by decide, by decide⟩ (fun c => ?_) (fun c => ?_)
  · have h := h.1 c
    refine ex_iconst hΦ dX8_has_13 ?_
    exact ex_returnz hΦ hR (by decide) (by decide) dX8_has_14 h
  · have h := h.2 c
    refine ex_iconst hΦ dX8_has_9 ?_
    refine ex_goto 14 hΦ dX8_has_10 (by decide) ?_
    exact ex_returnz hΦ hR (by decide) (by decide) dX8_has_14 h
theorem bX8_ones_4 {G : Gm} {Φ : Fr} {S : List Sh} {μ : Mem} {Q : Int → Mem → Prop} (hΦ : St G Φ cX8_ones RX8 3 0 0 0 0) (hR : Rt G Φ (Pi S Q) 0 0 (some .int)) {x0 x1 x2 : Int} (h : R32 x2 ∧ ((10 ≤ x2 → Q x1 μ) ∧ (¬ (10 ≤ x2) → R32 x0 ∧ (0 ≤ x2 ∧ (x2 ≤ 31 ∧ Ex G Φ 3 4 [some (0, x0), some (0, (x1 + ((x0 / 2 ^ (Int.toNat x2)) % 2))), some (0, (x2 + 1))] [] S μ 0 0))))) : Ex G Φ 3 4 [some (0, x0), some (0, x1), some (0, x2)] [] S μ 0 0 := by
  refine ex_iload_n hΦ dX8_ones_4 rfl ?_
  refine ex_bipush hΦ dX8_ones_5 (by decide) ?_
  obtain ⟨o1, h⟩ := h
  refine ex_icmp_ge 24 hΦ dX8_ones_7 (by decide) o1 ⟨by decide, by decide⟩ (fun c => ?_) (fun c => ?_)
  · have h := h.1 c
    refine ex_iload_n hΦ dX8_ones_24 rfl ?_
    exact ex_returni hΦ hR dX8_ones_25 h
  · have h := h.2 c
    refine ex_iload_n hΦ dX8_ones_10 rfl ?_
    refine ex_iload_n hΦ dX8_ones_11 rfl ?_
    refine ex_iload_n hΦ dX8_ones_12 rfl ?_
    obtain ⟨o2, h⟩ := h
    obtain ⟨o3, h⟩ := h
    obtain ⟨o4, h⟩ := h
    refine ex_ishr hΦ dX8_ones_13 o2 o3 o4 ?_
    refine ex_iconst hΦ dX8_ones_14 ?_
    refine ex_iand1 hΦ dX8_ones_15 ?_
    refine ex_iadd hΦ dX8_ones_16 ?_
    refine ex_istore_n (L' := [some (0, x0), some (0, (x1 + ((x0 / 2 ^ (Int.toNat x2)) % 2))), some (0, x2)]) hΦ dX8_ones_17 (by decide) rfl ?_
    refine ex_iinc (L' := [some (0, x0), some (0, (x1 + ((x0 / 2 ^ (Int.toNat x2)) % 2))), some (0, (x2 + 1))]) hΦ dX8_ones_18 rfl (by decide) rfl ?_
    refine ex_goto 4 hΦ dX8_ones_21 (by decide) ?_
    exact h
theorem eX8_ones {G : Gm} {S : List Sh} {μ : Mem} {Q : Int → Mem → Prop} {x0 : Int} (h : ∀ Φ : Fr, St G Φ cX8_ones RX8 3 0 0 0 0 → Rt G Φ (Pi S Q) 0 0 (some .int) → Ex G Φ 3 0 [some (0, x0), none, none] [] S μ 0 0) : Ci G mX8_ones [(0, x0)] S μ Q :=
  call_of' (plainFor_of_name (by decide +kernel)) [some (0, x0), none, none] rfl (Nat.le_of_ble_eq_true rfl) (fun Φ hΦ hR => h Φ hΦ hR)
theorem bX8_ones_0 {G : Gm} {Φ : Fr} {S : List Sh} {μ : Mem} {Q : Int → Mem → Prop} (hΦ : St G Φ cX8_ones RX8 3 0 0 0 0) (hR : Rt G Φ (Pi S Q) 0 0 (some .int)) {x0 : Int} (h : Ex G Φ 3 4 [some (0, x0), some (0, 0), some (0, 0)] [] S μ 0 0) : Ex G Φ 3 0 [some (0, x0), none, none] [] S μ 0 0 := by
  refine ex_iconst hΦ dX8_ones_0 ?_
  refine ex_istore_n (L' := [some (0, x0), some (0, 0), none]) hΦ dX8_ones_1 (by decide) rfl ?_
  refine ex_iconst hΦ dX8_ones_2 ?_
  refine ex_istore_n (L' := [some (0, x0), some (0, 0), some (0, 0)]) hΦ dX8_ones_3 (by decide) rfl ?_
  exact h
theorem eX8_size {G : Gm} {S : List Sh} {μ : Mem} {Q : Int → Mem → Prop} {x0 : Int} (h : ∀ Φ : Fr, St G Φ cX8_size RX8 2 0 0 0 0 → Rt G Φ (Pj S Q) 0 0 (some .long) → Ex G Φ 2 0 [some (1, x0), none] [] S μ 0 0) : Cj G mX8_size [(1, x0)] S μ Q :=
  call_of' (plainFor_of_name (by decide +kernel)) [some (1, x0), none] rfl (Nat.le_of_ble_eq_true rfl) (fun Φ hΦ hR => h Φ hΦ hR)
theorem bX8_size_0 {G : Gm} {Φ : Fr} {S : List Sh} {μ : Mem} {Q : Int → Mem → Prop} (hΦ : St G Φ cX8_size RX8 2 0 0 0 0) (hR : Rt G Φ (Pj S Q) 0 0 (some .long)) {x0 : Int} (h : R64 x0 ∧ ((0 ≤ x0 → Q x0 μ) ∧ (¬ (0 ≤ x0) → Q (-x0) μ))) : Ex G Φ 2 0 [some (1, x0), none] [] S μ 0 0 := by
  refine ex_lload_n hΦ dX8_size_0 rfl ?_
  refine ex_lconst (x := 0) hΦ dX8_size_1 (by decide) ?_
  obtain ⟨o1, h⟩ := h
  refine ex_lcmp hΦ dX8_size_2 o1 ⟨by decide, by decide⟩ ?_
  refine ex_lif_ge 11 hΦ dX8_size_3 (by decide) (fun c => ?_) (fun c => ?_)
  · have h := h.1 c
    refine ex_lload_n hΦ dX8_size_11 rfl ?_
    exact ex_returnj hΦ hR dX8_size_12 h
  · have h := h.2 c
    refine ex_lload_n hΦ dX8_size_6 rfl ?_
    refine ex_lneg hΦ dX8_size_7 ?_
    refine ex_goto 12 hΦ dX8_size_8 (by decide) ?_
    exact ex_returnj hΦ hR dX8_size_12 h
theorem bX8_common_12 {G : Gm} {Φ : Fr} {S : List Sh} {μ : Mem} {Q : Int → Mem → Prop} (hΦ : St G Φ cX8_common RX8 10 1 21 0 0) (hR : Rt G Φ (Pj S Q) 0 0 (some .long)) {x0 x2 x4 x6 : Int} (h : R64 x6 ∧ ((x6 ≤ 0 → Q x4 μ) ∧ (¬ (x6 ≤ 0) → R64 x4 ∧ (x6 ≠ 0 ∧ Ex G Φ 10 12 [some (1, x0), none, some (1, x2), none, some (1, x6), none, some (1, (Int.tmod x4 x6)), none, none, none] [] S μ 0 0)))) : Ex G Φ 10 12 [some (1, x0), none, some (1, x2), none, some (1, x4), none, some (1, x6), none, none, none] [] S μ 0 0 := by
  refine ex_lload hΦ dX8_common_12 rfl ?_
  refine ex_lconst (x := 0) hΦ dX8_common_14 (by decide) ?_
  obtain ⟨o1, h⟩ := h
  refine ex_lcmp hΦ dX8_common_15 o1 ⟨by decide, by decide⟩ ?_
  refine ex_lif_le 37 hΦ dX8_common_16 (by decide) (fun c => ?_) (fun c => ?_)
  · have h := h.1 c
    refine ex_lload hΦ dX8_common_37 rfl ?_
    exact ex_returnj hΦ hR dX8_common_39 h
  · have h := h.2 c
    refine ex_lload hΦ dX8_common_19 rfl ?_
    refine ex_lload hΦ dX8_common_21 rfl ?_
    obtain ⟨o2, h⟩ := h
    obtain ⟨o3, h⟩ := h
    refine ex_lrem hΦ dX8_common_23 o2 o1 o3 ?_
    refine ex_lstore (L' := [some (1, x0), none, some (1, x2), none, some (1, x4), none, some (1, x6), none, some (1, (Int.tmod x4 x6)), none]) hΦ dX8_common_24 (by decide) rfl ?_
    refine ex_lload hΦ dX8_common_26 rfl ?_
    refine ex_lstore (L' := [some (1, x0), none, some (1, x2), none, some (1, x6), none, some (1, x6), none, some (1, (Int.tmod x4 x6)), none]) hΦ dX8_common_28 (by decide) rfl ?_
    refine ex_lload hΦ dX8_common_30 rfl ?_
    refine ex_lstore (L' := [some (1, x0), none, some (1, x2), none, some (1, x6), none, some (1, (Int.tmod x4 x6)), none, some (1, (Int.tmod x4 x6)), none]) hΦ dX8_common_32 (by decide) rfl ?_
    refine ex_goto 12 hΦ dX8_common_34 (by decide) ?_
    refine ex_forget (L' := [some (1, x0), none, some (1, x2), none, some (1, x6), none, some (1, (Int.tmod x4 x6)), none, none, none]) [8] rfl ?_
    exact h
theorem eX8_common {G : Gm} {S : List Sh} {μ : Mem} {Q : Int → Mem → Prop} {x0 x2 : Int} (h : ∀ Φ : Fr, St G Φ cX8_common RX8 10 1 21 0 0 → Rt G Φ (Pj S Q) 0 0 (some .long) → Ex G Φ 10 0 [some (1, x0), none, some (1, x2), none, none, none, none, none, none, none] [] S μ 0 0) : Cj G mX8_common [(1, x0), (1, x2)] S μ Q :=
  call_of' (plainFor_of_name (by decide +kernel)) [some (1, x0), none, some (1, x2), none, none, none, none, none, none, none] rfl (Nat.le_of_ble_eq_true rfl) (fun Φ hΦ hR => h Φ hΦ hR)
theorem bX8_common_0 {G : Gm} {Φ : Fr} {S : List Sh} {μ : Mem} {Q : Int → Mem → Prop} (hΦ : St G Φ cX8_common RX8 10 1 21 0 0) (hR : Rt G Φ (Pj S Q) 0 0 (some .long)) {x0 x2 : Int} (h : Cj G mX8_size [(1, x0)] S μ (fun r1 μ1 => Cj G mX8_size [(1, x2)] S μ1 (fun r2 μ2 => Ex G Φ 10 12 [some (1, x0), none, some (1, x2), none, some (1, r1), none, some (1, r2), none, none, none] [] S μ2 0 0))) : Ex G Φ 10 0 [some (1, x0), none, some (1, x2), none, none, none, none, none, none, none] [] S μ 0 0 := by
  refine ex_lload_n hΦ dX8_common_0 rfl ?_
  refine ex_callSj [(1, x0)] [(1, x0)] hΦ lkS_X8_85 ⟨by decide, by decide⟩ (Nat.le_of_ble_eq_true rfl) rfl (by decide) dX8_common_1 rfl h (fun r1 μ1 h => ?_)
  refine ex_lstore (L' := [some (1, x0), none, some (1, x2), none, some (1, r1), none, none, none, none, none]) hΦ dX8_common_4 (by decide) rfl ?_
  refine ex_lload_n hΦ dX8_common_6 rfl ?_
  refine ex_callSj [(1, x2)] [(1, x2)] hΦ lkS_X8_85 ⟨by decide, by decide⟩ (Nat.le_of_ble_eq_true rfl) rfl (by decide) dX8_common_7 rfl h (fun r2 μ2 h => ?_)
  refine ex_lstore (L' := [some (1, x0), none, some (1, x2), none, some (1, r1), none, some (1, r2), none, none, none]) hΦ dX8_common_10 (by decide) rfl ?_
  exact h
theorem eX8_down {G : Gm} {S : List Sh} {μ : Mem} {Q : Int → Mem → Prop} {x0 x2 : Int} (h : ∀ Φ : Fr, St G Φ cX8_down RX8 6 0 0 0 0 → Rt G Φ (Pj S Q) 0 0 (some .long) → Ex G Φ 6 0 [some (1, x0), none, some (1, x2), none, none, none] [] S μ 0 0) : Cj G mX8_down [(1, x0), (1, x2)] S μ Q :=
  call_of' (plainFor_of_name (by decide +kernel)) [some (1, x0), none, some (1, x2), none, none, none] rfl (Nat.le_of_ble_eq_true rfl) (fun Φ hΦ hR => h Φ hΦ hR)
theorem bX8_down_0 {G : Gm} {Φ : Fr} {S : List Sh} {μ : Mem} {Q : Int → Mem → Prop} (hΦ : St G Φ cX8_down RX8 6 0 0 0 0) (hR : Rt G Φ (Pj S Q) 0 0 (some .long)) {x0 x2 : Int} (h : R64 x0 ∧ (R64 x2 ∧ (x2 ≠ 0 ∧ (R64 (Int.tmod x0 x2) ∧ ((0 ≤ (Int.tmod x0 x2) → Q (Int.tdiv x0 x2) μ) ∧ (¬ (0 ≤ (Int.tmod x0 x2)) → Q ((Int.tdiv x0 x2) - 1) μ)))))) : Ex G Φ 6 0 [some (1, x0), none, some (1, x2), none, none, none] [] S μ 0 0 := by
  refine ex_lload_n hΦ dX8_down_0 rfl ?_
  refine ex_lload_n hΦ dX8_down_1 rfl ?_
  obtain ⟨o1, h⟩ := h
  obtain ⟨o2, h⟩ := h
  obtain ⟨o3, h⟩ := h
  refine ex_ldiv hΦ dX8_down_2 o1 o2 o3 ?_
  refine ex_lstore (L' := [some (1, x0), none, some (1, x2), none, some (1, (Int.tdiv x0 x2)), none]) hΦ dX8_down_3 (by decide) rfl ?_
  refine ex_lload_n hΦ dX8_down_5 rfl ?_
  refine ex_lload_n hΦ dX8_down_6 rfl ?_
  refine ex_lrem hΦ dX8_down_7 o1 o2 o3 ?_
  refine ex_lconst (x := 0) hΦ dX8_down_8 (by decide) ?_
  obtain ⟨o4, h⟩ := h
  refine ex_lcmp hΦ dX8_down_9 o4 ⟨by decide, by decide⟩ ?_
  refine ex_lif_ge 20 hΦ dX8_down_10 (by decide) (fun c => ?_) (fun c => ?_)
  · have h := h.1 c
    refine ex_lload hΦ dX8_down_20 rfl ?_
    exact ex_returnj hΦ hR dX8_down_22 h
  · have h := h.2 c
    refine ex_lload hΦ dX8_down_13 rfl ?_
    refine ex_lconst (x := 1) hΦ dX8_down_15 (by decide) ?_
    refine ex_lsub hΦ dX8_down_16 ?_
    refine ex_goto 22 hΦ dX8_down_17 (by decide) ?_
    exact ex_returnj hΦ hR dX8_down_22 h
theorem eX8_over {G : Gm} {S : List Sh} {μ : Mem} {Q : Int → Mem → Prop} {x0 x2 : Int} (h : ∀ Φ : Fr, St G Φ cX8_over RX8 5 0 0 0 0 → Rt G Φ (Pi S Q) 0 0 (some .int) → Ex G Φ 5 0 [some (1, x0), none, some (0, x2), none, none] [] S μ 0 0) : Ci G mX8_over [(1, x0), (0, x2)] S μ Q :=
  call_of' (plainFor_of_name (by decide +kernel)) [some (1, x0), none, some (0, x2), none, none] rfl (Nat.le_of_ble_eq_true rfl) (fun Φ hΦ hR => h Φ hΦ hR)
theorem bX8_over_0 {G : Gm} {Φ : Fr} {S : List Sh} {μ : Mem} {Q : Int → Mem → Prop} (hΦ : St G Φ cX8_over RX8 5 0 0 0 0) (hR : Rt G Φ (Pi S Q) 0 0 (some .int)) {x0 x2 : Int} (h : R32 x2 ∧ (R64 x0 ∧ (R64 x2 ∧ (x2 ≠ 0 ∧ (R64 (Int.tmod x0 x2) ∧ ((0 ≤ (Int.tmod x0 x2) → Q (Int.tmod x0 x2) μ) ∧ (¬ (0 ≤ (Int.tmod x0 x2)) → Q ((Int.tmod x0 x2) + x2) μ))))))) : Ex G Φ 5 0 [some (1, x0), none, some (0, x2), none, none] [] S μ 0 0 := by
  refine ex_lload_n hΦ dX8_over_0 rfl ?_
  refine ex_iload_n hΦ dX8_over_1 rfl ?_
  obtain ⟨o1, h⟩ := h
  refine ex_i2l hΦ dX8_over_2 o1 ?_
  obtain ⟨o2, h⟩ := h
  obtain ⟨o3, h⟩ := h
  obtain ⟨o4, h⟩ := h
  refine ex_lrem hΦ dX8_over_3 o2 o3 o4 ?_
  refine ex_lstore_n (L' := [some (1, x0), none, some (0, x2), some (1, (Int.tmod x0 x2)), none]) hΦ dX8_over_4 (by decide) rfl ?_
  refine ex_lload_n hΦ dX8_over_5 rfl ?_
  refine ex_lconst (x := 0) hΦ dX8_over_6 (by decide) ?_
  obtain ⟨o5, h⟩ := h
  refine ex_lcmp hΦ dX8_over_7 o5 ⟨by decide, by decide⟩ ?_
  refine ex_lif_ge 18 hΦ dX8_over_8 (by decide) (fun c => ?_) (fun c => ?_)
  · have h := h.1 c
    refine ex_lload_n hΦ dX8_over_18 rfl ?_
    refine ex_l2i hΦ dX8_over_19 ?_
    exact ex_returni hΦ hR dX8_over_20 h
  · have h := h.2 c
    refine ex_lload_n hΦ dX8_over_11 rfl ?_
    refine ex_iload_n hΦ dX8_over_12 rfl ?_
    refine ex_i2l hΦ dX8_over_13 o1 ?_
    refine ex_ladd hΦ dX8_over_14 ?_
    refine ex_goto 19 hΦ dX8_over_15 (by decide) ?_
    refine ex_l2i hΦ dX8_over_19 ?_
    exact ex_returni hΦ hR dX8_over_20 h
theorem eX8_feed {G : Gm} {S : List Sh} {μ : Mem} {Q : Int → Mem → Prop} {x0 x1 : Int} (h : ∀ Φ : Fr, St G Φ cX8_feed RX8 2 1 25 0 0 → Rt G Φ (Pi S Q) 0 0 (some .int) → Ex G Φ 2 0 [some (2, x0), some (0, x1)] [] S μ 0 0) : Ci G mX8_feed [(2, x0), (0, x1)] S μ Q :=
  call_of' (plainFor_of_name (by decide +kernel)) [some (2, x0), some (0, x1)] rfl (Nat.le_of_ble_eq_true rfl) (fun Φ hΦ hR => h Φ hΦ hR)
theorem bX8_feed_0 {G : Gm} {Φ : Fr} {S : List Sh} {μ : Mem} {Q : Int → Mem → Prop} (hΦ : St G Φ cX8_feed RX8 2 1 25 0 0) (hR : Rt G Φ (Pi S Q) 0 0 (some .int)) {x0 x1 : Int} (h : R32 x1 ∧ (Ci G mX8_in [(1, x1), (1, 0), (1, 255)] S μ (fun r2 μ2 => R32 r2 ∧ ((r2 ≠ 0 → So S x0 (.inl 8) ∧ (R32 (μ2 x0 22) ∧ (((μ2 x0 22) ≠ 250 → Ai S (μ2 x0 21) 0 (μ2 x0 22) ∧ (∀ m7 : Mem, m7 = mu μ2 (μ2 x0 21) (μ2 x0 22) x1 → (∀ m8 : Mem, m8 = mu m7 x0 22 ((m7 x0 22) + 1) → (Q (m8 x0 22) m8)))) ∧ ((μ2 x0 22) = 250 → Q (-1000000004) μ2)))) ∧ (r2 = 0 → Q (-1000000002) μ2))))) : Ex G Φ 2 0 [some (2, x0), some (0, x1)] [] S μ 0 0 := by
  refine ex_iload_n hΦ dX8_feed_0 rfl ?_
  obtain ⟨o1, h⟩ := h
  refine ex_i2l hΦ dX8_feed_1 o1 ?_
  refine ex_lconst (x := 0) hΦ dX8_feed_2 (by decide) ?_
  refine ex_ldc2 hΦ dX8_feed_3 qw980 ?_
  refine ex_callSi [(1, x1), (1, 0), (1, 255)] [(1, 255), (1, 0), (1, x1)] hΦ lkS_X8_91 ⟨by decide, by decide⟩ (Nat.le_of_ble_eq_true rfl) rfl (by decide) dX8_feed_6 rfl h (fun r2 μ2 h => ?_)
  obtain ⟨o3, h⟩ := h
  refine ex_if_ne 15 hΦ dX8_feed_9 (by decide) o3 (fun c => ?_) (fun c => ?_)
  · have h := h.1 c
    obtain ⟨o4, h⟩ := h
    refine ex_aload_n hΦ dX8_feed_15 rfl o4.1 ?_
    refine ex_getf hΦ fl_X8_96 o4 dX8_feed_16 ?_
    refine ex_sipush hΦ dX8_feed_19 (by decide) ?_
    obtain ⟨o5, h⟩ := h
    refine ex_icmp_ne 28 hΦ dX8_feed_22 (by decide) o5 ⟨by decide, by decide⟩ (fun c => ?_) (fun c => ?_)
    · have h := h.1 c
      refine ex_aload_n hΦ dX8_feed_28 rfl o4.1 ?_
      refine ex_getf hΦ fl_X8_45 o4 dX8_feed_29 ?_
      refine ex_aload_n hΦ dX8_feed_32 rfl o4.1 ?_
      refine ex_getf hΦ fl_X8_96 o4 dX8_feed_33 ?_
      refine ex_iload_n hΦ dX8_feed_36 rfl ?_
      obtain ⟨o6, h⟩ := h
      obtain ⟨m7, hm7⟩ : ∃ m : Mem, m = mu μ2 (μ2 x0 21) (μ2 x0 22) x1 := ⟨_, rfl⟩
      have h := h m7 hm7
      refine ex_iast'' hΦ o6 dX8_feed_37 hm7 ?_
      refine ex_aload_n hΦ dX8_feed_38 rfl o4.1 ?_
      refine ex_dup hΦ dX8_feed_39 (Nat.ne_of_beq_eq_false rfl) ?_
      refine ex_getf hΦ fl_X8_96 o4 dX8_feed_40 ?_
      refine ex_iconst hΦ dX8_feed_43 ?_
      refine ex_iadd hΦ dX8_feed_44 ?_
      obtain ⟨m8, hm8⟩ : ∃ m : Mem, m = mu m7 x0 22 ((m7 x0 22) + 1) := ⟨_, rfl⟩
      have h := h m8 hm8
      refine ex_putf' hΦ fl_X8_96 o4 rfl rfl dX8_feed_45 hm8 ?_
      refine ex_aload_n hΦ dX8_feed_48 rfl o4.1 ?_
      refine ex_getf hΦ fl_X8_96 o4 dX8_feed_49 ?_
      exact ex_returni hΦ hR dX8_feed_52 h
    · have h := h.2 c
      refine ex_ldc hΦ dX8_feed_25 qw985 ?_
      exact ex_returni hΦ hR dX8_feed_27 h
  · have h := h.2 c
    refine ex_ldc hΦ dX8_feed_12 qw984 ?_
    exact ex_returni hΦ hR dX8_feed_14 h
theorem eX8_here {G : Gm} {S : List Sh} {μ : Mem} {Q : Int → Mem → Prop} {x0 : Int} (h : ∀ Φ : Fr, St G Φ cX8_here RX8 1 0 0 0 0 → Rt G Φ (Pi S Q) 0 0 (some .int) → Ex G Φ 1 0 [some (2, x0)] [] S μ 0 0) : Ci G mX8_here [(2, x0)] S μ Q :=
  call_of' (plainFor_of_name (by decide +kernel)) [some (2, x0)] rfl (Nat.le_of_ble_eq_true rfl) (fun Φ hΦ hR => h Φ hΦ hR)
theorem bX8_here_0 {G : Gm} {Φ : Fr} {S : List Sh} {μ : Mem} {Q : Int → Mem → Prop} (hΦ : St G Φ cX8_here RX8 1 0 0 0 0) (hR : Rt G Φ (Pi S Q) 0 0 (some .int)) {x0 : Int} (h : So S x0 (.inl 8) ∧ (R32 (μ x0 23) ∧ (R32 (μ x0 22) ∧ (((μ x0 22) ≤ (μ x0 23) → ((μ x0 22) ≤ (μ x0 23) → Q (-1) μ) ∧ (¬ ((μ x0 22) ≤ (μ x0 23)) → Ai S (μ x0 21) 0 (μ x0 23) ∧ Q (μ (μ x0 21) (μ x0 23)) μ)) ∧ (¬ ((μ x0 22) ≤ (μ x0 23)) → Ai S (μ x0 21) 0 (μ x0 23) ∧ (R32 (μ (μ x0 21) (μ x0 23)) ∧ (((μ (μ x0 21) (μ x0 23)) ≠ 32 → ((μ x0 22) ≤ (μ x0 23) → Q (-1) μ) ∧ (¬ ((μ x0 22) ≤ (μ x0 23)) → Q (μ (μ x0 21) (μ x0 23)) μ)) ∧ ((μ (μ x0 21) (μ x0 23)) = 32 → ∀ m7 : Mem, m7 = mu μ x0 23 ((μ x0 23) + 1) → (Ex G Φ 1 0 [some (2, x0)] [] S m7 0 0))))))))) : Ex G Φ 1 0 [some (2, x0)] [] S μ 0 0 := by
  obtain ⟨o1, h⟩ := h
  refine ex_aload_n hΦ dX8_here_0 rfl o1.1 ?_
  refine ex_getf hΦ fl_X8_100 o1 dX8_here_1 ?_
  refine ex_aload_n hΦ dX8_here_4 rfl o1.1 ?_
  refine ex_getf hΦ fl_X8_96 o1 dX8_here_5 ?_
  obtain ⟨o2, h⟩ := h
  obtain ⟨o3, h⟩ := h
  refine ex_icmp_ge 38 hΦ dX8_here_8 (by decide) o2 o3 (fun c => ?_) (fun c => ?_)
  · have h := h.1 c
    refine ex_aload_n hΦ dX8_here_38 rfl o1.1 ?_
    refine ex_getf hΦ fl_X8_100 o1 dX8_here_39 ?_
    refine ex_aload_n hΦ dX8_here_42 rfl o1.1 ?_
    refine ex_getf hΦ fl_X8_96 o1 dX8_here_43 ?_
    refine ex_icmp_ge 61 hΦ dX8_here_46 (by decide) o2 o3 (fun c => ?_) (fun c => ?_)
    · have h := h.1 c
      refine ex_iconst hΦ dX8_here_61 ?_
      exact ex_returni hΦ hR dX8_here_62 h
    · have h := h.2 c
      refine ex_aload_n hΦ dX8_here_49 rfl o1.1 ?_
      refine ex_getf hΦ fl_X8_45 o1 dX8_here_50 ?_
      refine ex_aload_n hΦ dX8_here_53 rfl o1.1 ?_
      refine ex_getf hΦ fl_X8_100 o1 dX8_here_54 ?_
      obtain ⟨o4, h⟩ := h
      refine ex_iald' hΦ o4 dX8_here_57 ?_
      refine ex_goto 62 hΦ dX8_here_58 (by decide) ?_
      exact ex_returni hΦ hR dX8_here_62 h
  · have h := h.2 c
    refine ex_aload_n hΦ dX8_here_11 rfl o1.1 ?_
    refine ex_getf hΦ fl_X8_45 o1 dX8_here_12 ?_
    refine ex_aload_n hΦ dX8_here_15 rfl o1.1 ?_
    refine ex_getf hΦ fl_X8_100 o1 dX8_here_16 ?_
    obtain ⟨o5, h⟩ := h
    refine ex_iald' hΦ o5 dX8_here_19 ?_
    refine ex_bipush hΦ dX8_here_20 (by decide) ?_
    obtain ⟨o6, h⟩ := h
    refine ex_icmp_ne 38 hΦ dX8_here_22 (by decide) o6 ⟨by decide, by decide⟩ (fun c => ?_) (fun c => ?_)
    · have h := h.1 c
      refine ex_aload_n hΦ dX8_here_38 rfl o1.1 ?_
      refine ex_getf hΦ fl_X8_100 o1 dX8_here_39 ?_
      refine ex_aload_n hΦ dX8_here_42 rfl o1.1 ?_
      refine ex_getf hΦ fl_X8_96 o1 dX8_here_43 ?_
      refine ex_icmp_ge 61 hΦ dX8_here_46 (by decide) o2 o3 (fun c => ?_) (fun c => ?_)
      · have h := h.1 c
        refine ex_iconst hΦ dX8_here_61 ?_
        exact ex_returni hΦ hR dX8_here_62 h
      · have h := h.2 c
        refine ex_aload_n hΦ dX8_here_49 rfl o1.1 ?_
        refine ex_getf hΦ fl_X8_45 o1 dX8_here_50 ?_
        refine ex_aload_n hΦ dX8_here_53 rfl o1.1 ?_
        refine ex_getf hΦ fl_X8_100 o1 dX8_here_54 ?_
        refine ex_iald' hΦ o5 dX8_here_57 ?_
        refine ex_goto 62 hΦ dX8_here_58 (by decide) ?_
        exact ex_returni hΦ hR dX8_here_62 h
    · have h := h.2 c
      refine ex_aload_n hΦ dX8_here_25 rfl o1.1 ?_
      refine ex_dup hΦ dX8_here_26 (Nat.ne_of_beq_eq_false rfl) ?_
      refine ex_getf hΦ fl_X8_100 o1 dX8_here_27 ?_
      refine ex_iconst hΦ dX8_here_30 ?_
      refine ex_iadd hΦ dX8_here_31 ?_
      obtain ⟨m7, hm7⟩ : ∃ m : Mem, m = mu μ x0 23 ((μ x0 23) + 1) := ⟨_, rfl⟩
      have h := h m7 hm7
      refine ex_putf' hΦ fl_X8_100 o1 rfl rfl dX8_here_32 hm7 ?_
      refine ex_goto 0 hΦ dX8_here_35 (by decide) ?_
      exact h
theorem eX8_want {G : Gm} {S : List Sh} {μ : Mem} {Q : Int → Mem → Prop} {x0 x1 x2 x3 : Int} (h : ∀ Φ : Fr, St G Φ cX8_want RX8 4 0 0 0 0 → Rt G Φ (Pi S Q) 0 0 (some .boolean) → Ex G Φ 4 0 [some (2, x0), some (0, x1), some (0, x2), some (0, x3)] [] S μ 0 0) : Ci G mX8_want [(2, x0), (0, x1), (0, x2), (0, x3)] S μ Q :=
  call_of' (plainFor_of_name (by decide +kernel)) [some (2, x0), some (0, x1), some (0, x2), some (0, x3)] rfl (Nat.le_of_ble_eq_true rfl) (fun Φ hΦ hR => h Φ hΦ hR)
theorem bX8_want_0 {G : Gm} {Φ : Fr} {S : List Sh} {μ : Mem} {Q : Int → Mem → Prop} (hΦ : St G Φ cX8_want RX8 4 0 0 0 0) (hR : Rt G Φ (Pi S Q) 0 0 (some .boolean)) {x0 x1 x2 x3 : Int} (h : R32 x1 ∧ ((x1 ≠ 0 → So S x0 (.inl 8) ∧ (R32 (μ x0 25) ∧ (((μ x0 25) ≠ 0 → Q 0 μ) ∧ ((μ x0 25) = 0 → Q 1 μ)))) ∧ (x1 = 0 → So S x0 (.inl 8) ∧ (R32 (μ x0 25) ∧ (((μ x0 25) ≠ 0 → ((μ x0 25) ≠ 0 → Q 0 μ) ∧ ((μ x0 25) = 0 → Q 1 μ)) ∧ ((μ x0 25) = 0 → ∀ m6 : Mem, m6 = mu μ x0 25 x2 → (∀ m7 : Mem, m7 = mu m6 x0 26 x3 → (R32 (m7 x0 25) ∧ (((m7 x0 25) ≠ 0 → Q 0 m7) ∧ ((m7 x0 25) = 0 → Q 1 m7)))))))))) : Ex G Φ 4 0 [some (2, x0), some (0, x1), some (0, x2), some (0, x3)] [] S μ 0 0 := by
  refine ex_iload_n hΦ dX8_want_0 rfl ?_
  obtain ⟨o1, h⟩ := h
  refine ex_if_ne 21 hΦ dX8_want_1 (by decide) o1 (fun c => ?_) (fun c => ?_)
  · have h := h.1 c
    obtain ⟨o2, h⟩ := h
    refine ex_aload_n hΦ dX8_want_21 rfl o2.1 ?_
    refine ex_getf hΦ fl_X8_103 o2 dX8_want_22 ?_
    obtain ⟨o3, h⟩ := h
    refine ex_if_ne 32 hΦ dX8_want_25 (by decide) o3 (fun c => ?_) (fun c => ?_)
    · have h := h.1 c
      refine ex_iconst hΦ dX8_want_32 ?_
      exact ex_returnz hΦ hR (by decide) (by decide) dX8_want_33 h
    · have h := h.2 c
      refine ex_iconst hΦ dX8_want_28 ?_
      refine ex_goto 33 hΦ dX8_want_29 (by decide) ?_
      exact ex_returnz hΦ hR (by decide) (by decide) dX8_want_33 h
  · have h := h.2 c
    obtain ⟨o4, h⟩ := h
    refine ex_aload_n hΦ dX8_want_4 rfl o4.1 ?_
    refine ex_getf hΦ fl_X8_103 o4 dX8_want_5 ?_
    obtain ⟨o5, h⟩ := h
    refine ex_if_ne 21 hΦ dX8_want_8 (by decide) o5 (fun c => ?_) (fun c => ?_)
    · have h := h.1 c
      refine ex_aload_n hΦ dX8_want_21 rfl o4.1 ?_
      refine ex_getf hΦ fl_X8_103 o4 dX8_want_22 ?_
      refine ex_if_ne 32 hΦ dX8_want_25 (by decide) o5 (fun c => ?_) (fun c => ?_)
      · have h := h.1 c
        refine ex_iconst hΦ dX8_want_32 ?_
        exact ex_returnz hΦ hR (by decide) (by decide) dX8_want_33 h
      · have h := h.2 c
        refine ex_iconst hΦ dX8_want_28 ?_
        refine ex_goto 33 hΦ dX8_want_29 (by decide) ?_
        exact ex_returnz hΦ hR (by decide) (by decide) dX8_want_33 h
    · have h := h.2 c
      refine ex_aload_n hΦ dX8_want_11 rfl o4.1 ?_
      refine ex_iload_n hΦ dX8_want_12 rfl ?_
      obtain ⟨m6, hm6⟩ : ∃ m : Mem, m = mu μ x0 25 x2 := ⟨_, rfl⟩
      have h := h m6 hm6
      refine ex_putf' hΦ fl_X8_103 o4 rfl rfl dX8_want_13 hm6 ?_
      refine ex_aload_n hΦ dX8_want_16 rfl o4.1 ?_
      refine ex_iload_n hΦ dX8_want_17 rfl ?_
      obtain ⟨m7, hm7⟩ : ∃ m : Mem, m = mu m6 x0 26 x3 := ⟨_, rfl⟩
      have h := h m7 hm7
      refine ex_putf' hΦ fl_X8_48 o4 rfl rfl dX8_want_18 hm7 ?_
      refine ex_aload_n hΦ dX8_want_21 rfl o4.1 ?_
      refine ex_getf hΦ fl_X8_103 o4 dX8_want_22 ?_
      obtain ⟨o8, h⟩ := h
      refine ex_if_ne 32 hΦ dX8_want_25 (by decide) o8 (fun c => ?_) (fun c => ?_)
      · have h := h.1 c
        refine ex_iconst hΦ dX8_want_32 ?_
        exact ex_returnz hΦ hR (by decide) (by decide) dX8_want_33 h
      · have h := h.2 c
        refine ex_iconst hΦ dX8_want_28 ?_
        refine ex_goto 33 hΦ dX8_want_29 (by decide) ?_
        exact ex_returnz hΦ hR (by decide) (by decide) dX8_want_33 h
theorem bX8_takeNumber_50 {G : Gm} {Φ : Fr} {S : List Sh} {μ : Mem} {Q : Int → Mem → Prop} (hΦ : St G Φ cX8_takeNumber RX8 6 1 25 0 0) (hR : Rt G Φ (Pi S Q) 0 0 (some .int)) {x0 x1 x2 x3 x4 : Int} (h : So S x0 (.inl 8) ∧ (R32 (μ x0 23) ∧ (R32 (μ x0 22) ∧ (((μ x0 22) ≤ (μ x0 23) → Ex G Φ 6 128 [some (2, x0), some (0, x1), some (0, x2), some (0, x3), some (0, x4), none] [] S μ 0 0) ∧ (¬ ((μ x0 22) ≤ (μ x0 23)) → Ai S (μ x0 21) 0 (μ x0 23) ∧ (R32 (μ (μ x0 21) (μ x0 23)) ∧ (Ci G mX8_in [(1, (μ (μ x0 21) (μ x0 23))), (1, 48), (1, 57)] S μ (fun r6 μ6 => R32 r6 ∧ ((r6 = 0 → Ex G Φ 6 128 [some (2, x0), some (0, x1), some (0, x2), some (0, x3), some (0, x4), none] [] S μ6 0 0) ∧ (¬ (r6 = 0) → R32 x4 ∧ ((x4 ≤ 99999 → Ai S (μ6 x0 21) 0 (μ6 x0 23) ∧ (∀ m10 : Mem, m10 = mu μ6 x0 23 ((μ6 x0 23) + 1) → (Ex G Φ 6 50 [some (2, x0), some (0, x1), some (0, x2), some (0, x3), some (0, (((10 * x4) + (μ6 (μ6 x0 21) (μ6 x0 23))) - 48)), none] [] S m10 0 0))) ∧ (¬ (x4 ≤ 99999) → ∀ m11 : Mem, m11 = mu μ6 x0 23 ((μ6 x0 23) + 1) → (Ex G Φ 6 50 [some (2, x0), some (0, x1), some (0, x2), some (0, x3), some (0, x4), none] [] S m11 0 0))))))))))))) : Ex G Φ 6 50 [some (2, x0), some (0, x1), some (0, x2), some (0, x3), some (0, x4), none] [] S μ 0 0 := by
  obtain ⟨o1, h⟩ := h
  refine ex_aload_n hΦ dX8_takeNumber_50 rfl o1.1 ?_
  refine ex_getf hΦ fl_X8_100 o1 dX8_takeNumber_51 ?_
  refine ex_aload_n hΦ dX8_takeNumber_54 rfl o1.1 ?_
  refine ex_getf hΦ fl_X8_96 o1 dX8_takeNumber_55 ?_
  obtain ⟨o2, h⟩ := h
  obtain ⟨o3, h⟩ := h
  refine ex_icmp_ge 128 hΦ dX8_takeNumber_58 (by decide) o2 o3 (fun c => ?_) (fun c => ?_)
  · have h := h.1 c
    exact h
  · have h := h.2 c
    refine ex_aload_n hΦ dX8_takeNumber_61 rfl o1.1 ?_
    refine ex_getf hΦ fl_X8_45 o1 dX8_takeNumber_62 ?_
    refine ex_aload_n hΦ dX8_takeNumber_65 rfl o1.1 ?_
    refine ex_getf hΦ fl_X8_100 o1 dX8_takeNumber_66 ?_
    obtain ⟨o4, h⟩ := h
    refine ex_iald' hΦ o4 dX8_takeNumber_69 ?_
    obtain ⟨o5, h⟩ := h
    refine ex_i2l hΦ dX8_takeNumber_70 o5 ?_
    refine ex_ldc2 hΦ dX8_takeNumber_71 qw1010 ?_
    refine ex_ldc2 hΦ dX8_takeNumber_74 qw1011 ?_
    refine ex_callSi [(1, (μ (μ x0 21) (μ x0 23))), (1, 48), (1, 57)] [(1, 57), (1, 48), (1, (μ (μ x0 21) (μ x0 23)))] hΦ lkS_X8_91 ⟨by decide, by decide⟩ (Nat.le_of_ble_eq_true rfl) rfl (by decide) dX8_takeNumber_77 rfl h (fun r6 μ6 h => ?_)
    obtain ⟨o7, h⟩ := h
    refine ex_if_eq 128 hΦ dX8_takeNumber_80 (by decide) o7 (fun c => ?_) (fun c => ?_)
    · have h := h.1 c
      exact h
    · have h := h.2 c
      refine ex_iload hΦ dX8_takeNumber_83 rfl ?_
      refine ex_ldc hΦ dX8_takeNumber_85 qw1012 ?_
      obtain ⟨o8, h⟩ := h
      refine ex_icmp_le 95 hΦ dX8_takeNumber_87 (by decide) o8 ⟨by decide, by decide⟩ (fun c => ?_) (fun c => ?_)
      · have h := h.1 c
        refine ex_bipush hΦ dX8_takeNumber_95 (by decide) ?_
        refine ex_iload hΦ dX8_takeNumber_97 rfl ?_
        refine ex_imul hΦ dX8_takeNumber_99 ?_
        refine ex_aload_n hΦ dX8_takeNumber_100 rfl o1.1 ?_
        refine ex_getf hΦ fl_X8_45 o1 dX8_takeNumber_101 ?_
        refine ex_aload_n hΦ dX8_takeNumber_104 rfl o1.1 ?_
        refine ex_getf hΦ fl_X8_100 o1 dX8_takeNumber_105 ?_
        obtain ⟨o9, h⟩ := h
        refine ex_iald' hΦ o9 dX8_takeNumber_108 ?_
        refine ex_iadd hΦ dX8_takeNumber_109 ?_
        refine ex_bipush hΦ dX8_takeNumber_110 (by decide) ?_
        refine ex_isub hΦ dX8_takeNumber_112 ?_
        refine ex_istore (L' := [some (2, x0), some (0, x1), some (0, x2), some (0, x3), some (0, (((10 * x4) + (μ6 (μ6 x0 21) (μ6 x0 23))) - 48)), none]) hΦ dX8_takeNumber_113 (by decide) rfl ?_
        refine ex_aload_n hΦ dX8_takeNumber_115 rfl o1.1 ?_
        refine ex_dup hΦ dX8_takeNumber_116 (Nat.ne_of_beq_eq_false rfl) ?_
        refine ex_getf hΦ fl_X8_100 o1 dX8_takeNumber_117 ?_
        refine ex_iconst hΦ dX8_takeNumber_120 ?_
        refine ex_iadd hΦ dX8_takeNumber_121 ?_
        obtain ⟨m10, hm10⟩ : ∃ m : Mem, m = mu μ6 x0 23 ((μ6 x0 23) + 1) := ⟨_, rfl⟩
        have h := h m10 hm10
        refine ex_putf' hΦ fl_X8_100 o1 rfl rfl dX8_takeNumber_122 hm10 ?_
        refine ex_goto 50 hΦ dX8_takeNumber_125 (by decide) ?_
        exact h
      · have h := h.2 c
        refine ex_iload hΦ dX8_takeNumber_90 rfl ?_
        refine ex_goto 113 hΦ dX8_takeNumber_92 (by decide) ?_
        refine ex_istore (L' := [some (2, x0), some (0, x1), some (0, x2), some (0, x3), some (0, x4), none]) hΦ dX8_takeNumber_113 (by decide) rfl ?_
        refine ex_aload_n hΦ dX8_takeNumber_115 rfl o1.1 ?_
        refine ex_dup hΦ dX8_takeNumber_116 (Nat.ne_of_beq_eq_false rfl) ?_
        refine ex_getf hΦ fl_X8_100 o1 dX8_takeNumber_117 ?_
        refine ex_iconst hΦ dX8_takeNumber_120 ?_
        refine ex_iadd hΦ dX8_takeNumber_121 ?_
        obtain ⟨m11, hm11⟩ : ∃ m : Mem, m = mu μ6 x0 23 ((μ6 x0 23) + 1) := ⟨_, rfl⟩
        have h := h m11 hm11
        refine ex_putf' hΦ fl_X8_100 o1 rfl rfl dX8_takeNumber_122 hm11 ?_
        refine ex_goto 50 hΦ dX8_takeNumber_125 (by decide) ?_
        exact h
theorem bX8_takeNumber_128 {G : Gm} {Φ : Fr} {S : List Sh} {μ : Mem} {Q : Int → Mem → Prop} (hΦ : St G Φ cX8_takeNumber RX8 6 1 25 0 0) (hR : Rt G Φ (Pi S Q) 0 0 (some .int)) {x0 x1 x2 x3 x4 : Int} (h : So S x0 (.inl 8) ∧ (R32 ((μ x0 23) - (μ x0 24)) ∧ ((4 ≤ ((μ x0 23) - (μ x0 24)) → Ci G mX8_want [(2, x0), (0, 0), (0, 2), (0, (μ x0 24))] S μ (fun r3 μ3 => Q x4 μ3)) ∧ (¬ (4 ≤ ((μ x0 23) - (μ x0 24))) → R32 x4 ∧ (R32 x1 ∧ (R32 x2 ∧ (Ci G mX8_in [(1, x4), (1, x1), (1, x2)] S μ (fun r7 μ7 => R32 r7 ∧ ((r7 = 0 → Ci G mX8_want [(2, x0), (0, 0), (0, 2), (0, (μ7 x0 24))] S μ7 (fun r9 μ9 => Q x4 μ9)) ∧ (¬ (r7 = 0) → Ci G mX8_want [(2, x0), (0, 1), (0, 2), (0, (μ7 x0 24))] S μ7 (fun r10 μ10 => Q x4 μ10))))))))))) : Ex G Φ 6 128 [some (2, x0), some (0, x1), some (0, x2), some (0, x3), some (0, x4), none] [] S μ 0 0 := by
  obtain ⟨o1, h⟩ := h
  refine ex_aload_n hΦ dX8_takeNumber_128 rfl o1.1 ?_
  refine ex_aload_n hΦ dX8_takeNumber_129 rfl o1.1 ?_
  refine ex_getf hΦ fl_X8_100 o1 dX8_takeNumber_130 ?_
  refine ex_aload_n hΦ dX8_takeNumber_133 rfl o1.1 ?_
  refine ex_getf hΦ fl_X8_110 o1 dX8_takeNumber_134 ?_
  refine ex_isub hΦ dX8_takeNumber_137 ?_
  refine ex_iconst hΦ dX8_takeNumber_138 ?_
  obtain ⟨o2, h⟩ := h
  refine ex_icmp_ge 159 hΦ dX8_takeNumber_139 (by decide) o2 ⟨by decide, by decide⟩ (fun c => ?_) (fun c => ?_)
  · have h := h.1 c
    refine ex_iconst hΦ dX8_takeNumber_159 ?_
    refine ex_iconst hΦ dX8_takeNumber_160 ?_
    refine ex_aload_n hΦ dX8_takeNumber_161 rfl o1.1 ?_
    refine ex_getf hΦ fl_X8_110 o1 dX8_takeNumber_162 ?_
    refine ex_callVi [(0, 0), (0, 2), (0, (μ x0 24))] [(0, (μ x0 24)), (0, 2), (0, 0), (2, x0)] hΦ lkV_X8_117 ⟨by decide, by decide⟩ (Nat.le_of_ble_eq_true rfl) rfl (by decide) 8 (by decide) rfl o1 dX8_takeNumber_165 rfl h (fun r3 μ3 h => ?_)
    refine ex_istore (L' := [some (2, x0), some (0, x1), some (0, x2), some (0, x3), some (0, x4), some (0, r3)]) hΦ dX8_takeNumber_168 (by decide) rfl ?_
    refine ex_iload hΦ dX8_takeNumber_170 rfl ?_
    exact ex_returni hΦ hR dX8_takeNumber_172 h
  · have h := h.2 c
    refine ex_iload hΦ dX8_takeNumber_142 rfl ?_
    obtain ⟨o4, h⟩ := h
    refine ex_i2l hΦ dX8_takeNumber_144 o4 ?_
    refine ex_iload_n hΦ dX8_takeNumber_145 rfl ?_
    obtain ⟨o5, h⟩ := h
    refine ex_i2l hΦ dX8_takeNumber_146 o5 ?_
    refine ex_iload_n hΦ dX8_takeNumber_147 rfl ?_
    obtain ⟨o6, h⟩ := h
    refine ex_i2l hΦ dX8_takeNumber_148 o6 ?_
    refine ex_callSi [(1, x4), (1, x1), (1, x2)] [(1, x2), (1, x1), (1, x4), (2, x0)] hΦ lkS_X8_91 ⟨by decide, by decide⟩ (Nat.le_of_ble_eq_true rfl) rfl (by decide) dX8_takeNumber_149 rfl h (fun r7 μ7 h => ?_)
    obtain ⟨o8, h⟩ := h
    refine ex_if_eq 159 hΦ dX8_takeNumber_152 (by decide) o8 (fun c => ?_) (fun c => ?_)
    · have h := h.1 c
      refine ex_iconst hΦ dX8_takeNumber_159 ?_
      refine ex_iconst hΦ dX8_takeNumber_160 ?_
      refine ex_aload_n hΦ dX8_takeNumber_161 rfl o1.1 ?_
      refine ex_getf hΦ fl_X8_110 o1 dX8_takeNumber_162 ?_
      refine ex_callVi [(0, 0), (0, 2), (0, (μ7 x0 24))] [(0, (μ7 x0 24)), (0, 2), (0, 0), (2, x0)] hΦ lkV_X8_117 ⟨by decide, by decide⟩ (Nat.le_of_ble_eq_true rfl) rfl (by decide) 8 (by decide) rfl o1 dX8_takeNumber_165 rfl h (fun r9 μ9 h => ?_)
      refine ex_istore (L' := [some (2, x0), some (0, x1), some (0, x2), some (0, x3), some (0, x4), some (0, r9)]) hΦ dX8_takeNumber_168 (by decide) rfl ?_
      refine ex_iload hΦ dX8_takeNumber_170 rfl ?_
      exact ex_returni hΦ hR dX8_takeNumber_172 h
    · have h := h.2 c
      refine ex_iconst hΦ dX8_takeNumber_155 ?_
      refine ex_goto 160 hΦ dX8_takeNumber_156 (by decide) ?_
      refine ex_iconst hΦ dX8_takeNumber_160 ?_
      refine ex_aload_n hΦ dX8_takeNumber_161 rfl o1.1 ?_
      refine ex_getf hΦ fl_X8_110 o1 dX8_takeNumber_162 ?_
      refine ex_callVi [(0, 1), (0, 2), (0, (μ7 x0 24))] [(0, (μ7 x0 24)), (0, 2), (0, 1), (2, x0)] hΦ lkV_X8_117 ⟨by decide, by decide⟩ (Nat.le_of_ble_eq_true rfl) rfl (by decide) 8 (by decide) rfl o1 dX8_takeNumber_165 rfl h (fun r10 μ10 h => ?_)
      refine ex_istore (L' := [some (2, x0), some (0, x1), some (0, x2), some (0, x3), some (0, x4), some (0, r10)]) hΦ dX8_takeNumber_168 (by decide) rfl ?_
      refine ex_iload hΦ dX8_takeNumber_170 rfl ?_
      exact ex_returni hΦ hR dX8_takeNumber_172 h
theorem eX8_takeNumber {G : Gm} {S : List Sh} {μ : Mem} {Q : Int → Mem → Prop} {x0 x1 x2 : Int} (h : ∀ Φ : Fr, St G Φ cX8_takeNumber RX8 6 1 25 0 0 → Rt G Φ (Pi S Q) 0 0 (some .int) → Ex G Φ 6 0 [some (2, x0), some (0, x1), some (0, x2), none, none, none] [] S μ 0 0) : Ci G mX8_takeNumber [(2, x0), (0, x1), (0, x2)] S μ Q :=
  call_of' (plainFor_of_name (by decide +kernel)) [some (2, x0), some (0, x1), some (0, x2), none, none, none] rfl (Nat.le_of_ble_eq_true rfl) (fun Φ hΦ hR => h Φ hΦ hR)
theorem bX8_takeNumber_0 {G : Gm} {Φ : Fr} {S : List Sh} {μ : Mem} {Q : Int → Mem → Prop} (hΦ : St G Φ cX8_takeNumber RX8 6 1 25 0 0) (hR : Rt G Φ (Pi S Q) 0 0 (some .int)) {x0 x1 x2 : Int} (h : So S x0 (.inl 8) ∧ (R32 (μ x0 25) ∧ (((μ x0 25) ≤ 0 → Ci G mX8_here [(2, x0)] S μ (fun r3 μ3 => ∀ m4 : Mem, m4 = mu μ3 x0 24 (μ3 x0 23) → (R32 r3 ∧ (Ci G mX8_in [(1, r3), (1, 48), (1, 57)] S m4 (fun r6 μ6 => Ci G mX8_want [(2, x0), (0, r6), (0, 1), (0, (μ6 x0 23))] S μ6 (fun r7 μ7 => R32 r7 ∧ ((r7 ≠ 0 → Ex G Φ 6 50 [some (2, x0), some (0, x1), some (0, x2), some (0, r3), some (0, 0), none] [] S μ7 0 0) ∧ (r7 = 0 → Q 0 μ7)))))))) ∧ (¬ ((μ x0 25) ≤ 0) → Q 0 μ)))) : Ex G Φ 6 0 [some (2, x0), some (0, x1), some (0, x2), none, none, none] [] S μ 0 0 := by
  obtain ⟨o1, h⟩ := h
  refine ex_aload_n hΦ dX8_takeNumber_0 rfl o1.1 ?_
  refine ex_getf hΦ fl_X8_103 o1 dX8_takeNumber_1 ?_
  obtain ⟨o2, h⟩ := h
  refine ex_if_le 9 hΦ dX8_takeNumber_4 (by decide) o2 (fun c => ?_) (fun c => ?_)
  · have h := h.1 c
    refine ex_aload_n hΦ dX8_takeNumber_9 rfl o1.1 ?_
    refine ex_callVi [] [(2, x0)] hΦ lkV_X8_106 ⟨by decide, by decide⟩ (Nat.le_of_ble_eq_true rfl) rfl (by decide) 8 (by decide) rfl o1 dX8_takeNumber_10 rfl h (fun r3 μ3 h => ?_)
    refine ex_istore_n (L' := [some (2, x0), some (0, x1), some (0, x2), some (0, r3), none, none]) hΦ dX8_takeNumber_13 (by decide) rfl ?_
    refine ex_aload_n hΦ dX8_takeNumber_14 rfl o1.1 ?_
    refine ex_aload_n hΦ dX8_takeNumber_15 rfl o1.1 ?_
    refine ex_getf hΦ fl_X8_100 o1 dX8_takeNumber_16 ?_
    obtain ⟨m4, hm4⟩ : ∃ m : Mem, m = mu μ3 x0 24 (μ3 x0 23) := ⟨_, rfl⟩
    have h := h m4 hm4
    refine ex_putf' hΦ fl_X8_110 o1 rfl rfl dX8_takeNumber_19 hm4 ?_
    refine ex_aload_n hΦ dX8_takeNumber_22 rfl o1.1 ?_
    refine ex_iload_n hΦ dX8_takeNumber_23 rfl ?_
    obtain ⟨o5, h⟩ := h
    refine ex_i2l hΦ dX8_takeNumber_24 o5 ?_
    refine ex_ldc2 hΦ dX8_takeNumber_25 qw1010 ?_
    refine ex_ldc2 hΦ dX8_takeNumber_28 qw1011 ?_
    refine ex_callSi [(1, r3), (1, 48), (1, 57)] [(1, 57), (1, 48), (1, r3), (2, x0)] hΦ lkS_X8_91 ⟨by decide, by decide⟩ (Nat.le_of_ble_eq_true rfl) rfl (by decide) dX8_takeNumber_31 rfl h (fun r6 μ6 h => ?_)
    refine ex_iconst hΦ dX8_takeNumber_34 ?_
    refine ex_aload_n hΦ dX8_takeNumber_35 rfl o1.1 ?_
    refine ex_getf hΦ fl_X8_100 o1 dX8_takeNumber_36 ?_
    refine ex_callVi [(0, r6), (0, 1), (0, (μ6 x0 23))] [(0, (μ6 x0 23)), (0, 1), (0, r6), (2, x0)] hΦ lkV_X8_117 ⟨by decide, by decide⟩ (Nat.le_of_ble_eq_true rfl) rfl (by decide) 8 (by decide) rfl o1 dX8_takeNumber_39 rfl h (fun r7 μ7 h => ?_)
    obtain ⟨o8, h⟩ := h
    refine ex_if_ne 47 hΦ dX8_takeNumber_42 (by decide) o8 (fun c => ?_) (fun c => ?_)
    · have h := h.1 c
      refine ex_iconst hΦ dX8_takeNumber_47 ?_
      refine ex_istore (L' := [some (2, x0), some (0, x1), some (0, x2), some (0, r3), some (0, 0), none]) hΦ dX8_takeNumber_48 (by decide) rfl ?_
      exact h
    · have h := h.2 c
      refine ex_iconst hΦ dX8_takeNumber_45 ?_
      exact ex_returni hΦ hR dX8_takeNumber_46 h
  · have h := h.2 c
    refine ex_iconst hΦ dX8_takeNumber_7 ?_
    exact ex_returni hΦ hR dX8_takeNumber_8 h
theorem bX8_takeWheel_15 {G : Gm} {Φ : Fr} {S : List Sh} {μ : Mem} {Q : Mem → Prop} (hΦ : St G Φ cX8_takeWheel RX8 4 2 50 0 0) (hR : Rt G Φ (Pv S Q) 0 0 none) {x0 x1 t0 t1 : Int} (h : So S t0 (.inl 8) ∧ (Ci G mX8_want [(2, t0), (0, t1), (0, 3), (0, x1)] S μ (fun r2 μ2 => R32 r2 ∧ ((r2 = 0 → Q μ2) ∧ (¬ (r2 = 0) → So S x0 (.inl 8) ∧ (Ci G mX8_takeNumber [(2, x0), (0, 3), (0, 30)] S μ2 (fun r5 μ5 => Ci G mX8_takeNumber [(2, x0), (0, 0), (0, 29)] S μ5 (fun r6 μ6 => Ai S (μ6 x0 13) 0 (8 + (μ6 x0 7)) ∧ (∀ m8 : Mem, m8 = mu μ6 (μ6 x0 13) (8 + (μ6 x0 7)) r5 → (R32 (m8 x0 25) ∧ (((m8 x0 25) ≤ 0 → R32 r6 ∧ (R32 r5 ∧ (r5 ≠ 0 ∧ (Ai S (m8 x0 14) 0 (8 + (m8 x0 7)) ∧ (∀ m14 : Mem, m14 = mu m8 (m8 x0 14) (8 + (m8 x0 7)) (Int.tmod r6 r5) → (∀ m15 : Mem, m15 = mu m14 x0 7 ((m14 x0 7) + 1) → (Q m15))))))) ∧ (¬ ((m8 x0 25) ≤ 0) → Ai S (m8 x0 14) 0 (8 + (m8 x0 7)) ∧ (∀ m17 : Mem, m17 = mu m8 (m8 x0 14) (8 + (m8 x0 7)) 0 → (∀ m18 : Mem, m18 = mu m17 x0 7 ((m17 x0 7) + 1) → (Q m18))))))))))))))) : Ex G Φ 4 15 [some (2, x0), some (0, x1), none, none] [(0, t1), (2, t0)] S μ 0 0 := by
  refine ex_iconst hΦ dX8_takeWheel_15 ?_
  refine ex_iload_n hΦ dX8_takeWheel_16 rfl ?_
  obtain ⟨o1, h⟩ := h
  refine ex_callVi [(0, t1), (0, 3), (0, x1)] [(0, x1), (0, 3), (0, t1), (2, t0)] hΦ lkV_X8_117 ⟨by decide, by decide⟩ (Nat.le_of_ble_eq_true rfl) rfl (by decide) 8 (by decide) rfl o1 dX8_takeWheel_17 rfl h (fun r2 μ2 h => ?_)
  obtain ⟨o3, h⟩ := h
  refine ex_if_eq 88 hΦ dX8_takeWheel_20 (by decide) o3 (fun c => ?_) (fun c => ?_)
  · have h := h.1 c
    exact ex_returnv hΦ hR dX8_takeWheel_88 h
  · have h := h.2 c
    obtain ⟨o4, h⟩ := h
    refine ex_aload_n hΦ dX8_takeWheel_23 rfl o4.1 ?_
    refine ex_iconst hΦ dX8_takeWheel_24 ?_
    refine ex_bipush hΦ dX8_takeWheel_25 (by decide) ?_
    refine ex_callVi [(0, 3), (0, 30)] [(0, 30), (0, 3), (2, x0)] hΦ lkV_X8_125 ⟨by decide, by decide⟩ (Nat.le_of_ble_eq_true rfl) rfl (by decide) 8 (by decide) rfl o4 dX8_takeWheel_27 rfl h (fun r5 μ5 h => ?_)
    refine ex_istore_n (L' := [some (2, x0), some (0, x1), some (0, r5), none]) hΦ dX8_takeWheel_30 (by decide) rfl ?_
    refine ex_aload_n hΦ dX8_takeWheel_31 rfl o4.1 ?_
    refine ex_iconst hΦ dX8_takeWheel_32 ?_
    refine ex_bipush hΦ dX8_takeWheel_33 (by decide) ?_
    refine ex_callVi [(0, 0), (0, 29)] [(0, 29), (0, 0), (2, x0)] hΦ lkV_X8_125 ⟨by decide, by decide⟩ (Nat.le_of_ble_eq_true rfl) rfl (by decide) 8 (by decide) rfl o4 dX8_takeWheel_35 rfl h (fun r6 μ6 h => ?_)
    refine ex_istore_n (L' := [some (2, x0), some (0, x1), some (0, r5), some (0, r6)]) hΦ dX8_takeWheel_38 (by decide) rfl ?_
    refine ex_aload_n hΦ dX8_takeWheel_39 rfl o4.1 ?_
    refine ex_getf hΦ fl_X8_21 o4 dX8_takeWheel_40 ?_
    refine ex_bipush hΦ dX8_takeWheel_43 (by decide) ?_
    refine ex_aload_n hΦ dX8_takeWheel_45 rfl o4.1 ?_
    refine ex_getf hΦ fl_X8_122 o4 dX8_takeWheel_46 ?_
    refine ex_iadd hΦ dX8_takeWheel_49 ?_
    refine ex_iload_n hΦ dX8_takeWheel_50 rfl ?_
    obtain ⟨o7, h⟩ := h
    obtain ⟨m8, hm8⟩ : ∃ m : Mem, m = mu μ6 (μ6 x0 13) (8 + (μ6 x0 7)) r5 := ⟨_, rfl⟩
    have h := h m8 hm8
    refine ex_iast'' hΦ o7 dX8_takeWheel_51 hm8 ?_
    refine ex_aload_n hΦ dX8_takeWheel_52 rfl o4.1 ?_
    refine ex_getf hΦ fl_X8_24 o4 dX8_takeWheel_53 ?_
    refine ex_bipush hΦ dX8_takeWheel_56 (by decide) ?_
    refine ex_aload_n hΦ dX8_takeWheel_58 rfl o4.1 ?_
    refine ex_getf hΦ fl_X8_122 o4 dX8_takeWheel_59 ?_
    refine ex_iadd hΦ dX8_takeWheel_62 ?_
    refine ex_aload_n hΦ dX8_takeWheel_63 rfl o4.1 ?_
    refine ex_getf hΦ fl_X8_103 o4 dX8_takeWheel_64 ?_
    obtain ⟨o9, h⟩ := h
    refine ex_if_le 74 hΦ dX8_takeWheel_67 (by decide) o9 (fun c => ?_) (fun c => ?_)
    · have h := h.1 c
      refine ex_iload_n hΦ dX8_takeWheel_74 rfl ?_
      refine ex_iload_n hΦ dX8_takeWheel_75 rfl ?_
      obtain ⟨o10, h⟩ := h
      obtain ⟨o11, h⟩ := h
      obtain ⟨o12, h⟩ := h
      refine ex_irem hΦ dX8_takeWheel_76 o10 o11 o12 ?_
      obtain ⟨o13, h⟩ := h
      obtain ⟨m14, hm14⟩ : ∃ m : Mem, m = mu m8 (m8 x0 14) (8 + (m8 x0 7)) (Int.tmod r6 r5) := ⟨_, rfl⟩
      have h := h m14 hm14
      refine ex_iast'' hΦ o13 dX8_takeWheel_77 hm14 ?_
      refine ex_aload_n hΦ dX8_takeWheel_78 rfl o4.1 ?_
      refine ex_dup hΦ dX8_takeWheel_79 (Nat.ne_of_beq_eq_false rfl) ?_
      refine ex_getf hΦ fl_X8_122 o4 dX8_takeWheel_80 ?_
      refine ex_iconst hΦ dX8_takeWheel_83 ?_
      refine ex_iadd hΦ dX8_takeWheel_84 ?_
      obtain ⟨m15, hm15⟩ : ∃ m : Mem, m = mu m14 x0 7 ((m14 x0 7) + 1) := ⟨_, rfl⟩
      have h := h m15 hm15
      refine ex_putf' hΦ fl_X8_122 o4 rfl rfl dX8_takeWheel_85 hm15 ?_
      exact ex_returnv hΦ hR dX8_takeWheel_88 h
    · have h := h.2 c
      refine ex_iconst hΦ dX8_takeWheel_70 ?_
      refine ex_goto 77 hΦ dX8_takeWheel_71 (by decide) ?_
      obtain ⟨o16, h⟩ := h
      obtain ⟨m17, hm17⟩ : ∃ m : Mem, m = mu m8 (m8 x0 14) (8 + (m8 x0 7)) 0 := ⟨_, rfl⟩
      have h := h m17 hm17
      refine ex_iast'' hΦ o16 dX8_takeWheel_77 hm17 ?_
      refine ex_aload_n hΦ dX8_takeWheel_78 rfl o4.1 ?_
      refine ex_dup hΦ dX8_takeWheel_79 (Nat.ne_of_beq_eq_false rfl) ?_
      refine ex_getf hΦ fl_X8_122 o4 dX8_takeWheel_80 ?_
      refine ex_iconst hΦ dX8_takeWheel_83 ?_
      refine ex_iadd hΦ dX8_takeWheel_84 ?_
      obtain ⟨m18, hm18⟩ : ∃ m : Mem, m = mu m17 x0 7 ((m17 x0 7) + 1) := ⟨_, rfl⟩
      have h := h m18 hm18
      refine ex_putf' hΦ fl_X8_122 o4 rfl rfl dX8_takeWheel_85 hm18 ?_
      exact ex_returnv hΦ hR dX8_takeWheel_88 h
theorem eX8_takeWheel {G : Gm} {S : List Sh} {μ : Mem} {Q : Mem → Prop} {x0 x1 : Int} (h : ∀ Φ : Fr, St G Φ cX8_takeWheel RX8 4 2 50 0 0 → Rt G Φ (Pv S Q) 0 0 none → Ex G Φ 4 0 [some (2, x0), some (0, x1), none, none] [] S μ 0 0) : Cv G mX8_takeWheel [(2, x0), (0, x1)] S μ Q :=
  call_of' (plainFor_of_name (by decide +kernel)) [some (2, x0), some (0, x1), none, none] rfl (Nat.le_of_ble_eq_true rfl) (fun Φ hΦ hR => h Φ hΦ hR)
theorem bX8_takeWheel_0 {G : Gm} {Φ : Fr} {S : List Sh} {μ : Mem} {Q : Mem → Prop} (hΦ : St G Φ cX8_takeWheel RX8 4 2 50 0 0) (hR : Rt G Φ (Pv S Q) 0 0 none) {x0 x1 : Int} (h : So S x0 (.inl 8) ∧ (R32 (μ x0 7) ∧ ((8 ≤ (μ x0 7) → Ex G Φ 4 15 [some (2, x0), some (0, x1), none, none] [(0, 0), (2, x0)] S μ 0 0) ∧ (¬ (8 ≤ (μ x0 7)) → Ex G Φ 4 15 [some (2, x0), some (0, x1), none, none] [(0, 1), (2, x0)] S μ 0 0)))) : Ex G Φ 4 0 [some (2, x0), some (0, x1), none, none] [] S μ 0 0 := by
  obtain ⟨o1, h⟩ := h
  refine ex_aload_n hΦ dX8_takeWheel_0 rfl o1.1 ?_
  refine ex_aload_n hΦ dX8_takeWheel_1 rfl o1.1 ?_
  refine ex_getf hΦ fl_X8_122 o1 dX8_takeWheel_2 ?_
  refine ex_bipush hΦ dX8_takeWheel_5 (by decide) ?_
  obtain ⟨o2, h⟩ := h
  refine ex_icmp_ge 14 hΦ dX8_takeWheel_7 (by decide) o2 ⟨by decide, by decide⟩ (fun c => ?_) (fun c => ?_)
  · have h := h.1 c
    refine ex_iconst hΦ dX8_takeWheel_14 ?_
    exact h
  · have h := h.2 c
    refine ex_iconst hΦ dX8_takeWheel_10 ?_
    refine ex_goto 15 hΦ dX8_takeWheel_11 (by decide) ?_
    exact h
theorem eX8_kindOf {G : Gm} {S : List Sh} {μ : Mem} {Q : Int → Mem → Prop} {x0 : Int} (h : ∀ Φ : Fr, St G Φ cX8_kindOf RX8 1 0 0 0 0 → Rt G Φ (Pi S Q) 0 0 (some .int) → Ex G Φ 1 0 [some (0, x0)] [] S μ 0 0) : Ci G mX8_kindOf [(0, x0)] S μ Q :=
  call_of' (plainFor_of_name (by decide +kernel)) [some (0, x0)] rfl (Nat.le_of_ble_eq_true rfl) (fun Φ hΦ hR => h Φ hΦ hR)
theorem bX8_kindOf_0 {G : Gm} {Φ : Fr} {S : List Sh} {μ : Mem} {Q : Int → Mem → Prop} (hΦ : St G Φ cX8_kindOf RX8 1 0 0 0 0) (hR : Rt G Φ (Pi S Q) 0 0 (some .int)) {x0 : Int} (h : R32 x0 ∧ ((x0 ≠ 109 → (x0 ≠ 98 → (x0 ≠ 97 → Q (-1) μ) ∧ (x0 = 97 → Q 2 μ)) ∧ (x0 = 98 → Q 1 μ)) ∧ (x0 = 109 → Q 0 μ))) : Ex G Φ 1 0 [some (0, x0)] [] S μ 0 0 := by
  refine ex_iload_n hΦ dX8_kindOf_0 rfl ?_
  refine ex_bipush hΦ dX8_kindOf_1 (by decide) ?_
  obtain ⟨o1, h⟩ := h
  refine ex_icmp_ne 10 hΦ dX8_kindOf_3 (by decide) o1 ⟨by decide, by decide⟩ (fun c => ?_) (fun c => ?_)
  · have h := h.1 c
    refine ex_iload_n hΦ dX8_kindOf_10 rfl ?_
    refine ex_bipush hΦ dX8_kindOf_11 (by decide) ?_
    refine ex_icmp_ne 20 hΦ dX8_kindOf_13 (by decide) o1 ⟨by decide, by decide⟩ (fun c => ?_) (fun c => ?_)
    · have h := h.1 c
      refine ex_iload_n hΦ dX8_kindOf_20 rfl ?_
      refine ex_bipush hΦ dX8_kindOf_21 (by decide) ?_
      refine ex_icmp_ne 30 hΦ dX8_kindOf_23 (by decide) o1 ⟨by decide, by decide⟩ (fun c => ?_) (fun c => ?_)
      · have h := h.1 c
        refine ex_iconst hΦ dX8_kindOf_30 ?_
        exact ex_returni hΦ hR dX8_kindOf_31 h
      · have h := h.2 c
        refine ex_iconst hΦ dX8_kindOf_26 ?_
        refine ex_goto 31 hΦ dX8_kindOf_27 (by decide) ?_
        exact ex_returni hΦ hR dX8_kindOf_31 h
    · have h := h.2 c
      refine ex_iconst hΦ dX8_kindOf_16 ?_
      refine ex_goto 31 hΦ dX8_kindOf_17 (by decide) ?_
      exact ex_returni hΦ hR dX8_kindOf_31 h
  · have h := h.2 c
    refine ex_iconst hΦ dX8_kindOf_6 ?_
    refine ex_goto 31 hΦ dX8_kindOf_7 (by decide) ?_
    exact ex_returni hΦ hR dX8_kindOf_31 h
theorem bX8_takeLink_15 {G : Gm} {Φ : Fr} {S : List Sh} {μ : Mem} {Q : Mem → Prop} (hΦ : St G Φ cX8_takeLink RX8 4 2 50 0 0) (hR : Rt G Φ (Pv S Q) 0 0 none) {x0 x1 t0 t1 : Int} (h : So S t0 (.inl 8) ∧ (Ci G mX8_want [(2, t0), (0, t1), (0, 3), (0, x1)] S μ (fun r2 μ2 => R32 r2 ∧ ((r2 = 0 → Q μ2) ∧ (¬ (r2 = 0) → So S x0 (.inl 8) ∧ (Ci G mX8_here [(2, x0)] S μ2 (fun r5 μ5 => Ci G mX8_kindOf [(0, r5)] S μ5 (fun r6 μ6 => Ai S (μ2 x0 15) 0 (10 + (μ2 x0 8)) ∧ (∀ m8 : Mem, m8 = mu μ6 (μ2 x0 15) (10 + (μ2 x0 8)) r6 → (Ai S (m8 x0 15) 0 (10 + (μ2 x0 8)) ∧ (R32 (m8 (m8 x0 15) (10 + (μ2 x0 8))) ∧ (((m8 (m8 x0 15) (10 + (μ2 x0 8))) < 0 → Ex G Φ 4 59 [some (2, x0), some (0, x1), some (0, (10 + (μ2 x0 8))), none] [(0, 0), (2, x0)] S m8 0 0) ∧ (¬ ((m8 (m8 x0 15) (10 + (μ2 x0 8))) < 0) → Ex G Φ 4 59 [some (2, x0), some (0, x1), some (0, (10 + (μ2 x0 8))), none] [(0, 1), (2, x0)] S m8 0 0))))))))))))) : Ex G Φ 4 15 [some (2, x0), some (0, x1), none, none] [(0, t1), (2, t0)] S μ 0 0 := by
  refine ex_iconst hΦ dX8_takeLink_15 ?_
  refine ex_iload_n hΦ dX8_takeLink_16 rfl ?_
  obtain ⟨o1, h⟩ := h
  refine ex_callVi [(0, t1), (0, 3), (0, x1)] [(0, x1), (0, 3), (0, t1), (2, t0)] hΦ lkV_X8_117 ⟨by decide, by decide⟩ (Nat.le_of_ble_eq_true rfl) rfl (by decide) 8 (by decide) rfl o1 dX8_takeLink_17 rfl h (fun r2 μ2 h => ?_)
  obtain ⟨o3, h⟩ := h
  refine ex_if_eq 175 hΦ dX8_takeLink_20 (by decide) o3 (fun c => ?_) (fun c => ?_)
  · have h := h.1 c
    exact ex_returnv hΦ hR dX8_takeLink_175 h
  · have h := h.2 c
    refine ex_bipush hΦ dX8_takeLink_23 (by decide) ?_
    obtain ⟨o4, h⟩ := h
    refine ex_aload_n hΦ dX8_takeLink_25 rfl o4.1 ?_
    refine ex_getf hΦ fl_X8_129 o4 dX8_takeLink_26 ?_
    refine ex_iadd hΦ dX8_takeLink_29 ?_
    refine ex_istore_n (L' := [some (2, x0), some (0, x1), some (0, (10 + (μ2 x0 8))), none]) hΦ dX8_takeLink_30 (by decide) rfl ?_
    refine ex_aload_n hΦ dX8_takeLink_31 rfl o4.1 ?_
    refine ex_getf hΦ fl_X8_27 o4 dX8_takeLink_32 ?_
    refine ex_iload_n hΦ dX8_takeLink_35 rfl ?_
    refine ex_aload_n hΦ dX8_takeLink_36 rfl o4.1 ?_
    refine ex_callVi [] [(2, x0), (0, (10 + (μ2 x0 8))), (2, (μ2 x0 15))] hΦ lkV_X8_106 ⟨by decide, by decide⟩ (Nat.le_of_ble_eq_true rfl) rfl (by decide) 8 (by decide) rfl o4 dX8_takeLink_37 rfl h (fun r5 μ5 h => ?_)
    refine ex_callSi [(0, r5)] [(0, r5), (0, (10 + (μ2 x0 8))), (2, (μ2 x0 15))] hΦ lkS_X8_132 ⟨by decide, by decide⟩ (Nat.le_of_ble_eq_true rfl) rfl (by decide) dX8_takeLink_40 rfl h (fun r6 μ6 h => ?_)
    obtain ⟨o7, h⟩ := h
    obtain ⟨m8, hm8⟩ : ∃ m : Mem, m = mu μ6 (μ2 x0 15) (10 + (μ2 x0 8)) r6 := ⟨_, rfl⟩
    have h := h m8 hm8
    refine ex_iast'' hΦ o7 dX8_takeLink_43 hm8 ?_
    refine ex_aload_n hΦ dX8_takeLink_44 rfl o4.1 ?_
    refine ex_aload_n hΦ dX8_takeLink_45 rfl o4.1 ?_
    refine ex_getf hΦ fl_X8_27 o4 dX8_takeLink_46 ?_
    refine ex_iload_n hΦ dX8_takeLink_49 rfl ?_
    obtain ⟨o9, h⟩ := h
    refine ex_iald' hΦ o9 dX8_takeLink_50 ?_
    obtain ⟨o10, h⟩ := h
    refine ex_if_lt 58 hΦ dX8_takeLink_51 (by decide) o10 (fun c => ?_) (fun c => ?_)
    · have h := h.1 c
      refine ex_iconst hΦ dX8_takeLink_58 ?_
      exact h
    · have h := h.2 c
      refine ex_iconst hΦ dX8_takeLink_54 ?_
      refine ex_goto 59 hΦ dX8_takeLink_55 (by decide) ?_
      exact h
theorem bX8_takeLink_59 {G : Gm} {Φ : Fr} {S : List Sh} {μ : Mem} {Q : Mem → Prop} (hΦ : St G Φ cX8_takeLink RX8 4 2 50 0 0) (hR : Rt G Φ (Pv S Q) 0 0 none) {x0 x1 x2 t0 t1 : Int} (h : So S x0 (.inl 8) ∧ (So S t0 (.inl 8) ∧ (Ci G mX8_want [(2, t0), (0, t1), (0, 1), (0, (μ x0 23))] S μ (fun r3 μ3 => R32 r3 ∧ ((r3 = 0 → ∀ m5 : Mem, m5 = mu μ3 x0 8 ((μ3 x0 8) + 1) → (Q m5)) ∧ (¬ (r3 = 0) → ∀ m6 : Mem, m6 = mu μ3 x0 23 ((μ3 x0 23) + 1) → (Ci G mX8_takeNumber [(2, x0), (0, 0), (0, ((m6 x0 7) - 1))] S m6 (fun r7 μ7 => Ai S (m6 x0 16) 0 x2 ∧ (∀ m9 : Mem, m9 = mu μ7 (m6 x0 16) x2 r7 → (Ci G mX8_takeNumber [(2, x0), (0, 0), (0, ((m9 x0 7) - 1))] S m9 (fun r10 μ10 => Ai S (m9 x0 17) 0 x2 ∧ (∀ m12 : Mem, m12 = mu μ10 (m9 x0 17) x2 r10 → (R32 (m12 x0 25) ∧ ((0 < (m12 x0 25) → Ex G Φ 4 142 [some (2, x0), some (0, x1), some (0, x2), none] [(0, 1), (2, x0)] S m12 0 0) ∧ (¬ (0 < (m12 x0 25)) → Ai S (m12 x0 16) 0 x2 ∧ (Ai S (m12 x0 17) 0 x2 ∧ (R32 (m12 (m12 x0 16) x2) ∧ (R32 (m12 (m12 x0 17) x2) ∧ (((m12 (m12 x0 16) x2) = (m12 (m12 x0 17) x2) → Ex G Φ 4 142 [some (2, x0), some (0, x1), some (0, x2), none] [(0, 0), (2, x0)] S m12 0 0) ∧ (¬ ((m12 (m12 x0 16) x2) = (m12 (m12 x0 17) x2)) → Ex G Φ 4 142 [some (2, x0), some (0, x1), some (0, x2), none] [(0, 1), (2, x0)] S m12 0 0)))))))))))))))))))) : Ex G Φ 4 59 [some (2, x0), some (0, x1), some (0, x2), none] [(0, t1), (2, t0)] S μ 0 0 := by
  refine ex_iconst hΦ dX8_takeLink_59 ?_
  obtain ⟨o1, h⟩ := h
  refine ex_aload_n hΦ dX8_takeLink_60 rfl o1.1 ?_
  refine ex_getf hΦ fl_X8_100 o1 dX8_takeLink_61 ?_
  obtain ⟨o2, h⟩ := h
  refine ex_callVi [(0, t1), (0, 1), (0, (μ x0 23))] [(0, (μ x0 23)), (0, 1), (0, t1), (2, t0)] hΦ lkV_X8_117 ⟨by decide, by decide⟩ (Nat.le_of_ble_eq_true rfl) rfl (by decide) 8 (by decide) rfl o2 dX8_takeLink_64 rfl h (fun r3 μ3 h => ?_)
  obtain ⟨o4, h⟩ := h
  refine ex_if_eq 165 hΦ dX8_takeLink_67 (by decide) o4 (fun c => ?_) (fun c => ?_)
  · have h := h.1 c
    refine ex_aload_n hΦ dX8_takeLink_165 rfl o1.1 ?_
    refine ex_dup hΦ dX8_takeLink_166 (Nat.ne_of_beq_eq_false rfl) ?_
    refine ex_getf hΦ fl_X8_129 o1 dX8_takeLink_167 ?_
    refine ex_iconst hΦ dX8_takeLink_170 ?_
    refine ex_iadd hΦ dX8_takeLink_171 ?_
    obtain ⟨m5, hm5⟩ : ∃ m : Mem, m = mu μ3 x0 8 ((μ3 x0 8) + 1) := ⟨_, rfl⟩
    have h := h m5 hm5
    refine ex_putf' hΦ fl_X8_129 o1 rfl rfl dX8_takeLink_172 hm5 ?_
    exact ex_returnv hΦ hR dX8_takeLink_175 h
  · have h := h.2 c
    refine ex_aload_n hΦ dX8_takeLink_70 rfl o1.1 ?_
    refine ex_dup hΦ dX8_takeLink_71 (Nat.ne_of_beq_eq_false rfl) ?_
    refine ex_getf hΦ fl_X8_100 o1 dX8_takeLink_72 ?_
    refine ex_iconst hΦ dX8_takeLink_75 ?_
    refine ex_iadd hΦ dX8_takeLink_76 ?_
    obtain ⟨m6, hm6⟩ : ∃ m : Mem, m = mu μ3 x0 23 ((μ3 x0 23) + 1) := ⟨_, rfl⟩
    have h := h m6 hm6
    refine ex_putf' hΦ fl_X8_100 o1 rfl rfl dX8_takeLink_77 hm6 ?_
    refine ex_aload_n hΦ dX8_takeLink_80 rfl o1.1 ?_
    refine ex_getf hΦ fl_X8_30 o1 dX8_takeLink_81 ?_
    refine ex_iload_n hΦ dX8_takeLink_84 rfl ?_
    refine ex_aload_n hΦ dX8_takeLink_85 rfl o1.1 ?_
    refine ex_iconst hΦ dX8_takeLink_86 ?_
    refine ex_aload_n hΦ dX8_takeLink_87 rfl o1.1 ?_
    refine ex_getf hΦ fl_X8_122 o1 dX8_takeLink_88 ?_
    refine ex_iconst hΦ dX8_takeLink_91 ?_
    refine ex_isub hΦ dX8_takeLink_92 ?_
    refine ex_callVi [(0, 0), (0, ((m6 x0 7) - 1))] [(0, ((m6 x0 7) - 1)), (0, 0), (2, x0), (0, x2), (2, (m6 x0 16))] hΦ lkV_X8_125 ⟨by decide, by decide⟩ (Nat.le_of_ble_eq_true rfl) rfl (by decide) 8 (by decide) rfl o1 dX8_takeLink_93 rfl h (fun r7 μ7 h => ?_)
    obtain ⟨o8, h⟩ := h
    obtain ⟨m9, hm9⟩ : ∃ m : Mem, m = mu μ7 (m6 x0 16) x2 r7 := ⟨_, rfl⟩
    have h := h m9 hm9
    refine ex_iast'' hΦ o8 dX8_takeLink_96 hm9 ?_
    refine ex_aload_n hΦ dX8_takeLink_97 rfl o1.1 ?_
    refine ex_getf hΦ fl_X8_33 o1 dX8_takeLink_98 ?_
    refine ex_iload_n hΦ dX8_takeLink_101 rfl ?_
    refine ex_aload_n hΦ dX8_takeLink_102 rfl o1.1 ?_
    refine ex_iconst hΦ dX8_takeLink_103 ?_
    refine ex_aload_n hΦ dX8_takeLink_104 rfl o1.1 ?_
    refine ex_getf hΦ fl_X8_122 o1 dX8_takeLink_105 ?_
    refine ex_iconst hΦ dX8_takeLink_108 ?_
    refine ex_isub hΦ dX8_takeLink_109 ?_
    refine ex_callVi [(0, 0), (0, ((m9 x0 7) - 1))] [(0, ((m9 x0 7) - 1)), (0, 0), (2, x0), (0, x2), (2, (m9 x0 17))] hΦ lkV_X8_125 ⟨by decide, by decide⟩ (Nat.le_of_ble_eq_true rfl) rfl (by decide) 8 (by decide) rfl o1 dX8_takeLink_110 rfl h (fun r10 μ10 h => ?_)
    obtain ⟨o11, h⟩ := h
    obtain ⟨m12, hm12⟩ : ∃ m : Mem, m = mu μ10 (m9 x0 17) x2 r10 := ⟨_, rfl⟩
    have h := h m12 hm12
    refine ex_iast'' hΦ o11 dX8_takeLink_113 hm12 ?_
    refine ex_aload_n hΦ dX8_takeLink_114 rfl o1.1 ?_
    refine ex_aload_n hΦ dX8_takeLink_115 rfl o1.1 ?_
    refine ex_getf hΦ fl_X8_103 o1 dX8_takeLink_116 ?_
    obtain ⟨o13, h⟩ := h
    refine ex_if_gt 137 hΦ dX8_takeLink_119 (by decide) o13 (fun c => ?_) (fun c => ?_)
    · have h := h.1 c
      refine ex_iconst hΦ dX8_takeLink_137 ?_
      refine ex_goto 142 hΦ dX8_takeLink_138 (by decide) ?_
      exact h
    · have h := h.2 c
      refine ex_aload_n hΦ dX8_takeLink_122 rfl o1.1 ?_
      refine ex_getf hΦ fl_X8_30 o1 dX8_takeLink_123 ?_
      refine ex_iload_n hΦ dX8_takeLink_126 rfl ?_
      obtain ⟨o14, h⟩ := h
      refine ex_iald' hΦ o14 dX8_takeLink_127 ?_
      refine ex_aload_n hΦ dX8_takeLink_128 rfl o1.1 ?_
      refine ex_getf hΦ fl_X8_33 o1 dX8_takeLink_129 ?_
      refine ex_iload_n hΦ dX8_takeLink_132 rfl ?_
      obtain ⟨o15, h⟩ := h
      refine ex_iald' hΦ o15 dX8_takeLink_133 ?_
      obtain ⟨o16, h⟩ := h
      obtain ⟨o17, h⟩ := h
      refine ex_icmp_eq 141 hΦ dX8_takeLink_134 (by decide) o16 o17 (fun c => ?_) (fun c => ?_)
      · have h := h.1 c
        refine ex_iconst hΦ dX8_takeLink_141 ?_
        exact h
      · have h := h.2 c
        refine ex_iconst hΦ dX8_takeLink_137 ?_
        refine ex_goto 142 hΦ dX8_takeLink_138 (by decide) ?_
        exact h
theorem bX8_takeLink_142 {G : Gm} {Φ : Fr} {S : List Sh} {μ : Mem} {Q : Mem → Prop} (hΦ : St G Φ cX8_takeLink RX8 4 2 50 0 0) (hR : Rt G Φ (Pv S Q) 0 0 none) {x0 x1 x2 t0 t1 : Int} (h : So S x0 (.inl 8) ∧ (So S t0 (.inl 8) ∧ (Ci G mX8_want [(2, t0), (0, t1), (0, 4), (0, (μ x0 24))] S μ (fun r3 μ3 => Ci G mX8_takeNumber [(2, x0), (0, 0), (0, 999)] S μ3 (fun r4 μ4 => Ai S (μ3 x0 18) 0 x2 ∧ (∀ m6 : Mem, m6 = mu μ4 (μ3 x0 18) x2 r4 → (∀ m7 : Mem, m7 = mu m6 x0 8 ((m6 x0 8) + 1) → (Q m7)))))))) : Ex G Φ 4 142 [some (2, x0), some (0, x1), some (0, x2), none] [(0, t1), (2, t0)] S μ 0 0 := by
  refine ex_iconst hΦ dX8_takeLink_142 ?_
  obtain ⟨o1, h⟩ := h
  refine ex_aload_n hΦ dX8_takeLink_143 rfl o1.1 ?_
  refine ex_getf hΦ fl_X8_110 o1 dX8_takeLink_144 ?_
  obtain ⟨o2, h⟩ := h
  refine ex_callVi [(0, t1), (0, 4), (0, (μ x0 24))] [(0, (μ x0 24)), (0, 4), (0, t1), (2, t0)] hΦ lkV_X8_117 ⟨by decide, by decide⟩ (Nat.le_of_ble_eq_true rfl) rfl (by decide) 8 (by decide) rfl o2 dX8_takeLink_147 rfl h (fun r3 μ3 h => ?_)
  refine ex_istore_n (L' := [some (2, x0), some (0, x1), some (0, x2), some (0, r3)]) hΦ dX8_takeLink_150 (by decide) rfl ?_
  refine ex_aload_n hΦ dX8_takeLink_151 rfl o1.1 ?_
  refine ex_getf hΦ fl_X8_36 o1 dX8_takeLink_152 ?_
  refine ex_iload_n hΦ dX8_takeLink_155 rfl ?_
  refine ex_aload_n hΦ dX8_takeLink_156 rfl o1.1 ?_
  refine ex_iconst hΦ dX8_takeLink_157 ?_
  refine ex_sipush hΦ dX8_takeLink_158 (by decide) ?_
  refine ex_callVi [(0, 0), (0, 999)] [(0, 999), (0, 0), (2, x0), (0, x2), (2, (μ3 x0 18))] hΦ lkV_X8_125 ⟨by decide, by decide⟩ (Nat.le_of_ble_eq_true rfl) rfl (by decide) 8 (by decide) rfl o1 dX8_takeLink_161 rfl h (fun r4 μ4 h => ?_)
  obtain ⟨o5, h⟩ := h
  obtain ⟨m6, hm6⟩ : ∃ m : Mem, m = mu μ4 (μ3 x0 18) x2 r4 := ⟨_, rfl⟩
  have h := h m6 hm6
  refine ex_iast'' hΦ o5 dX8_takeLink_164 hm6 ?_
  refine ex_aload_n hΦ dX8_takeLink_165 rfl o1.1 ?_
  refine ex_dup hΦ dX8_takeLink_166 (Nat.ne_of_beq_eq_false rfl) ?_
  refine ex_getf hΦ fl_X8_129 o1 dX8_takeLink_167 ?_
  refine ex_iconst hΦ dX8_takeLink_170 ?_
  refine ex_iadd hΦ dX8_takeLink_171 ?_
  obtain ⟨m7, hm7⟩ : ∃ m : Mem, m = mu m6 x0 8 ((m6 x0 8) + 1) := ⟨_, rfl⟩
  have h := h m7 hm7
  refine ex_putf' hΦ fl_X8_129 o1 rfl rfl dX8_takeLink_172 hm7 ?_
  exact ex_returnv hΦ hR dX8_takeLink_175 h
theorem eX8_takeLink {G : Gm} {S : List Sh} {μ : Mem} {Q : Mem → Prop} {x0 x1 : Int} (h : ∀ Φ : Fr, St G Φ cX8_takeLink RX8 4 2 50 0 0 → Rt G Φ (Pv S Q) 0 0 none → Ex G Φ 4 0 [some (2, x0), some (0, x1), none, none] [] S μ 0 0) : Cv G mX8_takeLink [(2, x0), (0, x1)] S μ Q :=
  call_of' (plainFor_of_name (by decide +kernel)) [some (2, x0), some (0, x1), none, none] rfl (Nat.le_of_ble_eq_true rfl) (fun Φ hΦ hR => h Φ hΦ hR)
theorem bX8_takeLink_0 {G : Gm} {Φ : Fr} {S : List Sh} {μ : Mem} {Q : Mem → Prop} (hΦ : St G Φ cX8_takeLink RX8 4 2 50 0 0) (hR : Rt G Φ (Pv S Q) 0 0 none) {x0 x1 : Int} (h : So S x0 (.inl 8) ∧ (R32 (μ x0 8) ∧ ((10 ≤ (μ x0 8) → Ex G Φ 4 15 [some (2, x0), some (0, x1), none, none] [(0, 0), (2, x0)] S μ 0 0) ∧ (¬ (10 ≤ (μ x0 8)) → Ex G Φ 4 15 [some (2, x0), some (0, x1), none, none] [(0, 1), (2, x0)] S μ 0 0)))) : Ex G Φ 4 0 [some (2, x0), some (0, x1), none, none] [] S μ 0 0 := by
  obtain ⟨o1, h⟩ := h
  refine ex_aload_n hΦ dX8_takeLink_0 rfl o1.1 ?_
  refine ex_aload_n hΦ dX8_takeLink_1 rfl o1.1 ?_
  refine ex_getf hΦ fl_X8_129 o1 dX8_takeLink_2 ?_
  refine ex_bipush hΦ dX8_takeLink_5 (by decide) ?_
  obtain ⟨o2, h⟩ := h
  refine ex_icmp_ge 14 hΦ dX8_takeLink_7 (by decide) o2 ⟨by decide, by decide⟩ (fun c => ?_) (fun c => ?_)
  · have h := h.1 c
    refine ex_iconst hΦ dX8_takeLink_14 ?_
    exact h
  · have h := h.2 c
    refine ex_iconst hΦ dX8_takeLink_10 ?_
    refine ex_goto 15 hΦ dX8_takeLink_11 (by decide) ?_
    exact h
theorem bX8_takeDriven_13 {G : Gm} {Φ : Fr} {S : List Sh} {μ : Mem} {Q : Mem → Prop} (hΦ : St G Φ cX8_takeDriven RX8 2 2 50 0 0) (hR : Rt G Φ (Pv S Q) 0 0 none) {x0 x1 t0 t1 : Int} (h : So S t0 (.inl 8) ∧ (Ci G mX8_want [(2, t0), (0, t1), (0, 3), (0, x1)] S μ (fun r2 μ2 => R32 r2 ∧ ((r2 = 0 → Q μ2) ∧ (¬ (r2 = 0) → So S x0 (.inl 8) ∧ (∀ m5 : Mem, m5 = mu μ2 x0 12 1 → (Ci G mX8_takeNumber [(2, x0), (0, 0), (0, ((m5 x0 7) - 1))] S m5 (fun r6 μ6 => ∀ m7 : Mem, m7 = mu μ6 x0 10 r6 → (Ci G mX8_takeNumber [(2, x0), (0, 1), (0, 30)] S m7 (fun r8 μ8 => ∀ m9 : Mem, m9 = mu μ8 x0 11 r8 → (Q m9))))))))))) : Ex G Φ 2 13 [some (2, x0), some (0, x1)] [(0, t1), (2, t0)] S μ 0 0 := by
  refine ex_iconst hΦ dX8_takeDriven_13 ?_
  refine ex_iload_n hΦ dX8_takeDriven_14 rfl ?_
  obtain ⟨o1, h⟩ := h
  refine ex_callVi [(0, t1), (0, 3), (0, x1)] [(0, x1), (0, 3), (0, t1), (2, t0)] hΦ lkV_X8_117 ⟨by decide, by decide⟩ (Nat.le_of_ble_eq_true rfl) rfl (by decide) 8 (by decide) rfl o1 dX8_takeDriven_15 rfl h (fun r2 μ2 h => ?_)
  obtain ⟨o3, h⟩ := h
  refine ex_if_eq 52 hΦ dX8_takeDriven_18 (by decide) o3 (fun c => ?_) (fun c => ?_)
  · have h := h.1 c
    exact ex_returnv hΦ hR dX8_takeDriven_52 h
  · have h := h.2 c
    obtain ⟨o4, h⟩ := h
    refine ex_aload_n hΦ dX8_takeDriven_21 rfl o4.1 ?_
    refine ex_iconst hΦ dX8_takeDriven_22 ?_
    obtain ⟨m5, hm5⟩ : ∃ m : Mem, m = mu μ2 x0 12 1 := ⟨_, rfl⟩
    have h := h m5 hm5
    refine ex_putz' hΦ fl_X8_136 o4 rfl rfl (by decide) (by decide) dX8_takeDriven_23 hm5 ?_
    refine ex_aload_n hΦ dX8_takeDriven_26 rfl o4.1 ?_
    refine ex_aload_n hΦ dX8_takeDriven_27 rfl o4.1 ?_
    refine ex_iconst hΦ dX8_takeDriven_28 ?_
    refine ex_aload_n hΦ dX8_takeDriven_29 rfl o4.1 ?_
    refine ex_getf hΦ fl_X8_122 o4 dX8_takeDriven_30 ?_
    refine ex_iconst hΦ dX8_takeDriven_33 ?_
    refine ex_isub hΦ dX8_takeDriven_34 ?_
    refine ex_callVi [(0, 0), (0, ((m5 x0 7) - 1))] [(0, ((m5 x0 7) - 1)), (0, 0), (2, x0), (2, x0)] hΦ lkV_X8_125 ⟨by decide, by decide⟩ (Nat.le_of_ble_eq_true rfl) rfl (by decide) 8 (by decide) rfl o4 dX8_takeDriven_35 rfl h (fun r6 μ6 h => ?_)
    obtain ⟨m7, hm7⟩ : ∃ m : Mem, m = mu μ6 x0 10 r6 := ⟨_, rfl⟩
    have h := h m7 hm7
    refine ex_putf' hΦ fl_X8_140 o4 rfl rfl dX8_takeDriven_38 hm7 ?_
    refine ex_aload_n hΦ dX8_takeDriven_41 rfl o4.1 ?_
    refine ex_aload_n hΦ dX8_takeDriven_42 rfl o4.1 ?_
    refine ex_iconst hΦ dX8_takeDriven_43 ?_
    refine ex_bipush hΦ dX8_takeDriven_44 (by decide) ?_
    refine ex_callVi [(0, 1), (0, 30)] [(0, 30), (0, 1), (2, x0), (2, x0)] hΦ lkV_X8_125 ⟨by decide, by decide⟩ (Nat.le_of_ble_eq_true rfl) rfl (by decide) 8 (by decide) rfl o4 dX8_takeDriven_46 rfl h (fun r8 μ8 h => ?_)
    obtain ⟨m9, hm9⟩ : ∃ m : Mem, m = mu μ8 x0 11 r8 := ⟨_, rfl⟩
    have h := h m9 hm9
    refine ex_putf' hΦ fl_X8_143 o4 rfl rfl dX8_takeDriven_49 hm9 ?_
    exact ex_returnv hΦ hR dX8_takeDriven_52 h
theorem eX8_takeDriven {G : Gm} {S : List Sh} {μ : Mem} {Q : Mem → Prop} {x0 x1 : Int} (h : ∀ Φ : Fr, St G Φ cX8_takeDriven RX8 2 2 50 0 0 → Rt G Φ (Pv S Q) 0 0 none → Ex G Φ 2 0 [some (2, x0), some (0, x1)] [] S μ 0 0) : Cv G mX8_takeDriven [(2, x0), (0, x1)] S μ Q :=
  call_of' (plainFor_of_name (by decide +kernel)) [some (2, x0), some (0, x1)] rfl (Nat.le_of_ble_eq_true rfl) (fun Φ hΦ hR => h Φ hΦ hR)
theorem bX8_takeDriven_0 {G : Gm} {Φ : Fr} {S : List Sh} {μ : Mem} {Q : Mem → Prop} (hΦ : St G Φ cX8_takeDriven RX8 2 2 50 0 0) (hR : Rt G Φ (Pv S Q) 0 0 none) {x0 x1 : Int} (h : So S x0 (.inl 8) ∧ (R32 (μ x0 12) ∧ (((μ x0 12) ≠ 0 → Ex G Φ 2 13 [some (2, x0), some (0, x1)] [(0, 0), (2, x0)] S μ 0 0) ∧ ((μ x0 12) = 0 → Ex G Φ 2 13 [some (2, x0), some (0, x1)] [(0, 1), (2, x0)] S μ 0 0)))) : Ex G Φ 2 0 [some (2, x0), some (0, x1)] [] S μ 0 0 := by
  obtain ⟨o1, h⟩ := h
  refine ex_aload_n hΦ dX8_takeDriven_0 rfl o1.1 ?_
  refine ex_aload_n hΦ dX8_takeDriven_1 rfl o1.1 ?_
  refine ex_getf hΦ fl_X8_136 o1 dX8_takeDriven_2 ?_
  obtain ⟨o2, h⟩ := h
  refine ex_if_ne 12 hΦ dX8_takeDriven_5 (by decide) o2 (fun c => ?_) (fun c => ?_)
  · have h := h.1 c
    refine ex_iconst hΦ dX8_takeDriven_12 ?_
    exact h
  · have h := h.2 c
    refine ex_iconst hΦ dX8_takeDriven_8 ?_
    refine ex_goto 13 hΦ dX8_takeDriven_9 (by decide) ?_
    exact h
theorem bX8_takeFeast_15 {G : Gm} {Φ : Fr} {S : List Sh} {μ : Mem} {Q : Mem → Prop} (hΦ : St G Φ cX8_takeFeast RX8 4 2 50 0 0) (hR : Rt G Φ (Pv S Q) 0 0 none) {x0 x1 t0 t1 : Int} (h : So S t0 (.inl 8) ∧ (Ci G mX8_want [(2, t0), (0, t1), (0, 3), (0, x1)] S μ (fun r2 μ2 => R32 r2 ∧ ((r2 = 0 → Q μ2) ∧ (¬ (r2 = 0) → So S x0 (.inl 8) ∧ (Ci G mX8_takeNumber [(2, x0), (0, 0), (0, ((μ2 x0 7) - 1))] S μ2 (fun r5 μ5 => Ai S (μ2 x0 19) 0 (6 + (μ2 x0 9)) ∧ (∀ m7 : Mem, m7 = mu μ5 (μ2 x0 19) (6 + (μ2 x0 9)) r5 → (Ci G mX8_takeNumber [(2, x0), (0, 0), (0, 29)] S m7 (fun r8 μ8 => Ai S (m7 x0 20) 0 (6 + (μ2 x0 9)) ∧ (∀ m10 : Mem, m10 = mu μ8 (m7 x0 20) (6 + (μ2 x0 9)) r8 → (R32 (m10 x0 25) ∧ ((0 < (m10 x0 25) → Ci G mX8_want [(2, x0), (0, 1), (0, 4), (0, (m10 x0 24))] S m10 (fun r12 μ12 => ∀ m13 : Mem, m13 = mu μ12 x0 9 ((μ12 x0 9) + 1) → (Q m13))) ∧ (¬ (0 < (m10 x0 25)) → Ai S (m10 x0 20) 0 (6 + (μ2 x0 9)) ∧ (Ai S (m10 x0 19) 0 (6 + (μ2 x0 9)) ∧ (Ai S (m10 x0 13) 0 (8 + (m10 (m10 x0 19) (6 + (μ2 x0 9)))) ∧ (R32 (m10 (m10 x0 20) (6 + (μ2 x0 9))) ∧ (R32 (m10 (m10 x0 13) (8 + (m10 (m10 x0 19) (6 + (μ2 x0 9))))) ∧ (((m10 (m10 x0 13) (8 + (m10 (m10 x0 19) (6 + (μ2 x0 9))))) ≤ (m10 (m10 x0 20) (6 + (μ2 x0 9))) → Ci G mX8_want [(2, x0), (0, 0), (0, 4), (0, (m10 x0 24))] S m10 (fun r19 μ19 => ∀ m20 : Mem, m20 = mu μ19 x0 9 ((μ19 x0 9) + 1) → (Q m20))) ∧ (¬ ((m10 (m10 x0 13) (8 + (m10 (m10 x0 19) (6 + (μ2 x0 9))))) ≤ (m10 (m10 x0 20) (6 + (μ2 x0 9)))) → Ci G mX8_want [(2, x0), (0, 1), (0, 4), (0, (m10 x0 24))] S m10 (fun r21 μ21 => ∀ m22 : Mem, m22 = mu μ21 x0 9 ((μ21 x0 9) + 1) → (Q m22)))))))))))))))))))))) : Ex G Φ 4 15 [some (2, x0), some (0, x1), none, none] [(0, t1), (2, t0)] S μ 0 0 := by
  refine ex_iconst hΦ dX8_takeFeast_15 ?_
  refine ex_iload_n hΦ dX8_takeFeast_16 rfl ?_
  obtain ⟨o1, h⟩ := h
  refine ex_callVi [(0, t1), (0, 3), (0, x1)] [(0, x1), (0, 3), (0, t1), (2, t0)] hΦ lkV_X8_117 ⟨by decide, by decide⟩ (Nat.le_of_ble_eq_true rfl) rfl (by decide) 8 (by decide) rfl o1 dX8_takeFeast_17 rfl h (fun r2 μ2 h => ?_)
  obtain ⟨o3, h⟩ := h
  refine ex_if_eq 116 hΦ dX8_takeFeast_20 (by decide) o3 (fun c => ?_) (fun c => ?_)
  · have h := h.1 c
    exact ex_returnv hΦ hR dX8_takeFeast_116 h
  · have h := h.2 c
    refine ex_bipush hΦ dX8_takeFeast_23 (by decide) ?_
    obtain ⟨o4, h⟩ := h
    refine ex_aload_n hΦ dX8_takeFeast_25 rfl o4.1 ?_
    refine ex_getf hΦ fl_X8_146 o4 dX8_takeFeast_26 ?_
    refine ex_iadd hΦ dX8_takeFeast_29 ?_
    refine ex_istore_n (L' := [some (2, x0), some (0, x1), some (0, (6 + (μ2 x0 9))), none]) hΦ dX8_takeFeast_30 (by decide) rfl ?_
    refine ex_aload_n hΦ dX8_takeFeast_31 rfl o4.1 ?_
    refine ex_getf hΦ fl_X8_39 o4 dX8_takeFeast_32 ?_
    refine ex_iload_n hΦ dX8_takeFeast_35 rfl ?_
    refine ex_aload_n hΦ dX8_takeFeast_36 rfl o4.1 ?_
    refine ex_iconst hΦ dX8_takeFeast_37 ?_
    refine ex_aload_n hΦ dX8_takeFeast_38 rfl o4.1 ?_
    refine ex_getf hΦ fl_X8_122 o4 dX8_takeFeast_39 ?_
    refine ex_iconst hΦ dX8_takeFeast_42 ?_
    refine ex_isub hΦ dX8_takeFeast_43 ?_
    refine ex_callVi [(0, 0), (0, ((μ2 x0 7) - 1))] [(0, ((μ2 x0 7) - 1)), (0, 0), (2, x0), (0, (6 + (μ2 x0 9))), (2, (μ2 x0 19))] hΦ lkV_X8_125 ⟨by decide, by decide⟩ (Nat.le_of_ble_eq_true rfl) rfl (by decide) 8 (by decide) rfl o4 dX8_takeFeast_44 rfl h (fun r5 μ5 h => ?_)
    obtain ⟨o6, h⟩ := h
    obtain ⟨m7, hm7⟩ : ∃ m : Mem, m = mu μ5 (μ2 x0 19) (6 + (μ2 x0 9)) r5 := ⟨_, rfl⟩
    have h := h m7 hm7
    refine ex_iast'' hΦ o6 dX8_takeFeast_47 hm7 ?_
    refine ex_aload_n hΦ dX8_takeFeast_48 rfl o4.1 ?_
    refine ex_getf hΦ fl_X8_42 o4 dX8_takeFeast_49 ?_
    refine ex_iload_n hΦ dX8_takeFeast_52 rfl ?_
    refine ex_aload_n hΦ dX8_takeFeast_53 rfl o4.1 ?_
    refine ex_iconst hΦ dX8_takeFeast_54 ?_
    refine ex_bipush hΦ dX8_takeFeast_55 (by decide) ?_
    refine ex_callVi [(0, 0), (0, 29)] [(0, 29), (0, 0), (2, x0), (0, (6 + (μ2 x0 9))), (2, (m7 x0 20))] hΦ lkV_X8_125 ⟨by decide, by decide⟩ (Nat.le_of_ble_eq_true rfl) rfl (by decide) 8 (by decide) rfl o4 dX8_takeFeast_57 rfl h (fun r8 μ8 h => ?_)
    obtain ⟨o9, h⟩ := h
    obtain ⟨m10, hm10⟩ : ∃ m : Mem, m = mu μ8 (m7 x0 20) (6 + (μ2 x0 9)) r8 := ⟨_, rfl⟩
    have h := h m10 hm10
    refine ex_iast'' hΦ o9 dX8_takeFeast_60 hm10 ?_
    refine ex_aload_n hΦ dX8_takeFeast_61 rfl o4.1 ?_
    refine ex_aload_n hΦ dX8_takeFeast_62 rfl o4.1 ?_
    refine ex_getf hΦ fl_X8_103 o4 dX8_takeFeast_63 ?_
    obtain ⟨o11, h⟩ := h
    refine ex_if_gt 92 hΦ dX8_takeFeast_66 (by decide) o11 (fun c => ?_) (fun c => ?_)
    · have h := h.1 c
      refine ex_iconst hΦ dX8_takeFeast_92 ?_
      refine ex_goto 97 hΦ dX8_takeFeast_93 (by decide) ?_
      refine ex_iconst hΦ dX8_takeFeast_97 ?_
      refine ex_aload_n hΦ dX8_takeFeast_98 rfl o4.1 ?_
      refine ex_getf hΦ fl_X8_110 o4 dX8_takeFeast_99 ?_
      refine ex_callVi [(0, 1), (0, 4), (0, (m10 x0 24))] [(0, (m10 x0 24)), (0, 4), (0, 1), (2, x0)] hΦ lkV_X8_117 ⟨by decide, by decide⟩ (Nat.le_of_ble_eq_true rfl) rfl (by decide) 8 (by decide) rfl o4 dX8_takeFeast_102 rfl h (fun r12 μ12 h => ?_)
      refine ex_istore_n (L' := [some (2, x0), some (0, x1), some (0, (6 + (μ2 x0 9))), some (0, r12)]) hΦ dX8_takeFeast_105 (by decide) rfl ?_
      refine ex_aload_n hΦ dX8_takeFeast_106 rfl o4.1 ?_
      refine ex_dup hΦ dX8_takeFeast_107 (Nat.ne_of_beq_eq_false rfl) ?_
      refine ex_getf hΦ fl_X8_146 o4 dX8_takeFeast_108 ?_
      refine ex_iconst hΦ dX8_takeFeast_111 ?_
      refine ex_iadd hΦ dX8_takeFeast_112 ?_
      obtain ⟨m13, hm13⟩ : ∃ m : Mem, m = mu μ12 x0 9 ((μ12 x0 9) + 1) := ⟨_, rfl⟩
      have h := h m13 hm13
      refine ex_putf' hΦ fl_X8_146 o4 rfl rfl dX8_takeFeast_113 hm13 ?_
      exact ex_returnv hΦ hR dX8_takeFeast_116 h
    · have h := h.2 c
      refine ex_aload_n hΦ dX8_takeFeast_69 rfl o4.1 ?_
      refine ex_getf hΦ fl_X8_42 o4 dX8_takeFeast_70 ?_
      refine ex_iload_n hΦ dX8_takeFeast_73 rfl ?_
      obtain ⟨o14, h⟩ := h
      refine ex_iald' hΦ o14 dX8_takeFeast_74 ?_
      refine ex_aload_n hΦ dX8_takeFeast_75 rfl o4.1 ?_
      refine ex_getf hΦ fl_X8_21 o4 dX8_takeFeast_76 ?_
      refine ex_bipush hΦ dX8_takeFeast_79 (by decide) ?_
      refine ex_aload_n hΦ dX8_takeFeast_81 rfl o4.1 ?_
      refine ex_getf hΦ fl_X8_39 o4 dX8_takeFeast_82 ?_
      refine ex_iload_n hΦ dX8_takeFeast_85 rfl ?_
      obtain ⟨o15, h⟩ := h
      refine ex_iald' hΦ o15 dX8_takeFeast_86 ?_
      refine ex_iadd hΦ dX8_takeFeast_87 ?_
      obtain ⟨o16, h⟩ := h
      refine ex_iald' hΦ o16 dX8_takeFeast_88 ?_
      obtain ⟨o17, h⟩ := h
      obtain ⟨o18, h⟩ := h
      refine ex_icmp_ge 96 hΦ dX8_takeFeast_89 (by decide) o17 o18 (fun c => ?_) (fun c => ?_)
      · have h := h.1 c
        refine ex_iconst hΦ dX8_takeFeast_96 ?_
        refine ex_iconst hΦ dX8_takeFeast_97 ?_
        refine ex_aload_n hΦ dX8_takeFeast_98 rfl o4.1 ?_
        refine ex_getf hΦ fl_X8_110 o4 dX8_takeFeast_99 ?_
        refine ex_callVi [(0, 0), (0, 4), (0, (m10 x0 24))] [(0, (m10 x0 24)), (0, 4), (0, 0), (2, x0)] hΦ lkV_X8_117 ⟨by decide, by decide⟩ (Nat.le_of_ble_eq_true rfl) rfl (by decide) 8 (by decide) rfl o4 dX8_takeFeast_102 rfl h (fun r19 μ19 h => ?_)
        refine ex_istore_n (L' := [some (2, x0), some (0, x1), some (0, (6 + (μ2 x0 9))), some (0, r19)]) hΦ dX8_takeFeast_105 (by decide) rfl ?_
        refine ex_aload_n hΦ dX8_takeFeast_106 rfl o4.1 ?_
        refine ex_dup hΦ dX8_takeFeast_107 (Nat.ne_of_beq_eq_false rfl) ?_
        refine ex_getf hΦ fl_X8_146 o4 dX8_takeFeast_108 ?_
        refine ex_iconst hΦ dX8_takeFeast_111 ?_
        refine ex_iadd hΦ dX8_takeFeast_112 ?_
        obtain ⟨m20, hm20⟩ : ∃ m : Mem, m = mu μ19 x0 9 ((μ19 x0 9) + 1) := ⟨_, rfl⟩
        have h := h m20 hm20
        refine ex_putf' hΦ fl_X8_146 o4 rfl rfl dX8_takeFeast_113 hm20 ?_
        exact ex_returnv hΦ hR dX8_takeFeast_116 h
      · have h := h.2 c
        refine ex_iconst hΦ dX8_takeFeast_92 ?_
        refine ex_goto 97 hΦ dX8_takeFeast_93 (by decide) ?_
        refine ex_iconst hΦ dX8_takeFeast_97 ?_
        refine ex_aload_n hΦ dX8_takeFeast_98 rfl o4.1 ?_
        refine ex_getf hΦ fl_X8_110 o4 dX8_takeFeast_99 ?_
        refine ex_callVi [(0, 1), (0, 4), (0, (m10 x0 24))] [(0, (m10 x0 24)), (0, 4), (0, 1), (2, x0)] hΦ lkV_X8_117 ⟨by decide, by decide⟩ (Nat.le_of_ble_eq_true rfl) rfl (by decide) 8 (by decide) rfl o4 dX8_takeFeast_102 rfl h (fun r21 μ21 h => ?_)
        refine ex_istore_n (L' := [some (2, x0), some (0, x1), some (0, (6 + (μ2 x0 9))), some (0, r21)]) hΦ dX8_takeFeast_105 (by decide) rfl ?_
        refine ex_aload_n hΦ dX8_takeFeast_106 rfl o4.1 ?_
        refine ex_dup hΦ dX8_takeFeast_107 (Nat.ne_of_beq_eq_false rfl) ?_
        refine ex_getf hΦ fl_X8_146 o4 dX8_takeFeast_108 ?_
        refine ex_iconst hΦ dX8_takeFeast_111 ?_
        refine ex_iadd hΦ dX8_takeFeast_112 ?_
        obtain ⟨m22, hm22⟩ : ∃ m : Mem, m = mu μ21 x0 9 ((μ21 x0 9) + 1) := ⟨_, rfl⟩
        have h := h m22 hm22
        refine ex_putf' hΦ fl_X8_146 o4 rfl rfl dX8_takeFeast_113 hm22 ?_
        exact ex_returnv hΦ hR dX8_takeFeast_116 h
theorem eX8_takeFeast {G : Gm} {S : List Sh} {μ : Mem} {Q : Mem → Prop} {x0 x1 : Int} (h : ∀ Φ : Fr, St G Φ cX8_takeFeast RX8 4 2 50 0 0 → Rt G Φ (Pv S Q) 0 0 none → Ex G Φ 4 0 [some (2, x0), some (0, x1), none, none] [] S μ 0 0) : Cv G mX8_takeFeast [(2, x0), (0, x1)] S μ Q :=
  call_of' (plainFor_of_name (by decide +kernel)) [some (2, x0), some (0, x1), none, none] rfl (Nat.le_of_ble_eq_true rfl) (fun Φ hΦ hR => h Φ hΦ hR)
theorem bX8_takeFeast_0 {G : Gm} {Φ : Fr} {S : List Sh} {μ : Mem} {Q : Mem → Prop} (hΦ : St G Φ cX8_takeFeast RX8 4 2 50 0 0) (hR : Rt G Φ (Pv S Q) 0 0 none) {x0 x1 : Int} (h : So S x0 (.inl 8) ∧ (R32 (μ x0 9) ∧ ((6 ≤ (μ x0 9) → Ex G Φ 4 15 [some (2, x0), some (0, x1), none, none] [(0, 0), (2, x0)] S μ 0 0) ∧ (¬ (6 ≤ (μ x0 9)) → Ex G Φ 4 15 [some (2, x0), some (0, x1), none, none] [(0, 1), (2, x0)] S μ 0 0)))) : Ex G Φ 4 0 [some (2, x0), some (0, x1), none, none] [] S μ 0 0 := by
  obtain ⟨o1, h⟩ := h
  refine ex_aload_n hΦ dX8_takeFeast_0 rfl o1.1 ?_
  refine ex_aload_n hΦ dX8_takeFeast_1 rfl o1.1 ?_
  refine ex_getf hΦ fl_X8_146 o1 dX8_takeFeast_2 ?_
  refine ex_bipush hΦ dX8_takeFeast_5 (by decide) ?_
  obtain ⟨o2, h⟩ := h
  refine ex_icmp_ge 14 hΦ dX8_takeFeast_7 (by decide) o2 ⟨by decide, by decide⟩ (fun c => ?_) (fun c => ?_)
  · have h := h.1 c
    refine ex_iconst hΦ dX8_takeFeast_14 ?_
    exact h
  · have h := h.2 c
    refine ex_iconst hΦ dX8_takeFeast_10 ?_
    refine ex_goto 15 hΦ dX8_takeFeast_11 (by decide) ?_
    exact h
theorem eX8_takeClause {G : Gm} {S : List Sh} {μ : Mem} {Q : Mem → Prop} {x0 : Int} (h : ∀ Φ : Fr, St G Φ cX8_takeClause RX8 3 3 73 0 0 → Rt G Φ (Pv S Q) 0 0 none → Ex G Φ 3 0 [some (2, x0), none, none] [] S μ 0 0) : Cv G mX8_takeClause [(2, x0)] S μ Q :=
  call_of' (plainFor_of_name (by decide +kernel)) [some (2, x0), none, none] rfl (Nat.le_of_ble_eq_true rfl) (fun Φ hΦ hR => h Φ hΦ hR)
theorem bX8_takeClause_0 {G : Gm} {Φ : Fr} {S : List Sh} {μ : Mem} {Q : Mem → Prop} (hΦ : St G Φ cX8_takeClause RX8 3 3 73 0 0) (hR : Rt G Φ (Pv S Q) 0 0 none) {x0 : Int} (h : So S x0 (.inl 8) ∧ (Ci G mX8_here [(2, x0)] S μ (fun r2 μ2 => ∀ m3 : Mem, m3 = mu μ2 x0 23 ((μ2 x0 23) + 1) → (R32 r2 ∧ ((r2 ≠ 119 → (r2 ≠ 108 → (r2 ≠ 100 → (r2 ≠ 102 → Ci G mX8_want [(2, x0), (0, 0), (0, 1), (0, (μ2 x0 23))] S m3 (fun r5 μ5 => R32 r5 ∧ ((r5 = 0 → Q μ5) ∧ (¬ (r5 = 0) → Cv G mX8_takeFeast [(2, x0), (0, (μ2 x0 23))] S μ5 (fun μ7 => Q μ7))))) ∧ (r2 = 102 → Ci G mX8_want [(2, x0), (0, 1), (0, 1), (0, (μ2 x0 23))] S m3 (fun r8 μ8 => R32 r8 ∧ ((r8 = 0 → Q μ8) ∧ (¬ (r8 = 0) → Cv G mX8_takeFeast [(2, x0), (0, (μ2 x0 23))] S μ8 (fun μ10 => Q μ10)))))) ∧ (r2 = 100 → Cv G mX8_takeDriven [(2, x0), (0, (μ2 x0 23))] S m3 (fun μ11 => Q μ11))) ∧ (r2 = 108 → Cv G mX8_takeLink [(2, x0), (0, (μ2 x0 23))] S m3 (fun μ12 => Q μ12))) ∧ (r2 = 119 → Cv G mX8_takeWheel [(2, x0), (0, (μ2 x0 23))] S m3 (fun μ13 => Q μ13))))))) : Ex G Φ 3 0 [some (2, x0), none, none] [] S μ 0 0 := by
  obtain ⟨o1, h⟩ := h
  refine ex_aload_n hΦ dX8_takeClause_0 rfl o1.1 ?_
  refine ex_callVi [] [(2, x0)] hΦ lkV_X8_106 ⟨by decide, by decide⟩ (Nat.le_of_ble_eq_true rfl) rfl (by decide) 8 (by decide) rfl o1 dX8_takeClause_1 rfl h (fun r2 μ2 h => ?_)
  refine ex_istore_n (L' := [some (2, x0), some (0, r2), none]) hΦ dX8_takeClause_4 (by decide) rfl ?_
  refine ex_aload_n hΦ dX8_takeClause_5 rfl o1.1 ?_
  refine ex_getf hΦ fl_X8_100 o1 dX8_takeClause_6 ?_
  refine ex_istore_n (L' := [some (2, x0), some (0, r2), some (0, (μ2 x0 23))]) hΦ dX8_takeClause_9 (by decide) rfl ?_
  refine ex_aload_n hΦ dX8_takeClause_10 rfl o1.1 ?_
  refine ex_dup hΦ dX8_takeClause_11 (Nat.ne_of_beq_eq_false rfl) ?_
  refine ex_getf hΦ fl_X8_100 o1 dX8_takeClause_12 ?_
  refine ex_iconst hΦ dX8_takeClause_15 ?_
  refine ex_iadd hΦ dX8_takeClause_16 ?_
  obtain ⟨m3, hm3⟩ : ∃ m : Mem, m = mu μ2 x0 23 ((μ2 x0 23) + 1) := ⟨_, rfl⟩
  have h := h m3 hm3
  refine ex_putf' hΦ fl_X8_100 o1 rfl rfl dX8_takeClause_17 hm3 ?_
  refine ex_iload_n hΦ dX8_takeClause_20 rfl ?_
  refine ex_bipush hΦ dX8_takeClause_21 (by decide) ?_
  obtain ⟨o4, h⟩ := h
  refine ex_icmp_ne 34 hΦ dX8_takeClause_23 (by decide) o4 ⟨by decide, by decide⟩ (fun c => ?_) (fun c => ?_)
  · have h := h.1 c
    refine ex_iload_n hΦ dX8_takeClause_34 rfl ?_
    refine ex_bipush hΦ dX8_takeClause_35 (by decide) ?_
    refine ex_icmp_ne 48 hΦ dX8_takeClause_37 (by decide) o4 ⟨by decide, by decide⟩ (fun c => ?_) (fun c => ?_)
    · have h := h.1 c
      refine ex_iload_n hΦ dX8_takeClause_48 rfl ?_
      refine ex_bipush hΦ dX8_takeClause_49 (by decide) ?_
      refine ex_icmp_ne 62 hΦ dX8_takeClause_51 (by decide) o4 ⟨by decide, by decide⟩ (fun c => ?_) (fun c => ?_)
      · have h := h.1 c
        refine ex_aload_n hΦ dX8_takeClause_62 rfl o1.1 ?_
        refine ex_iload_n hΦ dX8_takeClause_63 rfl ?_
        refine ex_bipush hΦ dX8_takeClause_64 (by decide) ?_
        refine ex_icmp_ne 73 hΦ dX8_takeClause_66 (by decide) o4 ⟨by decide, by decide⟩ (fun c => ?_) (fun c => ?_)
        · have h := h.1 c
          refine ex_iconst hΦ dX8_takeClause_73 ?_
          refine ex_iconst hΦ dX8_takeClause_74 ?_
          refine ex_iload_n hΦ dX8_takeClause_75 rfl ?_
          refine ex_callVi [(0, 0), (0, 1), (0, (μ2 x0 23))] [(0, (μ2 x0 23)), (0, 1), (0, 0), (2, x0)] hΦ lkV_X8_117 ⟨by decide, by decide⟩ (Nat.le_of_ble_eq_true rfl) rfl (by decide) 8 (by decide) rfl o1 dX8_takeClause_76 rfl h (fun r5 μ5 h => ?_)
          obtain ⟨o6, h⟩ := h
          refine ex_if_eq 87 hΦ dX8_takeClause_79 (by decide) o6 (fun c => ?_) (fun c => ?_)
          · have h := h.1 c
            exact ex_returnv hΦ hR dX8_takeClause_87 h
          · have h := h.2 c
            refine ex_aload_n hΦ dX8_takeClause_82 rfl o1.1 ?_
            refine ex_iload_n hΦ dX8_takeClause_83 rfl ?_
            refine ex_callVv [(0, (μ2 x0 23))] [(0, (μ2 x0 23)), (2, x0)] hΦ lkV_X8_159 ⟨by decide, by decide⟩ (Nat.le_of_ble_eq_true rfl) rfl (by decide) 8 (by decide) rfl o1 dX8_takeClause_84 rfl h (fun μ7 h => ?_)
            exact ex_returnv hΦ hR dX8_takeClause_87 h
        · have h := h.2 c
          refine ex_iconst hΦ dX8_takeClause_69 ?_
          refine ex_goto 74 hΦ dX8_takeClause_70 (by decide) ?_
          refine ex_iconst hΦ dX8_takeClause_74 ?_
          refine ex_iload_n hΦ dX8_takeClause_75 rfl ?_
          refine ex_callVi [(0, 1), (0, 1), (0, (μ2 x0 23))] [(0, (μ2 x0 23)), (0, 1), (0, 1), (2, x0)] hΦ lkV_X8_117 ⟨by decide, by decide⟩ (Nat.le_of_ble_eq_true rfl) rfl (by decide) 8 (by decide) rfl o1 dX8_takeClause_76 rfl h (fun r8 μ8 h => ?_)
          obtain ⟨o9, h⟩ := h
          refine ex_if_eq 87 hΦ dX8_takeClause_79 (by decide) o9 (fun c => ?_) (fun c => ?_)
          · have h := h.1 c
            exact ex_returnv hΦ hR dX8_takeClause_87 h
          · have h := h.2 c
            refine ex_aload_n hΦ dX8_takeClause_82 rfl o1.1 ?_
            refine ex_iload_n hΦ dX8_takeClause_83 rfl ?_
            refine ex_callVv [(0, (μ2 x0 23))] [(0, (μ2 x0 23)), (2, x0)] hΦ lkV_X8_159 ⟨by decide, by decide⟩ (Nat.le_of_ble_eq_true rfl) rfl (by decide) 8 (by decide) rfl o1 dX8_takeClause_84 rfl h (fun μ10 h => ?_)
            exact ex_returnv hΦ hR dX8_takeClause_87 h
      · have h := h.2 c
        refine ex_aload_n hΦ dX8_takeClause_54 rfl o1.1 ?_
        refine ex_iload_n hΦ dX8_takeClause_55 rfl ?_
        refine ex_callVv [(0, (μ2 x0 23))] [(0, (μ2 x0 23)), (2, x0)] hΦ lkV_X8_156 ⟨by decide, by decide⟩ (Nat.le_of_ble_eq_true rfl) rfl (by decide) 8 (by decide) rfl o1 dX8_takeClause_56 rfl h (fun μ11 h => ?_)
        refine ex_goto 87 hΦ dX8_takeClause_59 (by decide) ?_
        exact ex_returnv hΦ hR dX8_takeClause_87 h
    · have h := h.2 c
      refine ex_aload_n hΦ dX8_takeClause_40 rfl o1.1 ?_
      refine ex_iload_n hΦ dX8_takeClause_41 rfl ?_
      refine ex_callVv [(0, (μ2 x0 23))] [(0, (μ2 x0 23)), (2, x0)] hΦ lkV_X8_153 ⟨by decide, by decide⟩ (Nat.le_of_ble_eq_true rfl) rfl (by decide) 8 (by decide) rfl o1 dX8_takeClause_42 rfl h (fun μ12 h => ?_)
      refine ex_goto 87 hΦ dX8_takeClause_45 (by decide) ?_
      exact ex_returnv hΦ hR dX8_takeClause_87 h
  · have h := h.2 c
    refine ex_aload_n hΦ dX8_takeClause_26 rfl o1.1 ?_
    refine ex_iload_n hΦ dX8_takeClause_27 rfl ?_
    refine ex_callVv [(0, (μ2 x0 23))] [(0, (μ2 x0 23)), (2, x0)] hΦ lkV_X8_149 ⟨by decide, by decide⟩ (Nat.le_of_ble_eq_true rfl) rfl (by decide) 8 (by decide) rfl o1 dX8_takeClause_28 rfl h (fun μ13 h => ?_)
    refine ex_goto 87 hΦ dX8_takeClause_31 (by decide) ?_
    exact ex_returnv hΦ hR dX8_takeClause_87 h
theorem bX8_clock_45 {G : Gm} {Φ : Fr} {S : List Sh} {μ : Mem} {Q : Int → Mem → Prop} (hΦ : St G Φ cX8_clock RX8 2 4 95 0 0) (hR : Rt G Φ (Pi S Q) 0 0 (some .int)) {x0 : Int} (h : So S x0 (.inl 8) ∧ (R32 (μ x0 25) ∧ (((μ x0 25) ≠ 0 → Ex G Φ 2 109 [some (2, x0), none] [] S μ 0 0) ∧ ((μ x0 25) = 0 → Ci G mX8_here [(2, x0)] S μ (fun r3 μ3 => R32 r3 ∧ ((r3 < 0 → Ex G Φ 2 109 [some (2, x0), none] [] S μ3 0 0) ∧ (¬ (r3 < 0) → Cv G mX8_takeClause [(2, x0)] S μ3 (fun μ5 => R32 (μ5 x0 25) ∧ (((μ5 x0 25) ≠ 0 → Ex G Φ 2 45 [some (2, x0), none] [] S μ5 0 0) ∧ ((μ5 x0 25) = 0 → Ci G mX8_here [(2, x0)] S μ5 (fun r7 μ7 => R32 r7 ∧ ((r7 ≠ 59 → Ci G mX8_want [(2, x0), (0, 0), (0, 1), (0, (μ7 x0 23))] S μ7 (fun r9 μ9 => R32 r9 ∧ ((r9 = 0 → Ex G Φ 2 45 [some (2, x0), none] [] S μ9 0 0) ∧ (¬ (r9 = 0) → ∀ m11 : Mem, m11 = mu μ9 x0 23 ((μ9 x0 23) + 1) → (Ex G Φ 2 45 [some (2, x0), none] [] S m11 0 0))))) ∧ (r7 = 59 → Ci G mX8_want [(2, x0), (0, 1), (0, 1), (0, (μ7 x0 23))] S μ7 (fun r12 μ12 => R32 r12 ∧ ((r12 = 0 → Ex G Φ 2 45 [some (2, x0), none] [] S μ12 0 0) ∧ (¬ (r12 = 0) → ∀ m14 : Mem, m14 = mu μ12 x0 23 ((μ12 x0 23) + 1) → (Ex G Φ 2 45 [some (2, x0), none] [] S m14 0 0))))))))))))))))) : Ex G Φ 2 45 [some (2, x0), none] [] S μ 0 0 := by
  obtain ⟨o1, h⟩ := h
  refine ex_aload_n hΦ dX8_clock_45 rfl o1.1 ?_
  refine ex_getf hΦ fl_X8_103 o1 dX8_clock_46 ?_
  obtain ⟨o2, h⟩ := h
  refine ex_if_ne 109 hΦ dX8_clock_49 (by decide) o2 (fun c => ?_) (fun c => ?_)
  · have h := h.1 c
    exact h
  · have h := h.2 c
    refine ex_aload_n hΦ dX8_clock_52 rfl o1.1 ?_
    refine ex_callVi [] [(2, x0)] hΦ lkV_X8_106 ⟨by decide, by decide⟩ (Nat.le_of_ble_eq_true rfl) rfl (by decide) 8 (by decide) rfl o1 dX8_clock_53 rfl h (fun r3 μ3 h => ?_)
    obtain ⟨o4, h⟩ := h
    refine ex_if_lt 109 hΦ dX8_clock_56 (by decide) o4 (fun c => ?_) (fun c => ?_)
    · have h := h.1 c
      exact h
    · have h := h.2 c
      refine ex_aload_n hΦ dX8_clock_59 rfl o1.1 ?_
      refine ex_callVv [] [(2, x0)] hΦ lkV_X8_162 ⟨by decide, by decide⟩ (Nat.le_of_ble_eq_true rfl) rfl (by decide) 8 (by decide) rfl o1 dX8_clock_60 rfl h (fun μ5 h => ?_)
      refine ex_aload_n hΦ dX8_clock_63 rfl o1.1 ?_
      refine ex_getf hΦ fl_X8_103 o1 dX8_clock_64 ?_
      obtain ⟨o6, h⟩ := h
      refine ex_if_ne 45 hΦ dX8_clock_67 (by decide) o6 (fun c => ?_) (fun c => ?_)
      · have h := h.1 c
        exact h
      · have h := h.2 c
        refine ex_aload_n hΦ dX8_clock_70 rfl o1.1 ?_
        refine ex_aload_n hΦ dX8_clock_71 rfl o1.1 ?_
        refine ex_callVi [] [(2, x0), (2, x0)] hΦ lkV_X8_106 ⟨by decide, by decide⟩ (Nat.le_of_ble_eq_true rfl) rfl (by decide) 8 (by decide) rfl o1 dX8_clock_72 rfl h (fun r7 μ7 h => ?_)
        refine ex_bipush hΦ dX8_clock_75 (by decide) ?_
        obtain ⟨o8, h⟩ := h
        refine ex_icmp_ne 84 hΦ dX8_clock_77 (by decide) o8 ⟨by decide, by decide⟩ (fun c => ?_) (fun c => ?_)
        · have h := h.1 c
          refine ex_iconst hΦ dX8_clock_84 ?_
          refine ex_iconst hΦ dX8_clock_85 ?_
          refine ex_aload_n hΦ dX8_clock_86 rfl o1.1 ?_
          refine ex_getf hΦ fl_X8_100 o1 dX8_clock_87 ?_
          refine ex_callVi [(0, 0), (0, 1), (0, (μ7 x0 23))] [(0, (μ7 x0 23)), (0, 1), (0, 0), (2, x0)] hΦ lkV_X8_117 ⟨by decide, by decide⟩ (Nat.le_of_ble_eq_true rfl) rfl (by decide) 8 (by decide) rfl o1 dX8_clock_90 rfl h (fun r9 μ9 h => ?_)
          obtain ⟨o10, h⟩ := h
          refine ex_if_eq 45 hΦ dX8_clock_93 (by decide) o10 (fun c => ?_) (fun c => ?_)
          · have h := h.1 c
            exact h
          · have h := h.2 c
            refine ex_aload_n hΦ dX8_clock_96 rfl o1.1 ?_
            refine ex_dup hΦ dX8_clock_97 (Nat.ne_of_beq_eq_false rfl) ?_
            refine ex_getf hΦ fl_X8_100 o1 dX8_clock_98 ?_
            refine ex_iconst hΦ dX8_clock_101 ?_
            refine ex_iadd hΦ dX8_clock_102 ?_
            obtain ⟨m11, hm11⟩ : ∃ m : Mem, m = mu μ9 x0 23 ((μ9 x0 23) + 1) := ⟨_, rfl⟩
            have h := h m11 hm11
            refine ex_putf' hΦ fl_X8_100 o1 rfl rfl dX8_clock_103 hm11 ?_
            refine ex_goto 45 hΦ dX8_clock_106 (by decide) ?_
            exact h
        · have h := h.2 c
          refine ex_iconst hΦ dX8_clock_80 ?_
          refine ex_goto 85 hΦ dX8_clock_81 (by decide) ?_
          refine ex_iconst hΦ dX8_clock_85 ?_
          refine ex_aload_n hΦ dX8_clock_86 rfl o1.1 ?_
          refine ex_getf hΦ fl_X8_100 o1 dX8_clock_87 ?_
          refine ex_callVi [(0, 1), (0, 1), (0, (μ7 x0 23))] [(0, (μ7 x0 23)), (0, 1), (0, 1), (2, x0)] hΦ lkV_X8_117 ⟨by decide, by decide⟩ (Nat.le_of_ble_eq_true rfl) rfl (by decide) 8 (by decide) rfl o1 dX8_clock_90 rfl h (fun r12 μ12 h => ?_)
          obtain ⟨o13, h⟩ := h
          refine ex_if_eq 45 hΦ dX8_clock_93 (by decide) o13 (fun c => ?_) (fun c => ?_)
          · have h := h.1 c
            exact h
          · have h := h.2 c
            refine ex_aload_n hΦ dX8_clock_96 rfl o1.1 ?_
            refine ex_dup hΦ dX8_clock_97 (Nat.ne_of_beq_eq_false rfl) ?_
            refine ex_getf hΦ fl_X8_100 o1 dX8_clock_98 ?_
            refine ex_iconst hΦ dX8_clock_101 ?_
            refine ex_iadd hΦ dX8_clock_102 ?_
            obtain ⟨m14, hm14⟩ : ∃ m : Mem, m = mu μ12 x0 23 ((μ12 x0 23) + 1) := ⟨_, rfl⟩
            have h := h m14 hm14
            refine ex_putf' hΦ fl_X8_100 o1 rfl rfl dX8_clock_103 hm14 ?_
            refine ex_goto 45 hΦ dX8_clock_106 (by decide) ?_
            exact h
theorem bX8_clock_109 {G : Gm} {Φ : Fr} {S : List Sh} {μ : Mem} {Q : Int → Mem → Prop} (hΦ : St G Φ cX8_clock RX8 2 4 95 0 0) (hR : Rt G Φ (Pi S Q) 0 0 (some .int)) {x0 : Int} (h : So S x0 (.inl 8) ∧ (∀ m2 : Mem, m2 = mu μ x0 22 0 → (R32 (m2 x0 25) ∧ (((m2 x0 25) ≤ 0 → Cv G mX8_take [(2, x0)] S m2 (fun μ4 => Ex G Φ 2 135 [some (2, x0), some (0, 0)] [] S μ4 0 0)) ∧ (¬ ((m2 x0 25) ≤ 0) → Q ((-10) - (m2 x0 25)) m2))))) : Ex G Φ 2 109 [some (2, x0), none] [] S μ 0 0 := by
  obtain ⟨o1, h⟩ := h
  refine ex_aload_n hΦ dX8_clock_109 rfl o1.1 ?_
  refine ex_iconst hΦ dX8_clock_110 ?_
  obtain ⟨m2, hm2⟩ : ∃ m : Mem, m = mu μ x0 22 0 := ⟨_, rfl⟩
  have h := h m2 hm2
  refine ex_putf' hΦ fl_X8_96 o1 rfl rfl dX8_clock_111 hm2 ?_
  refine ex_aload_n hΦ dX8_clock_114 rfl o1.1 ?_
  refine ex_getf hΦ fl_X8_103 o1 dX8_clock_115 ?_
  obtain ⟨o3, h⟩ := h
  refine ex_if_le 129 hΦ dX8_clock_118 (by decide) o3 (fun c => ?_) (fun c => ?_)
  · have h := h.1 c
    refine ex_aload_n hΦ dX8_clock_129 rfl o1.1 ?_
    refine ex_callVv [] [(2, x0)] hΦ lkV_X8_165 ⟨by decide, by decide⟩ (Nat.le_of_ble_eq_true rfl) rfl (by decide) 8 (by decide) rfl o1 dX8_clock_130 rfl h (fun μ4 h => ?_)
    refine ex_iconst hΦ dX8_clock_133 ?_
    refine ex_istore_n (L' := [some (2, x0), some (0, 0)]) hΦ dX8_clock_134 (by decide) rfl ?_
    exact h
  · have h := h.2 c
    refine ex_bipush hΦ dX8_clock_121 (by decide) ?_
    refine ex_aload_n hΦ dX8_clock_123 rfl o1.1 ?_
    refine ex_getf hΦ fl_X8_103 o1 dX8_clock_124 ?_
    refine ex_isub hΦ dX8_clock_127 ?_
    exact ex_returni hΦ hR dX8_clock_128 h
theorem bX8_clock_135 {G : Gm} {Φ : Fr} {S : List Sh} {μ : Mem} {Q : Int → Mem → Prop} (hΦ : St G Φ cX8_clock RX8 2 4 95 0 0) (hR : Rt G Φ (Pi S Q) 0 0 (some .int)) {x0 x1 : Int} (h : R32 x1 ∧ ((8 ≤ x1 → So S x0 (.inl 8) ∧ (Ai S (μ x0 0) 0 8 ∧ (∀ m4 : Mem, m4 = mu μ (μ x0 0) 8 0 → (Ai S (m4 x0 0) 0 9 ∧ (∀ m6 : Mem, m6 = mu m4 (m4 x0 0) 9 0 → (Ai S (m6 x0 0) 0 10 ∧ (∀ m8 : Mem, m8 = mu m6 (m6 x0 0) 10 0 → (∀ m9 : Mem, m9 = mu m8 x0 37 0 → (∀ m10 : Mem, m10 = mu m9 x0 42 0 → (∀ m11 : Mem, m11 = mu m10 x0 31 0 → (Ai S (m11 x0 1) 3 0 ∧ (∀ m13 : Mem, m13 = mu m11 (m11 x0 1) 0 0 → (Ai S (m13 x0 1) 3 1 ∧ (∀ m15 : Mem, m15 = mu m13 (m13 x0 1) 1 0 → (Q (m15 x0 2) m15))))))))))))))) ∧ (¬ (8 ≤ x1) → So S x0 (.inl 8) ∧ (Ai S (μ x0 14) 0 x1 ∧ (Ai S (μ x0 0) 0 x1 ∧ (∀ m19 : Mem, m19 = mu μ (μ x0 0) x1 (μ (μ x0 14) x1) → (Ex G Φ 2 135 [some (2, x0), some (0, (x1 + 1))] [] S m19 0 0))))))) : Ex G Φ 2 135 [some (2, x0), some (0, x1)] [] S μ 0 0 := by
  refine ex_iload_n hΦ dX8_clock_135 rfl ?_
  refine ex_bipush hΦ dX8_clock_136 (by decide) ?_
  obtain ⟨o1, h⟩ := h
  refine ex_icmp_ge 159 hΦ dX8_clock_138 (by decide) o1 ⟨by decide, by decide⟩ (fun c => ?_) (fun c => ?_)
  · have h := h.1 c
    obtain ⟨o2, h⟩ := h
    refine ex_aload_n hΦ dX8_clock_159 rfl o2.1 ?_
    refine ex_getf hΦ fl_X8_7 o2 dX8_clock_160 ?_
    refine ex_bipush hΦ dX8_clock_163 (by decide) ?_
    refine ex_iconst hΦ dX8_clock_165 ?_
    obtain ⟨o3, h⟩ := h
    obtain ⟨m4, hm4⟩ : ∃ m : Mem, m = mu μ (μ x0 0) 8 0 := ⟨_, rfl⟩
    have h := h m4 hm4
    refine ex_iast'' hΦ o3 dX8_clock_166 hm4 ?_
    refine ex_aload_n hΦ dX8_clock_167 rfl o2.1 ?_
    refine ex_getf hΦ fl_X8_7 o2 dX8_clock_168 ?_
    refine ex_bipush hΦ dX8_clock_171 (by decide) ?_
    refine ex_iconst hΦ dX8_clock_173 ?_
    obtain ⟨o5, h⟩ := h
    obtain ⟨m6, hm6⟩ : ∃ m : Mem, m = mu m4 (m4 x0 0) 9 0 := ⟨_, rfl⟩
    have h := h m6 hm6
    refine ex_iast'' hΦ o5 dX8_clock_174 hm6 ?_
    refine ex_aload_n hΦ dX8_clock_175 rfl o2.1 ?_
    refine ex_getf hΦ fl_X8_7 o2 dX8_clock_176 ?_
    refine ex_bipush hΦ dX8_clock_179 (by decide) ?_
    refine ex_iconst hΦ dX8_clock_181 ?_
    obtain ⟨o7, h⟩ := h
    obtain ⟨m8, hm8⟩ : ∃ m : Mem, m = mu m6 (m6 x0 0) 10 0 := ⟨_, rfl⟩
    have h := h m8 hm8
    refine ex_iast'' hΦ o7 dX8_clock_182 hm8 ?_
    refine ex_aload_n hΦ dX8_clock_183 rfl o2.1 ?_
    refine ex_iconst hΦ dX8_clock_184 ?_
    obtain ⟨m9, hm9⟩ : ∃ m : Mem, m = mu m8 x0 37 0 := ⟨_, rfl⟩
    have h := h m9 hm9
    refine ex_putf' hΦ fl_X8_168 o2 rfl rfl dX8_clock_185 hm9 ?_
    refine ex_aload_n hΦ dX8_clock_188 rfl o2.1 ?_
    refine ex_iconst hΦ dX8_clock_189 ?_
    obtain ⟨m10, hm10⟩ : ∃ m : Mem, m = mu m9 x0 42 0 := ⟨_, rfl⟩
    have h := h m10 hm10
    refine ex_putf' hΦ fl_X8_171 o2 rfl rfl dX8_clock_190 hm10 ?_
    refine ex_aload_n hΦ dX8_clock_193 rfl o2.1 ?_
    refine ex_iconst hΦ dX8_clock_194 ?_
    obtain ⟨m11, hm11⟩ : ∃ m : Mem, m = mu m10 x0 31 0 := ⟨_, rfl⟩
    have h := h m11 hm11
    refine ex_putf' hΦ fl_X8_174 o2 rfl rfl dX8_clock_195 hm11 ?_
    refine ex_aload_n hΦ dX8_clock_198 rfl o2.1 ?_
    refine ex_getf hΦ fl_X8_13 o2 dX8_clock_199 ?_
    refine ex_iconst hΦ dX8_clock_202 ?_
    refine ex_iconst hΦ dX8_clock_203 ?_
    obtain ⟨o12, h⟩ := h
    obtain ⟨m13, hm13⟩ : ∃ m : Mem, m = mu m11 (m11 x0 1) 0 0 := ⟨_, rfl⟩
    have h := h m13 hm13
    refine ex_zast'' hΦ o12 (by decide) (by decide) dX8_clock_204 hm13 ?_
    refine ex_aload_n hΦ dX8_clock_205 rfl o2.1 ?_
    refine ex_getf hΦ fl_X8_13 o2 dX8_clock_206 ?_
    refine ex_iconst hΦ dX8_clock_209 ?_
    refine ex_iconst hΦ dX8_clock_210 ?_
    obtain ⟨o14, h⟩ := h
    obtain ⟨m15, hm15⟩ : ∃ m : Mem, m = mu m13 (m13 x0 1) 1 0 := ⟨_, rfl⟩
    have h := h m15 hm15
    refine ex_zast'' hΦ o14 (by decide) (by decide) dX8_clock_211 hm15 ?_
    refine ex_aload_n hΦ dX8_clock_212 rfl o2.1 ?_
    refine ex_getf hΦ fl_X8_177 o2 dX8_clock_213 ?_
    exact ex_returni hΦ hR dX8_clock_216 h
  · have h := h.2 c
    obtain ⟨o16, h⟩ := h
    refine ex_aload_n hΦ dX8_clock_141 rfl o16.1 ?_
    refine ex_getf hΦ fl_X8_7 o16 dX8_clock_142 ?_
    refine ex_iload_n hΦ dX8_clock_145 rfl ?_
    refine ex_aload_n hΦ dX8_clock_146 rfl o16.1 ?_
    refine ex_getf hΦ fl_X8_24 o16 dX8_clock_147 ?_
    refine ex_iload_n hΦ dX8_clock_150 rfl ?_
    obtain ⟨o17, h⟩ := h
    refine ex_iald' hΦ o17 dX8_clock_151 ?_
    obtain ⟨o18, h⟩ := h
    obtain ⟨m19, hm19⟩ : ∃ m : Mem, m = mu μ (μ x0 0) x1 (μ (μ x0 14) x1) := ⟨_, rfl⟩
    have h := h m19 hm19
    refine ex_iast'' hΦ o18 dX8_clock_152 hm19 ?_
    refine ex_iinc (L' := [some (2, x0), some (0, (x1 + 1))]) hΦ dX8_clock_153 rfl (by decide) rfl ?_
    refine ex_goto 135 hΦ dX8_clock_156 (by decide) ?_
    exact h
theorem eX8_clock {G : Gm} {S : List Sh} {μ : Mem} {Q : Int → Mem → Prop} {x0 : Int} (h : ∀ Φ : Fr, St G Φ cX8_clock RX8 2 4 95 0 0 → Rt G Φ (Pi S Q) 0 0 (some .int) → Ex G Φ 2 0 [some (2, x0), none] [] S μ 0 0) : Ci G mX8_clock [(2, x0)] S μ Q :=
  call_of' (plainFor_of_name (by decide +kernel)) [some (2, x0), none] rfl (Nat.le_of_ble_eq_true rfl) (fun Φ hΦ hR => h Φ hΦ hR)
theorem bX8_clock_0 {G : Gm} {Φ : Fr} {S : List Sh} {μ : Mem} {Q : Int → Mem → Prop} (hΦ : St G Φ cX8_clock RX8 2 4 95 0 0) (hR : Rt G Φ (Pi S Q) 0 0 (some .int)) {x0 : Int} (h : So S x0 (.inl 8) ∧ (∀ m2 : Mem, m2 = mu μ x0 23 0 → (∀ m3 : Mem, m3 = mu m2 x0 25 0 → (∀ m4 : Mem, m4 = mu m3 x0 26 (-1) → (∀ m5 : Mem, m5 = mu m4 x0 7 0 → (∀ m6 : Mem, m6 = mu m5 x0 8 0 → (∀ m7 : Mem, m7 = mu m6 x0 9 0 → (∀ m8 : Mem, m8 = mu m7 x0 10 0 → (∀ m9 : Mem, m9 = mu m8 x0 11 1 → (∀ m10 : Mem, m10 = mu m9 x0 12 0 → (Ex G Φ 2 45 [some (2, x0), none] [] S m10 0 0))))))))))) : Ex G Φ 2 0 [some (2, x0), none] [] S μ 0 0 := by
  obtain ⟨o1, h⟩ := h
  refine ex_aload_n hΦ dX8_clock_0 rfl o1.1 ?_
  refine ex_iconst hΦ dX8_clock_1 ?_
  obtain ⟨m2, hm2⟩ : ∃ m : Mem, m = mu μ x0 23 0 := ⟨_, rfl⟩
  have h := h m2 hm2
  refine ex_putf' hΦ fl_X8_100 o1 rfl rfl dX8_clock_2 hm2 ?_
  refine ex_aload_n hΦ dX8_clock_5 rfl o1.1 ?_
  refine ex_iconst hΦ dX8_clock_6 ?_
  obtain ⟨m3, hm3⟩ : ∃ m : Mem, m = mu m2 x0 25 0 := ⟨_, rfl⟩
  have h := h m3 hm3
  refine ex_putf' hΦ fl_X8_103 o1 rfl rfl dX8_clock_7 hm3 ?_
  refine ex_aload_n hΦ dX8_clock_10 rfl o1.1 ?_
  refine ex_iconst hΦ dX8_clock_11 ?_
  obtain ⟨m4, hm4⟩ : ∃ m : Mem, m = mu m3 x0 26 (-1) := ⟨_, rfl⟩
  have h := h m4 hm4
  refine ex_putf' hΦ fl_X8_48 o1 rfl rfl dX8_clock_12 hm4 ?_
  refine ex_aload_n hΦ dX8_clock_15 rfl o1.1 ?_
  refine ex_iconst hΦ dX8_clock_16 ?_
  obtain ⟨m5, hm5⟩ : ∃ m : Mem, m = mu m4 x0 7 0 := ⟨_, rfl⟩
  have h := h m5 hm5
  refine ex_putf' hΦ fl_X8_122 o1 rfl rfl dX8_clock_17 hm5 ?_
  refine ex_aload_n hΦ dX8_clock_20 rfl o1.1 ?_
  refine ex_iconst hΦ dX8_clock_21 ?_
  obtain ⟨m6, hm6⟩ : ∃ m : Mem, m = mu m5 x0 8 0 := ⟨_, rfl⟩
  have h := h m6 hm6
  refine ex_putf' hΦ fl_X8_129 o1 rfl rfl dX8_clock_22 hm6 ?_
  refine ex_aload_n hΦ dX8_clock_25 rfl o1.1 ?_
  refine ex_iconst hΦ dX8_clock_26 ?_
  obtain ⟨m7, hm7⟩ : ∃ m : Mem, m = mu m6 x0 9 0 := ⟨_, rfl⟩
  have h := h m7 hm7
  refine ex_putf' hΦ fl_X8_146 o1 rfl rfl dX8_clock_27 hm7 ?_
  refine ex_aload_n hΦ dX8_clock_30 rfl o1.1 ?_
  refine ex_iconst hΦ dX8_clock_31 ?_
  obtain ⟨m8, hm8⟩ : ∃ m : Mem, m = mu m7 x0 10 0 := ⟨_, rfl⟩
  have h := h m8 hm8
  refine ex_putf' hΦ fl_X8_140 o1 rfl rfl dX8_clock_32 hm8 ?_
  refine ex_aload_n hΦ dX8_clock_35 rfl o1.1 ?_
  refine ex_iconst hΦ dX8_clock_36 ?_
  obtain ⟨m9, hm9⟩ : ∃ m : Mem, m = mu m8 x0 11 1 := ⟨_, rfl⟩
  have h := h m9 hm9
  refine ex_putf' hΦ fl_X8_143 o1 rfl rfl dX8_clock_37 hm9 ?_
  refine ex_aload_n hΦ dX8_clock_40 rfl o1.1 ?_
  refine ex_iconst hΦ dX8_clock_41 ?_
  obtain ⟨m10, hm10⟩ : ∃ m : Mem, m = mu m9 x0 12 0 := ⟨_, rfl⟩
  have h := h m10 hm10
  refine ex_putz' hΦ fl_X8_136 o1 rfl rfl (by decide) (by decide) dX8_clock_42 hm10 ?_
  exact h
theorem bX8_take_42 {G : Gm} {Φ : Fr} {S : List Sh} {μ : Mem} {Q : Mem → Prop} (hΦ : St G Φ cX8_take RX8 2 0 0 0 0) (hR : Rt G Φ (Pv S Q) 0 0 none) {x0 x1 : Int} (h : R32 x1 ∧ ((8 ≤ x1 → Ex G Φ 2 86 [some (2, x0), some (0, 0)] [] S μ 0 0) ∧ (¬ (8 ≤ x1) → So S x0 (.inl 8) ∧ (Ai S (μ x0 13) 0 (8 + x1) ∧ (Ai S (μ x0 13) 0 x1 ∧ (∀ m5 : Mem, m5 = mu μ (μ x0 13) x1 (μ (μ x0 13) (8 + x1)) → (Ai S (m5 x0 14) 0 (8 + x1) ∧ (Ai S (m5 x0 14) 0 x1 ∧ (∀ m8 : Mem, m8 = mu m5 (m5 x0 14) x1 (m5 (m5 x0 14) (8 + x1)) → (Ex G Φ 2 42 [some (2, x0), some (0, (x1 + 1))] [] S m8 0 0)))))))))) : Ex G Φ 2 42 [some (2, x0), some (0, x1)] [] S μ 0 0 := by
  refine ex_iload_n hΦ dX8_take_42 rfl ?_
  refine ex_bipush hΦ dX8_take_43 (by decide) ?_
  obtain ⟨o1, h⟩ := h
  refine ex_icmp_ge 84 hΦ dX8_take_45 (by decide) o1 ⟨by decide, by decide⟩ (fun c => ?_) (fun c => ?_)
  · have h := h.1 c
    refine ex_iconst hΦ dX8_take_84 ?_
    refine ex_istore_n (L' := [some (2, x0), some (0, 0)]) hΦ dX8_take_85 (by decide) rfl ?_
    exact h
  · have h := h.2 c
    obtain ⟨o2, h⟩ := h
    refine ex_aload_n hΦ dX8_take_48 rfl o2.1 ?_
    refine ex_getf hΦ fl_X8_21 o2 dX8_take_49 ?_
    refine ex_iload_n hΦ dX8_take_52 rfl ?_
    refine ex_aload_n hΦ dX8_take_53 rfl o2.1 ?_
    refine ex_getf hΦ fl_X8_21 o2 dX8_take_54 ?_
    refine ex_bipush hΦ dX8_take_57 (by decide) ?_
    refine ex_iload_n hΦ dX8_take_59 rfl ?_
    refine ex_iadd hΦ dX8_take_60 ?_
    obtain ⟨o3, h⟩ := h
    refine ex_iald' hΦ o3 dX8_take_61 ?_
    obtain ⟨o4, h⟩ := h
    obtain ⟨m5, hm5⟩ : ∃ m : Mem, m = mu μ (μ x0 13) x1 (μ (μ x0 13) (8 + x1)) := ⟨_, rfl⟩
    have h := h m5 hm5
    refine ex_iast'' hΦ o4 dX8_take_62 hm5 ?_
    refine ex_aload_n hΦ dX8_take_63 rfl o2.1 ?_
    refine ex_getf hΦ fl_X8_24 o2 dX8_take_64 ?_
    refine ex_iload_n hΦ dX8_take_67 rfl ?_
    refine ex_aload_n hΦ dX8_take_68 rfl o2.1 ?_
    refine ex_getf hΦ fl_X8_24 o2 dX8_take_69 ?_
    refine ex_bipush hΦ dX8_take_72 (by decide) ?_
    refine ex_iload_n hΦ dX8_take_74 rfl ?_
    refine ex_iadd hΦ dX8_take_75 ?_
    obtain ⟨o6, h⟩ := h
    refine ex_iald' hΦ o6 dX8_take_76 ?_
    obtain ⟨o7, h⟩ := h
    obtain ⟨m8, hm8⟩ : ∃ m : Mem, m = mu m5 (m5 x0 14) x1 (m5 (m5 x0 14) (8 + x1)) := ⟨_, rfl⟩
    have h := h m8 hm8
    refine ex_iast'' hΦ o7 dX8_take_77 hm8 ?_
    refine ex_iinc (L' := [some (2, x0), some (0, (x1 + 1))]) hΦ dX8_take_78 rfl (by decide) rfl ?_
    refine ex_goto 42 hΦ dX8_take_81 (by decide) ?_
    exact h
theorem bX8_take_86 {G : Gm} {Φ : Fr} {S : List Sh} {μ : Mem} {Q : Mem → Prop} (hΦ : St G Φ cX8_take RX8 2 0 0 0 0) (hR : Rt G Φ (Pv S Q) 0 0 none) {x0 x1 : Int} (h : R32 x1 ∧ ((10 ≤ x1 → Ex G Φ 2 160 [some (2, x0), some (0, 0)] [] S μ 0 0) ∧ (¬ (10 ≤ x1) → So S x0 (.inl 8) ∧ (Ai S (μ x0 15) 0 (10 + x1) ∧ (Ai S (μ x0 15) 0 x1 ∧ (∀ m5 : Mem, m5 = mu μ (μ x0 15) x1 (μ (μ x0 15) (10 + x1)) → (Ai S (m5 x0 16) 0 (10 + x1) ∧ (Ai S (m5 x0 16) 0 x1 ∧ (∀ m8 : Mem, m8 = mu m5 (m5 x0 16) x1 (m5 (m5 x0 16) (10 + x1)) → (Ai S (m8 x0 17) 0 (10 + x1) ∧ (Ai S (m8 x0 17) 0 x1 ∧ (∀ m11 : Mem, m11 = mu m8 (m8 x0 17) x1 (m8 (m8 x0 17) (10 + x1)) → (Ai S (m11 x0 18) 0 (10 + x1) ∧ (Ai S (m11 x0 18) 0 x1 ∧ (∀ m14 : Mem, m14 = mu m11 (m11 x0 18) x1 (m11 (m11 x0 18) (10 + x1)) → (Ex G Φ 2 86 [some (2, x0), some (0, (x1 + 1))] [] S m14 0 0)))))))))))))))) : Ex G Φ 2 86 [some (2, x0), some (0, x1)] [] S μ 0 0 := by
  refine ex_iload_n hΦ dX8_take_86 rfl ?_
  refine ex_bipush hΦ dX8_take_87 (by decide) ?_
  obtain ⟨o1, h⟩ := h
  refine ex_icmp_ge 158 hΦ dX8_take_89 (by decide) o1 ⟨by decide, by decide⟩ (fun c => ?_) (fun c => ?_)
  · have h := h.1 c
    refine ex_iconst hΦ dX8_take_158 ?_
    refine ex_istore_n (L' := [some (2, x0), some (0, 0)]) hΦ dX8_take_159 (by decide) rfl ?_
    exact h
  · have h := h.2 c
    obtain ⟨o2, h⟩ := h
    refine ex_aload_n hΦ dX8_take_92 rfl o2.1 ?_
    refine ex_getf hΦ fl_X8_27 o2 dX8_take_93 ?_
    refine ex_iload_n hΦ dX8_take_96 rfl ?_
    refine ex_aload_n hΦ dX8_take_97 rfl o2.1 ?_
    refine ex_getf hΦ fl_X8_27 o2 dX8_take_98 ?_
    refine ex_bipush hΦ dX8_take_101 (by decide) ?_
    refine ex_iload_n hΦ dX8_take_103 rfl ?_
    refine ex_iadd hΦ dX8_take_104 ?_
    obtain ⟨o3, h⟩ := h
    refine ex_iald' hΦ o3 dX8_take_105 ?_
    obtain ⟨o4, h⟩ := h
    obtain ⟨m5, hm5⟩ : ∃ m : Mem, m = mu μ (μ x0 15) x1 (μ (μ x0 15) (10 + x1)) := ⟨_, rfl⟩
    have h := h m5 hm5
    refine ex_iast'' hΦ o4 dX8_take_106 hm5 ?_
    refine ex_aload_n hΦ dX8_take_107 rfl o2.1 ?_
    refine ex_getf hΦ fl_X8_30 o2 dX8_take_108 ?_
    refine ex_iload_n hΦ dX8_take_111 rfl ?_
    refine ex_aload_n hΦ dX8_take_112 rfl o2.1 ?_
    refine ex_getf hΦ fl_X8_30 o2 dX8_take_113 ?_
    refine ex_bipush hΦ dX8_take_116 (by decide) ?_
    refine ex_iload_n hΦ dX8_take_118 rfl ?_
    refine ex_iadd hΦ dX8_take_119 ?_
    obtain ⟨o6, h⟩ := h
    refine ex_iald' hΦ o6 dX8_take_120 ?_
    obtain ⟨o7, h⟩ := h
    obtain ⟨m8, hm8⟩ : ∃ m : Mem, m = mu m5 (m5 x0 16) x1 (m5 (m5 x0 16) (10 + x1)) := ⟨_, rfl⟩
    have h := h m8 hm8
    refine ex_iast'' hΦ o7 dX8_take_121 hm8 ?_
    refine ex_aload_n hΦ dX8_take_122 rfl o2.1 ?_
    refine ex_getf hΦ fl_X8_33 o2 dX8_take_123 ?_
    refine ex_iload_n hΦ dX8_take_126 rfl ?_
    refine ex_aload_n hΦ dX8_take_127 rfl o2.1 ?_
    refine ex_getf hΦ fl_X8_33 o2 dX8_take_128 ?_
    refine ex_bipush hΦ dX8_take_131 (by decide) ?_
    refine ex_iload_n hΦ dX8_take_133 rfl ?_
    refine ex_iadd hΦ dX8_take_134 ?_
    obtain ⟨o9, h⟩ := h
    refine ex_iald' hΦ o9 dX8_take_135 ?_
    obtain ⟨o10, h⟩ := h
    obtain ⟨m11, hm11⟩ : ∃ m : Mem, m = mu m8 (m8 x0 17) x1 (m8 (m8 x0 17) (10 + x1)) := ⟨_, rfl⟩
    have h := h m11 hm11
    refine ex_iast'' hΦ o10 dX8_take_136 hm11 ?_
    refine ex_aload_n hΦ dX8_take_137 rfl o2.1 ?_
    refine ex_getf hΦ fl_X8_36 o2 dX8_take_138 ?_
    refine ex_iload_n hΦ dX8_take_141 rfl ?_
    refine ex_aload_n hΦ dX8_take_142 rfl o2.1 ?_
    refine ex_getf hΦ fl_X8_36 o2 dX8_take_143 ?_
    refine ex_bipush hΦ dX8_take_146 (by decide) ?_
    refine ex_iload_n hΦ dX8_take_148 rfl ?_
    refine ex_iadd hΦ dX8_take_149 ?_
    obtain ⟨o12, h⟩ := h
    refine ex_iald' hΦ o12 dX8_take_150 ?_
    obtain ⟨o13, h⟩ := h
    obtain ⟨m14, hm14⟩ : ∃ m : Mem, m = mu m11 (m11 x0 18) x1 (m11 (m11 x0 18) (10 + x1)) := ⟨_, rfl⟩
    have h := h m14 hm14
    refine ex_iast'' hΦ o13 dX8_take_151 hm14 ?_
    refine ex_iinc (L' := [some (2, x0), some (0, (x1 + 1))]) hΦ dX8_take_152 rfl (by decide) rfl ?_
    refine ex_goto 86 hΦ dX8_take_155 (by decide) ?_
    exact h
theorem bX8_take_160 {G : Gm} {Φ : Fr} {S : List Sh} {μ : Mem} {Q : Mem → Prop} (hΦ : St G Φ cX8_take RX8 2 0 0 0 0) (hR : Rt G Φ (Pv S Q) 0 0 none) {x0 x1 : Int} (h : R32 x1 ∧ ((6 ≤ x1 → Q μ) ∧ (¬ (6 ≤ x1) → So S x0 (.inl 8) ∧ (Ai S (μ x0 19) 0 (6 + x1) ∧ (Ai S (μ x0 19) 0 x1 ∧ (∀ m5 : Mem, m5 = mu μ (μ x0 19) x1 (μ (μ x0 19) (6 + x1)) → (Ai S (m5 x0 20) 0 (6 + x1) ∧ (Ai S (m5 x0 20) 0 x1 ∧ (∀ m8 : Mem, m8 = mu m5 (m5 x0 20) x1 (m5 (m5 x0 20) (6 + x1)) → (Ex G Φ 2 160 [some (2, x0), some (0, (x1 + 1))] [] S m8 0 0)))))))))) : Ex G Φ 2 160 [some (2, x0), some (0, x1)] [] S μ 0 0 := by
  refine ex_iload_n hΦ dX8_take_160 rfl ?_
  refine ex_bipush hΦ dX8_take_161 (by decide) ?_
  obtain ⟨o1, h⟩ := h
  refine ex_icmp_ge 202 hΦ dX8_take_163 (by decide) o1 ⟨by decide, by decide⟩ (fun c => ?_) (fun c => ?_)
  · have h := h.1 c
    exact ex_returnv hΦ hR dX8_take_202 h
  · have h := h.2 c
    obtain ⟨o2, h⟩ := h
    refine ex_aload_n hΦ dX8_take_166 rfl o2.1 ?_
    refine ex_getf hΦ fl_X8_39 o2 dX8_take_167 ?_
    refine ex_iload_n hΦ dX8_take_170 rfl ?_
    refine ex_aload_n hΦ dX8_take_171 rfl o2.1 ?_
    refine ex_getf hΦ fl_X8_39 o2 dX8_take_172 ?_
    refine ex_bipush hΦ dX8_take_175 (by decide) ?_
    refine ex_iload_n hΦ dX8_take_177 rfl ?_
    refine ex_iadd hΦ dX8_take_178 ?_
    obtain ⟨o3, h⟩ := h
    refine ex_iald' hΦ o3 dX8_take_179 ?_
    obtain ⟨o4, h⟩ := h
    obtain ⟨m5, hm5⟩ : ∃ m : Mem, m = mu μ (μ x0 19) x1 (μ (μ x0 19) (6 + x1)) := ⟨_, rfl⟩
    have h := h m5 hm5
    refine ex_iast'' hΦ o4 dX8_take_180 hm5 ?_
    refine ex_aload_n hΦ dX8_take_181 rfl o2.1 ?_
    refine ex_getf hΦ fl_X8_42 o2 dX8_take_182 ?_
    refine ex_iload_n hΦ dX8_take_185 rfl ?_
    refine ex_aload_n hΦ dX8_take_186 rfl o2.1 ?_
    refine ex_getf hΦ fl_X8_42 o2 dX8_take_187 ?_
    refine ex_bipush hΦ dX8_take_190 (by decide) ?_
    refine ex_iload_n hΦ dX8_take_192 rfl ?_
    refine ex_iadd hΦ dX8_take_193 ?_
    obtain ⟨o6, h⟩ := h
    refine ex_iald' hΦ o6 dX8_take_194 ?_
    obtain ⟨o7, h⟩ := h
    obtain ⟨m8, hm8⟩ : ∃ m : Mem, m = mu m5 (m5 x0 20) x1 (m5 (m5 x0 20) (6 + x1)) := ⟨_, rfl⟩
    have h := h m8 hm8
    refine ex_iast'' hΦ o7 dX8_take_195 hm8 ?_
    refine ex_iinc (L' := [some (2, x0), some (0, (x1 + 1))]) hΦ dX8_take_196 rfl (by decide) rfl ?_
    refine ex_goto 160 hΦ dX8_take_199 (by decide) ?_
    exact h
theorem eX8_take {G : Gm} {S : List Sh} {μ : Mem} {Q : Mem → Prop} {x0 : Int} (h : ∀ Φ : Fr, St G Φ cX8_take RX8 2 0 0 0 0 → Rt G Φ (Pv S Q) 0 0 none → Ex G Φ 2 0 [some (2, x0), none] [] S μ 0 0) : Cv G mX8_take [(2, x0)] S μ Q :=
  call_of' (plainFor_of_name (by decide +kernel)) [some (2, x0), none] rfl (Nat.le_of_ble_eq_true rfl) (fun Φ hΦ hR => h Φ hΦ hR)
theorem bX8_take_0 {G : Gm} {Φ : Fr} {S : List Sh} {μ : Mem} {Q : Mem → Prop} (hΦ : St G Φ cX8_take RX8 2 0 0 0 0) (hR : Rt G Φ (Pv S Q) 0 0 none) {x0 : Int} (h : So S x0 (.inl 8) ∧ (∀ m2 : Mem, m2 = mu μ x0 2 (μ x0 7) → (∀ m3 : Mem, m3 = mu m2 x0 3 (m2 x0 8) → (∀ m4 : Mem, m4 = mu m3 x0 4 (m3 x0 9) → (∀ m5 : Mem, m5 = mu m4 x0 5 (m4 x0 10) → (∀ m6 : Mem, m6 = mu m5 x0 6 (m5 x0 11) → (Ex G Φ 2 42 [some (2, x0), some (0, 0)] [] S m6 0 0))))))) : Ex G Φ 2 0 [some (2, x0), none] [] S μ 0 0 := by
  obtain ⟨o1, h⟩ := h
  refine ex_aload_n hΦ dX8_take_0 rfl o1.1 ?_
  refine ex_aload_n hΦ dX8_take_1 rfl o1.1 ?_
  refine ex_getf hΦ fl_X8_122 o1 dX8_take_2 ?_
  obtain ⟨m2, hm2⟩ : ∃ m : Mem, m = mu μ x0 2 (μ x0 7) := ⟨_, rfl⟩
  have h := h m2 hm2
  refine ex_putf' hΦ fl_X8_177 o1 rfl rfl dX8_take_5 hm2 ?_
  refine ex_aload_n hΦ dX8_take_8 rfl o1.1 ?_
  refine ex_aload_n hΦ dX8_take_9 rfl o1.1 ?_
  refine ex_getf hΦ fl_X8_129 o1 dX8_take_10 ?_
  obtain ⟨m3, hm3⟩ : ∃ m : Mem, m = mu m2 x0 3 (m2 x0 8) := ⟨_, rfl⟩
  have h := h m3 hm3
  refine ex_putf' hΦ fl_X8_180 o1 rfl rfl dX8_take_13 hm3 ?_
  refine ex_aload_n hΦ dX8_take_16 rfl o1.1 ?_
  refine ex_aload_n hΦ dX8_take_17 rfl o1.1 ?_
  refine ex_getf hΦ fl_X8_146 o1 dX8_take_18 ?_
  obtain ⟨m4, hm4⟩ : ∃ m : Mem, m = mu m3 x0 4 (m3 x0 9) := ⟨_, rfl⟩
  have h := h m4 hm4
  refine ex_putf' hΦ fl_X8_183 o1 rfl rfl dX8_take_21 hm4 ?_
  refine ex_aload_n hΦ dX8_take_24 rfl o1.1 ?_
  refine ex_aload_n hΦ dX8_take_25 rfl o1.1 ?_
  refine ex_getf hΦ fl_X8_140 o1 dX8_take_26 ?_
  obtain ⟨m5, hm5⟩ : ∃ m : Mem, m = mu m4 x0 5 (m4 x0 10) := ⟨_, rfl⟩
  have h := h m5 hm5
  refine ex_putf' hΦ fl_X8_186 o1 rfl rfl dX8_take_29 hm5 ?_
  refine ex_aload_n hΦ dX8_take_32 rfl o1.1 ?_
  refine ex_aload_n hΦ dX8_take_33 rfl o1.1 ?_
  refine ex_getf hΦ fl_X8_143 o1 dX8_take_34 ?_
  obtain ⟨m6, hm6⟩ : ∃ m : Mem, m = mu m5 x0 6 (m5 x0 11) := ⟨_, rfl⟩
  have h := h m6 hm6
  refine ex_putf' hΦ fl_X8_17 o1 rfl rfl dX8_take_37 hm6 ?_
  refine ex_iconst hΦ dX8_take_40 ?_
  refine ex_istore_n (L' := [some (2, x0), some (0, 0)]) hΦ dX8_take_41 (by decide) rfl ?_
  exact h
theorem eX8_fault {G : Gm} {S : List Sh} {μ : Mem} {Q : Int → Mem → Prop} {x0 : Int} (h : ∀ Φ : Fr, St G Φ cX8_fault RX8 1 0 0 0 0 → Rt G Φ (Pi S Q) 0 0 (some .int) → Ex G Φ 1 0 [some (2, x0)] [] S μ 0 0) : Ci G mX8_fault [(2, x0)] S μ Q :=
  call_of' (plainFor_of_name (by decide +kernel)) [some (2, x0)] rfl (Nat.le_of_ble_eq_true rfl) (fun Φ hΦ hR => h Φ hΦ hR)
theorem bX8_fault_0 {G : Gm} {Φ : Fr} {S : List Sh} {μ : Mem} {Q : Int → Mem → Prop} (hΦ : St G Φ cX8_fault RX8 1 0 0 0 0) (hR : Rt G Φ (Pi S Q) 0 0 (some .int)) {x0 : Int} (h : So S x0 (.inl 8) ∧ Q (μ x0 26) μ) : Ex G Φ 1 0 [some (2, x0)] [] S μ 0 0 := by
  obtain ⟨o1, h⟩ := h
  refine ex_aload_n hΦ dX8_fault_0 rfl o1.1 ?_
  refine ex_getf hΦ fl_X8_48 o1 dX8_fault_1 ?_
  exact ex_returni hΦ hR dX8_fault_4 h
theorem eX8_isWheel {G : Gm} {S : List Sh} {μ : Mem} {Q : Int → Mem → Prop} {x0 x1 : Int} (h : ∀ Φ : Fr, St G Φ cX8_isWheel RX8 2 1 25 0 0 → Rt G Φ (Pi S Q) 0 0 (some .boolean) → Ex G Φ 2 0 [some (2, x0), some (0, x1)] [] S μ 0 0) : Ci G mX8_isWheel [(2, x0), (0, x1)] S μ Q :=
  call_of' (plainFor_of_name (by decide +kernel)) [some (2, x0), some (0, x1)] rfl (Nat.le_of_ble_eq_true rfl) (fun Φ hΦ hR => h Φ hΦ hR)
theorem bX8_isWheel_0 {G : Gm} {Φ : Fr} {S : List Sh} {μ : Mem} {Q : Int → Mem → Prop} (hΦ : St G Φ cX8_isWheel RX8 2 1 25 0 0) (hR : Rt G Φ (Pi S Q) 0 0 (some .boolean)) {x0 x1 : Int} (h : R32 x1 ∧ (So S x0 (.inl 8) ∧ (R32 ((μ x0 2) - 1) ∧ (Ci G mX8_in [(1, x1), (1, 0), (1, ((μ x0 2) - 1))] S μ (fun r4 μ4 => 0 ≤ r4 ∧ (r4 ≤ 1 ∧ Q r4 μ4)))))) : Ex G Φ 2 0 [some (2, x0), some (0, x1)] [] S μ 0 0 := by
  refine ex_iload_n hΦ dX8_isWheel_0 rfl ?_
  obtain ⟨o1, h⟩ := h
  refine ex_i2l hΦ dX8_isWheel_1 o1 ?_
  refine ex_lconst (x := 0) hΦ dX8_isWheel_2 (by decide) ?_
  obtain ⟨o2, h⟩ := h
  refine ex_aload_n hΦ dX8_isWheel_3 rfl o2.1 ?_
  refine ex_getf hΦ fl_X8_177 o2 dX8_isWheel_4 ?_
  refine ex_iconst hΦ dX8_isWheel_7 ?_
  refine ex_isub hΦ dX8_isWheel_8 ?_
  obtain ⟨o3, h⟩ := h
  refine ex_i2l hΦ dX8_isWheel_9 o3 ?_
  refine ex_callSi [(1, x1), (1, 0), (1, ((μ x0 2) - 1))] [(1, ((μ x0 2) - 1)), (1, 0), (1, x1)] hΦ lkS_X8_91 ⟨by decide, by decide⟩ (Nat.le_of_ble_eq_true rfl) rfl (by decide) dX8_isWheel_10 rfl h (fun r4 μ4 h => ?_)
  obtain ⟨o5, h⟩ := h
  obtain ⟨o6, h⟩ := h
  exact ex_returnz hΦ hR o5 o6 dX8_isWheel_13 h
theorem eX8_isLink {G : Gm} {S : List Sh} {μ : Mem} {Q : Int → Mem → Prop} {x0 x1 : Int} (h : ∀ Φ : Fr, St G Φ cX8_isLink RX8 2 1 25 0 0 → Rt G Φ (Pi S Q) 0 0 (some .boolean) → Ex G Φ 2 0 [some (2, x0), some (0, x1)] [] S μ 0 0) : Ci G mX8_isLink [(2, x0), (0, x1)] S μ Q :=
  call_of' (plainFor_of_name (by decide +kernel)) [some (2, x0), some (0, x1)] rfl (Nat.le_of_ble_eq_true rfl) (fun Φ hΦ hR => h Φ hΦ hR)
theorem bX8_isLink_0 {G : Gm} {Φ : Fr} {S : List Sh} {μ : Mem} {Q : Int → Mem → Prop} (hΦ : St G Φ cX8_isLink RX8 2 1 25 0 0) (hR : Rt G Φ (Pi S Q) 0 0 (some .boolean)) {x0 x1 : Int} (h : R32 x1 ∧ (So S x0 (.inl 8) ∧ (R32 ((μ x0 3) - 1) ∧ (Ci G mX8_in [(1, x1), (1, 0), (1, ((μ x0 3) - 1))] S μ (fun r4 μ4 => 0 ≤ r4 ∧ (r4 ≤ 1 ∧ Q r4 μ4)))))) : Ex G Φ 2 0 [some (2, x0), some (0, x1)] [] S μ 0 0 := by
  refine ex_iload_n hΦ dX8_isLink_0 rfl ?_
  obtain ⟨o1, h⟩ := h
  refine ex_i2l hΦ dX8_isLink_1 o1 ?_
  refine ex_lconst (x := 0) hΦ dX8_isLink_2 (by decide) ?_
  obtain ⟨o2, h⟩ := h
  refine ex_aload_n hΦ dX8_isLink_3 rfl o2.1 ?_
  refine ex_getf hΦ fl_X8_180 o2 dX8_isLink_4 ?_
  refine ex_iconst hΦ dX8_isLink_7 ?_
  refine ex_isub hΦ dX8_isLink_8 ?_
  obtain ⟨o3, h⟩ := h
  refine ex_i2l hΦ dX8_isLink_9 o3 ?_
  refine ex_callSi [(1, x1), (1, 0), (1, ((μ x0 3) - 1))] [(1, ((μ x0 3) - 1)), (1, 0), (1, x1)] hΦ lkS_X8_91 ⟨by decide, by decide⟩ (Nat.le_of_ble_eq_true rfl) rfl (by decide) dX8_isLink_10 rfl h (fun r4 μ4 h => ?_)
  obtain ⟨o5, h⟩ := h
  obtain ⟨o6, h⟩ := h
  exact ex_returnz hΦ hR o5 o6 dX8_isLink_13 h
theorem eX8_isFeast {G : Gm} {S : List Sh} {μ : Mem} {Q : Int → Mem → Prop} {x0 x1 : Int} (h : ∀ Φ : Fr, St G Φ cX8_isFeast RX8 2 1 25 0 0 → Rt G Φ (Pi S Q) 0 0 (some .boolean) → Ex G Φ 2 0 [some (2, x0), some (0, x1)] [] S μ 0 0) : Ci G mX8_isFeast [(2, x0), (0, x1)] S μ Q :=
  call_of' (plainFor_of_name (by decide +kernel)) [some (2, x0), some (0, x1)] rfl (Nat.le_of_ble_eq_true rfl) (fun Φ hΦ hR => h Φ hΦ hR)
theorem bX8_isFeast_0 {G : Gm} {Φ : Fr} {S : List Sh} {μ : Mem} {Q : Int → Mem → Prop} (hΦ : St G Φ cX8_isFeast RX8 2 1 25 0 0) (hR : Rt G Φ (Pi S Q) 0 0 (some .boolean)) {x0 x1 : Int} (h : R32 x1 ∧ (So S x0 (.inl 8) ∧ (R32 ((μ x0 4) - 1) ∧ (Ci G mX8_in [(1, x1), (1, 0), (1, ((μ x0 4) - 1))] S μ (fun r4 μ4 => 0 ≤ r4 ∧ (r4 ≤ 1 ∧ Q r4 μ4)))))) : Ex G Φ 2 0 [some (2, x0), some (0, x1)] [] S μ 0 0 := by
  refine ex_iload_n hΦ dX8_isFeast_0 rfl ?_
  obtain ⟨o1, h⟩ := h
  refine ex_i2l hΦ dX8_isFeast_1 o1 ?_
  refine ex_lconst (x := 0) hΦ dX8_isFeast_2 (by decide) ?_
  obtain ⟨o2, h⟩ := h
  refine ex_aload_n hΦ dX8_isFeast_3 rfl o2.1 ?_
  refine ex_getf hΦ fl_X8_183 o2 dX8_isFeast_4 ?_
  refine ex_iconst hΦ dX8_isFeast_7 ?_
  refine ex_isub hΦ dX8_isFeast_8 ?_
  obtain ⟨o3, h⟩ := h
  refine ex_i2l hΦ dX8_isFeast_9 o3 ?_
  refine ex_callSi [(1, x1), (1, 0), (1, ((μ x0 4) - 1))] [(1, ((μ x0 4) - 1)), (1, 0), (1, x1)] hΦ lkS_X8_91 ⟨by decide, by decide⟩ (Nat.le_of_ble_eq_true rfl) rfl (by decide) dX8_isFeast_10 rfl h (fun r4 μ4 h => ?_)
  obtain ⟨o5, h⟩ := h
  obtain ⟨o6, h⟩ := h
  exact ex_returnz hΦ hR o5 o6 dX8_isFeast_13 h
theorem eX8_isOn {G : Gm} {S : List Sh} {μ : Mem} {Q : Int → Mem → Prop} {x0 x1 x2 : Int} (h : ∀ Φ : Fr, St G Φ cX8_isOn RX8 3 1 21 0 0 → Rt G Φ (Pi S Q) 0 0 (some .boolean) → Ex G Φ 3 0 [some (2, x0), some (0, x1), some (0, x2)] [] S μ 0 0) : Ci G mX8_isOn [(2, x0), (0, x1), (0, x2)] S μ Q :=
  call_of' (plainFor_of_name (by decide +kernel)) [some (2, x0), some (0, x1), some (0, x2)] rfl (Nat.le_of_ble_eq_true rfl) (fun Φ hΦ hR => h Φ hΦ hR)
theorem bX8_isOn_0 {G : Gm} {Φ : Fr} {S : List Sh} {μ : Mem} {Q : Int → Mem → Prop} (hΦ : St G Φ cX8_isOn RX8 3 1 21 0 0) (hR : Rt G Φ (Pi S Q) 0 0 (some .boolean)) {x0 x1 x2 : Int} (h : R32 x1 ∧ ((x1 ≠ 20 → So S x0 (.inl 8) ∧ (R32 (μ x0 3) ∧ (((μ x0 3) ≤ x1 → Q 0 μ) ∧ (¬ ((μ x0 3) ≤ x1) → Ci G mX8_has [(0, x2), (0, x1)] S μ (fun r4 μ4 => R32 r4 ∧ ((r4 ≠ 0 → Q 0 μ4) ∧ (r4 = 0 → Q 1 μ4))))))) ∧ (x1 = 20 → So S x0 (.inl 8) ∧ (0 ≤ (μ x0 30) ∧ ((μ x0 30) ≤ 1 ∧ Q (μ x0 30) μ))))) : Ex G Φ 3 0 [some (2, x0), some (0, x1), some (0, x2)] [] S μ 0 0 := by
  refine ex_iload_n hΦ dX8_isOn_0 rfl ?_
  refine ex_bipush hΦ dX8_isOn_1 (by decide) ?_
  obtain ⟨o1, h⟩ := h
  refine ex_icmp_ne 13 hΦ dX8_isOn_3 (by decide) o1 ⟨by decide, by decide⟩ (fun c => ?_) (fun c => ?_)
  · have h := h.1 c
    refine ex_iload_n hΦ dX8_isOn_13 rfl ?_
    obtain ⟨o2, h⟩ := h
    refine ex_aload_n hΦ dX8_isOn_14 rfl o2.1 ?_
    refine ex_getf hΦ fl_X8_180 o2 dX8_isOn_15 ?_
    obtain ⟨o3, h⟩ := h
    refine ex_icmp_ge 33 hΦ dX8_isOn_18 (by decide) o1 o3 (fun c => ?_) (fun c => ?_)
    · have h := h.1 c
      refine ex_iconst hΦ dX8_isOn_33 ?_
      exact ex_returnz hΦ hR (by decide) (by decide) dX8_isOn_34 h
    · have h := h.2 c
      refine ex_iload_n hΦ dX8_isOn_21 rfl ?_
      refine ex_iload_n hΦ dX8_isOn_22 rfl ?_
      refine ex_callSi [(0, x2), (0, x1)] [(0, x1), (0, x2)] hΦ lkS_X8_192 ⟨by decide, by decide⟩ (Nat.le_of_ble_eq_true rfl) rfl (by decide) dX8_isOn_23 rfl h (fun r4 μ4 h => ?_)
      obtain ⟨o5, h⟩ := h
      refine ex_if_ne 33 hΦ dX8_isOn_26 (by decide) o5 (fun c => ?_) (fun c => ?_)
      · have h := h.1 c
        refine ex_iconst hΦ dX8_isOn_33 ?_
        exact ex_returnz hΦ hR (by decide) (by decide) dX8_isOn_34 h
      · have h := h.2 c
        refine ex_iconst hΦ dX8_isOn_29 ?_
        refine ex_goto 34 hΦ dX8_isOn_30 (by decide) ?_
        exact ex_returnz hΦ hR (by decide) (by decide) dX8_isOn_34 h
  · have h := h.2 c
    obtain ⟨o6, h⟩ := h
    refine ex_aload_n hΦ dX8_isOn_6 rfl o6.1 ?_
    refine ex_getf hΦ fl_X8_189 o6 dX8_isOn_7 ?_
    refine ex_goto 34 hΦ dX8_isOn_10 (by decide) ?_
    obtain ⟨o7, h⟩ := h
    obtain ⟨o8, h⟩ := h
    exact ex_returnz hΦ hR o7 o8 dX8_isOn_34 h
theorem bX8_turn_24 {G : Gm} {Φ : Fr} {S : List Sh} {μ : Mem} {Q : Mem → Prop} (hΦ : St G Φ cX8_turn RX8 12 2 50 0 0) (hR : Rt G Φ (Pv S Q) 0 0 none) {x0 x1 x2 x3 x4 : Int} (h : So S x0 (.inl 8) ∧ (Ai S (μ x0 27) 1 x2 ∧ Ex G Φ 12 52 [some (2, x0), some (0, x1), some (0, x2), some (0, x3), some (0, x4), some (0, 1), none, none, none, none, none, none] [(1, (-(μ (μ x0 27) x2)))] S μ 0 0)) : Ex G Φ 12 24 [some (2, x0), some (0, x1), some (0, x2), some (0, x3), some (0, x4), none, none, none, none, none, none, none] [] S μ 0 0 := by
  refine ex_iconst hΦ dX8_turn_24 ?_
  refine ex_goto 29 hΦ dX8_turn_25 (by decide) ?_
  refine ex_istore (L' := [some (2, x0), some (0, x1), some (0, x2), some (0, x3), some (0, x4), some (0, 1), none, none, none, none, none, none]) hΦ dX8_turn_29 (by decide) rfl ?_
  refine ex_iload hΦ dX8_turn_31 rfl ?_
  refine ex_if_eq 46 hΦ dX8_turn_33 (by decide) ⟨by decide, by decide⟩ (fun c => absurd c (by decide)) (fun c => ?_)
  obtain ⟨o1, h⟩ := h
  refine ex_aload_n hΦ dX8_turn_36 rfl o1.1 ?_
  refine ex_getf hΦ fl_X8_51 o1 dX8_turn_37 ?_
  refine ex_iload_n hΦ dX8_turn_40 rfl ?_
  obtain ⟨o2, h⟩ := h
  refine ex_lald' hΦ o2 dX8_turn_41 ?_
  refine ex_lneg hΦ dX8_turn_42 ?_
  refine ex_goto 52 hΦ dX8_turn_43 (by decide) ?_
  exact h
theorem bX8_turn_52 {G : Gm} {Φ : Fr} {S : List Sh} {μ : Mem} {Q : Mem → Prop} (hΦ : St G Φ cX8_turn RX8 12 2 50 0 0) (hR : Rt G Φ (Pv S Q) 0 0 none) {x0 x1 x2 x3 x4 x5 t0 : Int} (h : So S x0 (.inl 8) ∧ (Ai S (μ x0 28) 1 x2 ∧ (Ai S (μ x0 15) 0 x1 ∧ (R32 (μ (μ x0 15) x1) ∧ (((μ (μ x0 15) x1) ≠ 2 → Ex G Φ 12 96 [some (2, x0), some (0, x1), some (0, x2), some (0, x3), some (0, x4), some (0, x5), some (1, t0), none, some (1, (μ (μ x0 28) x2)), none, none, none] [] S μ 0 0) ∧ ((μ (μ x0 15) x1) = 2 → Ai S (μ x0 13) 0 x3 ∧ (R32 (μ (μ x0 13) x3) ∧ (Ai S (μ x0 13) 0 x2 ∧ (R32 (μ (μ x0 13) x2) ∧ Ex G Φ 12 96 [some (2, x0), some (0, x1), some (0, x2), some (0, x3), some (0, x4), some (0, x5), some (1, (t0 * (μ (μ x0 13) x3))), none, some (1, ((μ (μ x0 28) x2) * (μ (μ x0 13) x2))), none, none, none] [] S μ 0 0))))))))) : Ex G Φ 12 52 [some (2, x0), some (0, x1), some (0, x2), some (0, x3), some (0, x4), some (0, x5), none, none, none, none, none, none] [(1, t0)] S μ 0 0 := by
  refine ex_lstore (L' := [some (2, x0), some (0, x1), some (0, x2), some (0, x3), some (0, x4), some (0, x5), some (1, t0), none, none, none, none, none]) hΦ dX8_turn_52 (by decide) rfl ?_
  obtain ⟨o1, h⟩ := h
  refine ex_aload_n hΦ dX8_turn_54 rfl o1.1 ?_
  refine ex_getf hΦ fl_X8_55 o1 dX8_turn_55 ?_
  refine ex_iload_n hΦ dX8_turn_58 rfl ?_
  obtain ⟨o2, h⟩ := h
  refine ex_lald' hΦ o2 dX8_turn_59 ?_
  refine ex_lstore (L' := [some (2, x0), some (0, x1), some (0, x2), some (0, x3), some (0, x4), some (0, x5), some (1, t0), none, some (1, (μ (μ x0 28) x2)), none, none, none]) hΦ dX8_turn_60 (by decide) rfl ?_
  refine ex_aload_n hΦ dX8_turn_62 rfl o1.1 ?_
  refine ex_getf hΦ fl_X8_27 o1 dX8_turn_63 ?_
  refine ex_iload_n hΦ dX8_turn_66 rfl ?_
  obtain ⟨o3, h⟩ := h
  refine ex_iald' hΦ o3 dX8_turn_67 ?_
  refine ex_iconst hΦ dX8_turn_68 ?_
  obtain ⟨o4, h⟩ := h
  refine ex_icmp_ne 96 hΦ dX8_turn_69 (by decide) o4 ⟨by decide, by decide⟩ (fun c => ?_) (fun c => ?_)
  · have h := h.1 c
    exact h
  · have h := h.2 c
    refine ex_lload hΦ dX8_turn_72 rfl ?_
    refine ex_aload_n hΦ dX8_turn_74 rfl o1.1 ?_
    refine ex_getf hΦ fl_X8_21 o1 dX8_turn_75 ?_
    refine ex_iload_n hΦ dX8_turn_78 rfl ?_
    obtain ⟨o5, h⟩ := h
    refine ex_iald' hΦ o5 dX8_turn_79 ?_
    obtain ⟨o6, h⟩ := h
    refine ex_i2l hΦ dX8_turn_80 o6 ?_
    refine ex_lmul hΦ dX8_turn_81 ?_
    refine ex_lstore (L' := [some (2, x0), some (0, x1), some (0, x2), some (0, x3), some (0, x4), some (0, x5), some (1, (t0 * (μ (μ x0 13) x3))), none, some (1, (μ (μ x0 28) x2)), none, none, none]) hΦ dX8_turn_82 (by decide) rfl ?_
    refine ex_lload hΦ dX8_turn_84 rfl ?_
    refine ex_aload_n hΦ dX8_turn_86 rfl o1.1 ?_
    refine ex_getf hΦ fl_X8_21 o1 dX8_turn_87 ?_
    refine ex_iload_n hΦ dX8_turn_90 rfl ?_
    obtain ⟨o7, h⟩ := h
    refine ex_iald' hΦ o7 dX8_turn_91 ?_
    obtain ⟨o8, h⟩ := h
    refine ex_i2l hΦ dX8_turn_92 o8 ?_
    refine ex_lmul hΦ dX8_turn_93 ?_
    refine ex_lstore (L' := [some (2, x0), some (0, x1), some (0, x2), some (0, x3), some (0, x4), some (0, x5), some (1, (t0 * (μ (μ x0 13) x3))), none, some (1, ((μ (μ x0 28) x2) * (μ (μ x0 13) x2))), none, none, none]) hΦ dX8_turn_94 (by decide) rfl ?_
    exact h
theorem bX8_turn_96 {G : Gm} {Φ : Fr} {S : List Sh} {μ : Mem} {Q : Mem → Prop} (hΦ : St G Φ cX8_turn RX8 12 2 50 0 0) (hR : Rt G Φ (Pv S Q) 0 0 none) {x0 x1 x2 x3 x4 x5 x6 x8 : Int} (h : Cj G mX8_common [(1, x8), (1, x6)] S μ (fun r1 μ1 => R64 x6 ∧ (R64 r1 ∧ (r1 ≠ 0 ∧ (R64 x8 ∧ (So S x0 (.inl 8) ∧ (Ai S (μ1 x0 27) 1 x3 ∧ (R64 (μ1 (μ1 x0 27) x3) ∧ (((μ1 (μ1 x0 27) x3) ≠ 0 → R32 (μ1 x0 29) ∧ (((μ1 x0 29) ≠ 0 → ∀ m10 : Mem, m10 = mu μ1 x0 29 1 → (Q m10)) ∧ ((μ1 x0 29) = 0 → R64 (Int.tdiv x6 r1) ∧ (((μ1 (μ1 x0 27) x3) ≠ (Int.tdiv x6 r1) → ∀ m12 : Mem, m12 = mu μ1 x0 29 1 → (Q m12)) ∧ ((μ1 (μ1 x0 27) x3) = (Int.tdiv x6 r1) → Ai S (μ1 x0 28) 1 x3 ∧ (R64 (μ1 (μ1 x0 28) x3) ∧ (R64 (Int.tdiv x8 r1) ∧ (((μ1 (μ1 x0 28) x3) = (Int.tdiv x8 r1) → ∀ m16 : Mem, m16 = mu μ1 x0 29 0 → (Q m16)) ∧ (¬ ((μ1 (μ1 x0 28) x3) = (Int.tdiv x8 r1)) → ∀ m17 : Mem, m17 = mu μ1 x0 29 1 → (Q m17)))))))))) ∧ ((μ1 (μ1 x0 27) x3) = 0 → ∀ m18 : Mem, m18 = mu μ1 (μ1 x0 27) x3 (Int.tdiv x6 r1) → (Ai S (m18 x0 28) 1 x3 ∧ (∀ m20 : Mem, m20 = mu m18 (m18 x0 28) x3 (Int.tdiv x8 r1) → (Q m20))))))))))))) : Ex G Φ 12 96 [some (2, x0), some (0, x1), some (0, x2), some (0, x3), some (0, x4), some (0, x5), some (1, x6), none, some (1, x8), none, none, none] [] S μ 0 0 := by
  refine ex_lload hΦ dX8_turn_96 rfl ?_
  refine ex_lload hΦ dX8_turn_98 rfl ?_
  refine ex_callSj [(1, x8), (1, x6)] [(1, x6), (1, x8)] hΦ lkS_X8_196 ⟨by decide, by decide⟩ (Nat.le_of_ble_eq_true rfl) rfl (by decide) dX8_turn_100 rfl h (fun r1 μ1 h => ?_)
  refine ex_lstore (L' := [some (2, x0), some (0, x1), some (0, x2), some (0, x3), some (0, x4), some (0, x5), some (1, x6), none, some (1, x8), none, some (1, r1), none]) hΦ dX8_turn_103 (by decide) rfl ?_
  refine ex_lload hΦ dX8_turn_105 rfl ?_
  refine ex_lload hΦ dX8_turn_107 rfl ?_
  obtain ⟨o2, h⟩ := h
  obtain ⟨o3, h⟩ := h
  obtain ⟨o4, h⟩ := h
  refine ex_ldiv hΦ dX8_turn_109 o2 o3 o4 ?_
  refine ex_lstore (L' := [some (2, x0), some (0, x1), some (0, x2), some (0, x3), some (0, x4), some (0, x5), some (1, (Int.tdiv x6 r1)), none, some (1, x8), none, some (1, r1), none]) hΦ dX8_turn_110 (by decide) rfl ?_
  refine ex_lload hΦ dX8_turn_112 rfl ?_
  refine ex_lload hΦ dX8_turn_114 rfl ?_
  obtain ⟨o5, h⟩ := h
  refine ex_ldiv hΦ dX8_turn_116 o5 o3 o4 ?_
  refine ex_lstore (L' := [some (2, x0), some (0, x1), some (0, x2), some (0, x3), some (0, x4), some (0, x5), some (1, (Int.tdiv x6 r1)), none, some (1, (Int.tdiv x8 r1)), none, some (1, r1), none]) hΦ dX8_turn_117 (by decide) rfl ?_
  obtain ⟨o6, h⟩ := h
  refine ex_aload_n hΦ dX8_turn_119 rfl o6.1 ?_
  refine ex_getf hΦ fl_X8_51 o6 dX8_turn_120 ?_
  refine ex_iload_n hΦ dX8_turn_123 rfl ?_
  obtain ⟨o7, h⟩ := h
  refine ex_lald' hΦ o7 dX8_turn_124 ?_
  refine ex_lconst (x := 0) hΦ dX8_turn_125 (by decide) ?_
  obtain ⟨o8, h⟩ := h
  refine ex_lcmp hΦ dX8_turn_126 o8 ⟨by decide, by decide⟩ ?_
  refine ex_lif_ne 149 hΦ dX8_turn_127 (by decide) (fun c => ?_) (fun c => ?_)
  · have h := h.1 c
    refine ex_aload_n hΦ dX8_turn_149 rfl o6.1 ?_
    refine ex_aload_n hΦ dX8_turn_150 rfl o6.1 ?_
    refine ex_getf hΦ fl_X8_200 o6 dX8_turn_151 ?_
    obtain ⟨o9, h⟩ := h
    refine ex_if_ne 181 hΦ dX8_turn_154 (by decide) o9 (fun c => ?_) (fun c => ?_)
    · have h := h.1 c
      refine ex_iconst hΦ dX8_turn_181 ?_
      refine ex_goto 186 hΦ dX8_turn_182 (by decide) ?_
      obtain ⟨m10, hm10⟩ : ∃ m : Mem, m = mu μ1 x0 29 1 := ⟨_, rfl⟩
      have h := h m10 hm10
      refine ex_putz' hΦ fl_X8_200 o6 rfl rfl (by decide) (by decide) dX8_turn_186 hm10 ?_
      exact ex_returnv hΦ hR dX8_turn_189 h
    · have h := h.2 c
      refine ex_aload_n hΦ dX8_turn_157 rfl o6.1 ?_
      refine ex_getf hΦ fl_X8_51 o6 dX8_turn_158 ?_
      refine ex_iload_n hΦ dX8_turn_161 rfl ?_
      refine ex_lald' hΦ o7 dX8_turn_162 ?_
      refine ex_lload hΦ dX8_turn_163 rfl ?_
      obtain ⟨o11, h⟩ := h
      refine ex_lcmp hΦ dX8_turn_165 o8 o11 ?_
      refine ex_lif_ne 181 hΦ dX8_turn_166 (by decide) (fun c => ?_) (fun c => ?_)
      · have h := h.1 c
        refine ex_iconst hΦ dX8_turn_181 ?_
        refine ex_goto 186 hΦ dX8_turn_182 (by decide) ?_
        obtain ⟨m12, hm12⟩ : ∃ m : Mem, m = mu μ1 x0 29 1 := ⟨_, rfl⟩
        have h := h m12 hm12
        refine ex_putz' hΦ fl_X8_200 o6 rfl rfl (by decide) (by decide) dX8_turn_186 hm12 ?_
        exact ex_returnv hΦ hR dX8_turn_189 h
      · have h := h.2 c
        refine ex_aload_n hΦ dX8_turn_169 rfl o6.1 ?_
        refine ex_getf hΦ fl_X8_55 o6 dX8_turn_170 ?_
        refine ex_iload_n hΦ dX8_turn_173 rfl ?_
        obtain ⟨o13, h⟩ := h
        refine ex_lald' hΦ o13 dX8_turn_174 ?_
        refine ex_lload hΦ dX8_turn_175 rfl ?_
        obtain ⟨o14, h⟩ := h
        obtain ⟨o15, h⟩ := h
        refine ex_lcmp hΦ dX8_turn_177 o14 o15 ?_
        refine ex_lif_eq 185 hΦ dX8_turn_178 (by decide) (fun c => ?_) (fun c => ?_)
        · have h := h.1 c
          refine ex_iconst hΦ dX8_turn_185 ?_
          obtain ⟨m16, hm16⟩ : ∃ m : Mem, m = mu μ1 x0 29 0 := ⟨_, rfl⟩
          have h := h m16 hm16
          refine ex_putz' hΦ fl_X8_200 o6 rfl rfl (by decide) (by decide) dX8_turn_186 hm16 ?_
          exact ex_returnv hΦ hR dX8_turn_189 h
        · have h := h.2 c
          refine ex_iconst hΦ dX8_turn_181 ?_
          refine ex_goto 186 hΦ dX8_turn_182 (by decide) ?_
          obtain ⟨m17, hm17⟩ : ∃ m : Mem, m = mu μ1 x0 29 1 := ⟨_, rfl⟩
          have h := h m17 hm17
          refine ex_putz' hΦ fl_X8_200 o6 rfl rfl (by decide) (by decide) dX8_turn_186 hm17 ?_
          exact ex_returnv hΦ hR dX8_turn_189 h
  · have h := h.2 c
    refine ex_aload_n hΦ dX8_turn_130 rfl o6.1 ?_
    refine ex_getf hΦ fl_X8_51 o6 dX8_turn_131 ?_
    refine ex_iload_n hΦ dX8_turn_134 rfl ?_
    refine ex_lload hΦ dX8_turn_135 rfl ?_
    obtain ⟨m18, hm18⟩ : ∃ m : Mem, m = mu μ1 (μ1 x0 27) x3 (Int.tdiv x6 r1) := ⟨_, rfl⟩
    have h := h m18 hm18
    refine ex_last'' hΦ o7 dX8_turn_137 hm18 ?_
    refine ex_aload_n hΦ dX8_turn_138 rfl o6.1 ?_
    refine ex_getf hΦ fl_X8_55 o6 dX8_turn_139 ?_
    refine ex_iload_n hΦ dX8_turn_142 rfl ?_
    refine ex_lload hΦ dX8_turn_143 rfl ?_
    obtain ⟨o19, h⟩ := h
    obtain ⟨m20, hm20⟩ : ∃ m : Mem, m = mu m18 (m18 x0 28) x3 (Int.tdiv x8 r1) := ⟨_, rfl⟩
    have h := h m20 hm20
    refine ex_last'' hΦ o19 dX8_turn_145 hm20 ?_
    refine ex_goto 189 hΦ dX8_turn_146 (by decide) ?_
    exact ex_returnv hΦ hR dX8_turn_189 h
theorem eX8_turn {G : Gm} {S : List Sh} {μ : Mem} {Q : Mem → Prop} {x0 x1 x2 x3 x4 : Int} (h : ∀ Φ : Fr, St G Φ cX8_turn RX8 12 2 50 0 0 → Rt G Φ (Pv S Q) 0 0 none → Ex G Φ 12 0 [some (2, x0), some (0, x1), some (0, x2), some (0, x3), some (0, x4), none, none, none, none, none, none, none] [] S μ 0 0) : Cv G mX8_turn [(2, x0), (0, x1), (0, x2), (0, x3), (0, x4)] S μ Q :=
  call_of' (plainFor_of_name (by decide +kernel)) [some (2, x0), some (0, x1), some (0, x2), some (0, x3), some (0, x4), none, none, none, none, none, none, none] rfl (Nat.le_of_ble_eq_true rfl) (fun Φ hΦ hR => h Φ hΦ hR)
theorem bX8_turn_0 {G : Gm} {Φ : Fr} {S : List Sh} {μ : Mem} {Q : Mem → Prop} (hΦ : St G Φ cX8_turn RX8 12 2 50 0 0) (hR : Rt G Φ (Pv S Q) 0 0 none) {x0 x1 x2 x3 x4 : Int} (h : So S x0 (.inl 8) ∧ (Ai S (μ x0 15) 0 x1 ∧ (R32 (μ (μ x0 15) x1) ∧ (((μ (μ x0 15) x1) ≠ 0 → Ai S (μ x0 27) 1 x2 ∧ Ex G Φ 12 52 [some (2, x0), some (0, x1), some (0, x2), some (0, x3), some (0, x4), some (0, 0), none, none, none, none, none, none] [(1, (μ (μ x0 27) x2))] S μ 0 0) ∧ ((μ (μ x0 15) x1) = 0 → R32 x1 ∧ ((20 ≤ x1 → Ex G Φ 12 24 [some (2, x0), some (0, x1), some (0, x2), some (0, x3), some (0, x4), none, none, none, none, none, none, none] [] S μ 0 0) ∧ (¬ (20 ≤ x1) → Ci G mX8_has [(0, x4), (0, x1)] S μ (fun r6 μ6 => R32 r6 ∧ ((r6 ≠ 0 → Ai S (μ6 x0 27) 1 x2 ∧ Ex G Φ 12 52 [some (2, x0), some (0, x1), some (0, x2), some (0, x3), some (0, x4), some (0, 0), none, none, none, none, none, none] [(1, (μ6 (μ6 x0 27) x2))] S μ6 0 0) ∧ (r6 = 0 → Ex G Φ 12 24 [some (2, x0), some (0, x1), some (0, x2), some (0, x3), some (0, x4), none, none, none, none, none, none, none] [] S μ6 0 0)))))))))) : Ex G Φ 12 0 [some (2, x0), some (0, x1), some (0, x2), some (0, x3), some (0, x4), none, none, none, none, none, none, none] [] S μ 0 0 := by
  obtain ⟨o1, h⟩ := h
  refine ex_aload_n hΦ dX8_turn_0 rfl o1.1 ?_
  refine ex_getf hΦ fl_X8_27 o1 dX8_turn_1 ?_
  refine ex_iload_n hΦ dX8_turn_4 rfl ?_
  obtain ⟨o2, h⟩ := h
  refine ex_iald' hΦ o2 dX8_turn_5 ?_
  obtain ⟨o3, h⟩ := h
  refine ex_if_ne 28 hΦ dX8_turn_6 (by decide) o3 (fun c => ?_) (fun c => ?_)
  · have h := h.1 c
    refine ex_iconst hΦ dX8_turn_28 ?_
    refine ex_istore (L' := [some (2, x0), some (0, x1), some (0, x2), some (0, x3), some (0, x4), some (0, 0), none, none, none, none, none, none]) hΦ dX8_turn_29 (by decide) rfl ?_
    refine ex_iload hΦ dX8_turn_31 rfl ?_
    refine ex_if_eq 46 hΦ dX8_turn_33 (by decide) ⟨by decide, by decide⟩ (fun c => ?_) (fun c => absurd (by decide) c)
    refine ex_aload_n hΦ dX8_turn_46 rfl o1.1 ?_
    refine ex_getf hΦ fl_X8_51 o1 dX8_turn_47 ?_
    refine ex_iload_n hΦ dX8_turn_50 rfl ?_
    obtain ⟨o4, h⟩ := h
    refine ex_lald' hΦ o4 dX8_turn_51 ?_
    exact h
  · have h := h.2 c
    refine ex_iload_n hΦ dX8_turn_9 rfl ?_
    refine ex_bipush hΦ dX8_turn_10 (by decide) ?_
    obtain ⟨o5, h⟩ := h
    refine ex_icmp_ge 24 hΦ dX8_turn_12 (by decide) o5 ⟨by decide, by decide⟩ (fun c => ?_) (fun c => ?_)
    · have h := h.1 c
      exact h
    · have h := h.2 c
      refine ex_iload hΦ dX8_turn_15 rfl ?_
      refine ex_iload_n hΦ dX8_turn_17 rfl ?_
      refine ex_callSi [(0, x4), (0, x1)] [(0, x1), (0, x4)] hΦ lkS_X8_192 ⟨by decide, by decide⟩ (Nat.le_of_ble_eq_true rfl) rfl (by decide) dX8_turn_18 rfl h (fun r6 μ6 h => ?_)
      obtain ⟨o7, h⟩ := h
      refine ex_if_ne 28 hΦ dX8_turn_21 (by decide) o7 (fun c => ?_) (fun c => ?_)
      · have h := h.1 c
        refine ex_iconst hΦ dX8_turn_28 ?_
        refine ex_istore (L' := [some (2, x0), some (0, x1), some (0, x2), some (0, x3), some (0, x4), some (0, 0), none, none, none, none, none, none]) hΦ dX8_turn_29 (by decide) rfl ?_
        refine ex_iload hΦ dX8_turn_31 rfl ?_
        refine ex_if_eq 46 hΦ dX8_turn_33 (by decide) ⟨by decide, by decide⟩ (fun c => ?_) (fun c => absurd (by decide) c)
        refine ex_aload_n hΦ dX8_turn_46 rfl o1.1 ?_
        refine ex_getf hΦ fl_X8_51 o1 dX8_turn_47 ?_
        refine ex_iload_n hΦ dX8_turn_50 rfl ?_
        obtain ⟨o8, h⟩ := h
        refine ex_lald' hΦ o8 dX8_turn_51 ?_
        exact h
      · have h := h.2 c
        exact h
theorem bX8_mesh_34 {G : Gm} {Φ : Fr} {S : List Sh} {μ : Mem} {Q : Mem → Prop} (hΦ : St G Φ cX8_mesh RX8 3 3 81 0 0) (hR : Rt G Φ (Pv S Q) 0 0 none) {x0 x1 x2 : Int} (h : So S x0 (.inl 8) ∧ (Ai S (μ x0 17) 0 x1 ∧ (Ai S (μ x0 27) 1 (μ (μ x0 17) x1) ∧ (R64 (μ (μ x0 27) (μ (μ x0 17) x1)) ∧ (((μ (μ x0 27) (μ (μ x0 17) x1)) = 0 → Q μ) ∧ (¬ ((μ (μ x0 27) (μ (μ x0 17) x1)) = 0) → Ai S (μ x0 16) 0 x1 ∧ Cv G mX8_turn [(2, x0), (0, x1), (0, (μ (μ x0 17) x1)), (0, (μ (μ x0 16) x1)), (0, x2)] S μ (fun μ6 => Q μ6))))))) : Ex G Φ 3 34 [some (2, x0), some (0, x1), some (0, x2)] [] S μ 0 0 := by
  obtain ⟨o1, h⟩ := h
  refine ex_aload_n hΦ dX8_mesh_34 rfl o1.1 ?_
  refine ex_getf hΦ fl_X8_51 o1 dX8_mesh_35 ?_
  refine ex_aload_n hΦ dX8_mesh_38 rfl o1.1 ?_
  refine ex_getf hΦ fl_X8_33 o1 dX8_mesh_39 ?_
  refine ex_iload_n hΦ dX8_mesh_42 rfl ?_
  obtain ⟨o2, h⟩ := h
  refine ex_iald' hΦ o2 dX8_mesh_43 ?_
  obtain ⟨o3, h⟩ := h
  refine ex_lald' hΦ o3 dX8_mesh_44 ?_
  refine ex_lconst (x := 0) hΦ dX8_mesh_45 (by decide) ?_
  obtain ⟨o4, h⟩ := h
  refine ex_lcmp hΦ dX8_mesh_46 o4 ⟨by decide, by decide⟩ ?_
  refine ex_lif_eq 68 hΦ dX8_mesh_47 (by decide) (fun c => ?_) (fun c => ?_)
  · have h := h.1 c
    exact ex_returnv hΦ hR dX8_mesh_68 h
  · have h := h.2 c
    refine ex_aload_n hΦ dX8_mesh_50 rfl o1.1 ?_
    refine ex_iload_n hΦ dX8_mesh_51 rfl ?_
    refine ex_aload_n hΦ dX8_mesh_52 rfl o1.1 ?_
    refine ex_getf hΦ fl_X8_33 o1 dX8_mesh_53 ?_
    refine ex_iload_n hΦ dX8_mesh_56 rfl ?_
    refine ex_iald' hΦ o2 dX8_mesh_57 ?_
    refine ex_aload_n hΦ dX8_mesh_58 rfl o1.1 ?_
    refine ex_getf hΦ fl_X8_30 o1 dX8_mesh_59 ?_
    refine ex_iload_n hΦ dX8_mesh_62 rfl ?_
    obtain ⟨o5, h⟩ := h
    refine ex_iald' hΦ o5 dX8_mesh_63 ?_
    refine ex_iload_n hΦ dX8_mesh_64 rfl ?_
    refine ex_callVv [(0, x1), (0, (μ (μ x0 17) x1)), (0, (μ (μ x0 16) x1)), (0, x2)] [(0, x2), (0, (μ (μ x0 16) x1)), (0, (μ (μ x0 17) x1)), (0, x1), (2, x0)] hΦ lkV_X8_203 ⟨by decide, by decide⟩ (Nat.le_of_ble_eq_true rfl) rfl (by decide) 8 (by decide) rfl o1 dX8_mesh_65 rfl h (fun μ6 h => ?_)
    exact ex_returnv hΦ hR dX8_mesh_68 h
theorem eX8_mesh {G : Gm} {S : List Sh} {μ : Mem} {Q : Mem → Prop} {x0 x1 x2 : Int} (h : ∀ Φ : Fr, St G Φ cX8_mesh RX8 3 3 81 0 0 → Rt G Φ (Pv S Q) 0 0 none → Ex G Φ 3 0 [some (2, x0), some (0, x1), some (0, x2)] [] S μ 0 0) : Cv G mX8_mesh [(2, x0), (0, x1), (0, x2)] S μ Q :=
  call_of' (plainFor_of_name (by decide +kernel)) [some (2, x0), some (0, x1), some (0, x2)] rfl (Nat.le_of_ble_eq_true rfl) (fun Φ hΦ hR => h Φ hΦ hR)
theorem bX8_mesh_0 {G : Gm} {Φ : Fr} {S : List Sh} {μ : Mem} {Q : Mem → Prop} (hΦ : St G Φ cX8_mesh RX8 3 3 81 0 0) (hR : Rt G Φ (Pv S Q) 0 0 none) {x0 x1 x2 : Int} (h : So S x0 (.inl 8) ∧ (Ai S (μ x0 16) 0 x1 ∧ (Ai S (μ x0 27) 1 (μ (μ x0 16) x1) ∧ (R64 (μ (μ x0 27) (μ (μ x0 16) x1)) ∧ (((μ (μ x0 27) (μ (μ x0 16) x1)) = 0 → Ex G Φ 3 34 [some (2, x0), some (0, x1), some (0, x2)] [] S μ 0 0) ∧ (¬ ((μ (μ x0 27) (μ (μ x0 16) x1)) = 0) → Ai S (μ x0 17) 0 x1 ∧ Cv G mX8_turn [(2, x0), (0, x1), (0, (μ (μ x0 16) x1)), (0, (μ (μ x0 17) x1)), (0, x2)] S μ (fun μ6 => Ex G Φ 3 34 [some (2, x0), some (0, x1), some (0, x2)] [] S μ6 0 0))))))) : Ex G Φ 3 0 [some (2, x0), some (0, x1), some (0, x2)] [] S μ 0 0 := by
  obtain ⟨o1, h⟩ := h
  refine ex_aload_n hΦ dX8_mesh_0 rfl o1.1 ?_
  refine ex_getf hΦ fl_X8_51 o1 dX8_mesh_1 ?_
  refine ex_aload_n hΦ dX8_mesh_4 rfl o1.1 ?_
  refine ex_getf hΦ fl_X8_30 o1 dX8_mesh_5 ?_
  refine ex_iload_n hΦ dX8_mesh_8 rfl ?_
  obtain ⟨o2, h⟩ := h
  refine ex_iald' hΦ o2 dX8_mesh_9 ?_
  obtain ⟨o3, h⟩ := h
  refine ex_lald' hΦ o3 dX8_mesh_10 ?_
  refine ex_lconst (x := 0) hΦ dX8_mesh_11 (by decide) ?_
  obtain ⟨o4, h⟩ := h
  refine ex_lcmp hΦ dX8_mesh_12 o4 ⟨by decide, by decide⟩ ?_
  refine ex_lif_eq 34 hΦ dX8_mesh_13 (by decide) (fun c => ?_) (fun c => ?_)
  · have h := h.1 c
    exact h
  · have h := h.2 c
    refine ex_aload_n hΦ dX8_mesh_16 rfl o1.1 ?_
    refine ex_iload_n hΦ dX8_mesh_17 rfl ?_
    refine ex_aload_n hΦ dX8_mesh_18 rfl o1.1 ?_
    refine ex_getf hΦ fl_X8_30 o1 dX8_mesh_19 ?_
    refine ex_iload_n hΦ dX8_mesh_22 rfl ?_
    refine ex_iald' hΦ o2 dX8_mesh_23 ?_
    refine ex_aload_n hΦ dX8_mesh_24 rfl o1.1 ?_
    refine ex_getf hΦ fl_X8_33 o1 dX8_mesh_25 ?_
    refine ex_iload_n hΦ dX8_mesh_28 rfl ?_
    obtain ⟨o5, h⟩ := h
    refine ex_iald' hΦ o5 dX8_mesh_29 ?_
    refine ex_iload_n hΦ dX8_mesh_30 rfl ?_
    refine ex_callVv [(0, x1), (0, (μ (μ x0 16) x1)), (0, (μ (μ x0 17) x1)), (0, x2)] [(0, x2), (0, (μ (μ x0 17) x1)), (0, (μ (μ x0 16) x1)), (0, x1), (2, x0)] hΦ lkV_X8_203 ⟨by decide, by decide⟩ (Nat.le_of_ble_eq_true rfl) rfl (by decide) 8 (by decide) rfl o1 dX8_mesh_31 rfl h (fun μ6 h => ?_)
    exact h
theorem bX8_findRates_7 {G : Gm} {Φ : Fr} {S : List Sh} {μ : Mem} {Q : Mem → Prop} (hΦ : St G Φ cX8_findRates RX8 5 4 103 0 0) (hR : Rt G Φ (Pv S Q) 0 0 none) {x0 x1 x2 x3 : Int} (h : R32 x3 ∧ ((8 ≤ x3 → So S x0 (.inl 8) ∧ (R32 (μ x0 2) ∧ (((μ x0 2) ≤ 0 → Ex G Φ 5 56 [some (2, x0), some (0, x1), some (0, x2), some (0, 0), none] [] S μ 0 0) ∧ (¬ ((μ x0 2) ≤ 0) → R32 (μ x0 6) ∧ (Ai S (μ x0 27) 1 (μ x0 5) ∧ (∀ m6 : Mem, m6 = mu μ (μ x0 27) (μ x0 5) (μ x0 6) → (Ex G Φ 5 56 [some (2, x0), some (0, x1), some (0, x2), some (0, 0), none] [] S m6 0 0))))))) ∧ (¬ (8 ≤ x3) → So S x0 (.inl 8) ∧ (Ai S (μ x0 27) 1 x3 ∧ (∀ m9 : Mem, m9 = mu μ (μ x0 27) x3 0 → (Ai S (m9 x0 28) 1 x3 ∧ (∀ m11 : Mem, m11 = mu m9 (m9 x0 28) x3 1 → (Ex G Φ 5 7 [some (2, x0), some (0, x1), some (0, x2), some (0, (x3 + 1)), none] [] S m11 0 0)))))))) : Ex G Φ 5 7 [some (2, x0), some (0, x1), some (0, x2), some (0, x3), none] [] S μ 0 0 := by
  refine ex_iload_n hΦ dX8_findRates_7 rfl ?_
  refine ex_bipush hΦ dX8_findRates_8 (by decide) ?_
  obtain ⟨o1, h⟩ := h
  refine ex_icmp_ge 33 hΦ dX8_findRates_10 (by decide) o1 ⟨by decide, by decide⟩ (fun c => ?_) (fun c => ?_)
  · have h := h.1 c
    obtain ⟨o2, h⟩ := h
    refine ex_aload_n hΦ dX8_findRates_33 rfl o2.1 ?_
    refine ex_getf hΦ fl_X8_177 o2 dX8_findRates_34 ?_
    obtain ⟨o3, h⟩ := h
    refine ex_if_le 54 hΦ dX8_findRates_37 (by decide) o3 (fun c => ?_) (fun c => ?_)
    · have h := h.1 c
      refine ex_iconst hΦ dX8_findRates_54 ?_
      refine ex_istore_n (L' := [some (2, x0), some (0, x1), some (0, x2), some (0, 0), none]) hΦ dX8_findRates_55 (by decide) rfl ?_
      exact h
    · have h := h.2 c
      refine ex_aload_n hΦ dX8_findRates_40 rfl o2.1 ?_
      refine ex_getf hΦ fl_X8_51 o2 dX8_findRates_41 ?_
      refine ex_aload_n hΦ dX8_findRates_44 rfl o2.1 ?_
      refine ex_getf hΦ fl_X8_186 o2 dX8_findRates_45 ?_
      refine ex_aload_n hΦ dX8_findRates_48 rfl o2.1 ?_
      refine ex_getf hΦ fl_X8_17 o2 dX8_findRates_49 ?_
      obtain ⟨o4, h⟩ := h
      refine ex_i2l hΦ dX8_findRates_52 o4 ?_
      obtain ⟨o5, h⟩ := h
      obtain ⟨m6, hm6⟩ : ∃ m : Mem, m = mu μ (μ x0 27) (μ x0 5) (μ x0 6) := ⟨_, rfl⟩
      have h := h m6 hm6
      refine ex_last'' hΦ o5 dX8_findRates_53 hm6 ?_
      refine ex_iconst hΦ dX8_findRates_54 ?_
      refine ex_istore_n (L' := [some (2, x0), some (0, x1), some (0, x2), some (0, 0), none]) hΦ dX8_findRates_55 (by decide) rfl ?_
      exact h
  · have h := h.2 c
    obtain ⟨o7, h⟩ := h
    refine ex_aload_n hΦ dX8_findRates_13 rfl o7.1 ?_
    refine ex_getf hΦ fl_X8_51 o7 dX8_findRates_14 ?_
    refine ex_iload_n hΦ dX8_findRates_17 rfl ?_
    refine ex_lconst (x := 0) hΦ dX8_findRates_18 (by decide) ?_
    obtain ⟨o8, h⟩ := h
    obtain ⟨m9, hm9⟩ : ∃ m : Mem, m = mu μ (μ x0 27) x3 0 := ⟨_, rfl⟩
    have h := h m9 hm9
    refine ex_last'' hΦ o8 dX8_findRates_19 hm9 ?_
    refine ex_aload_n hΦ dX8_findRates_20 rfl o7.1 ?_
    refine ex_getf hΦ fl_X8_55 o7 dX8_findRates_21 ?_
    refine ex_iload_n hΦ dX8_findRates_24 rfl ?_
    refine ex_lconst (x := 1) hΦ dX8_findRates_25 (by decide) ?_
    obtain ⟨o10, h⟩ := h
    obtain ⟨m11, hm11⟩ : ∃ m : Mem, m = mu m9 (m9 x0 28) x3 1 := ⟨_, rfl⟩
    have h := h m11 hm11
    refine ex_last'' hΦ o10 dX8_findRates_26 hm11 ?_
    refine ex_iinc (L' := [some (2, x0), some (0, x1), some (0, x2), some (0, (x3 + 1)), none]) hΦ dX8_findRates_27 rfl (by decide) rfl ?_
    refine ex_goto 7 hΦ dX8_findRates_30 (by decide) ?_
    exact h
theorem bX8_findRates_56 {G : Gm} {Φ : Fr} {S : List Sh} {μ : Mem} {Q : Mem → Prop} (hΦ : St G Φ cX8_findRates RX8 5 4 103 0 0) (hR : Rt G Φ (Pv S Q) 0 0 none) {x0 x1 x2 x3 : Int} (h : So S x0 (.inl 8) ∧ (R32 x3 ∧ (R32 (μ x0 2) ∧ (((μ x0 2) < x3 → Ex G Φ 5 105 [some (2, x0), some (0, x1), some (0, x2), some (0, 0), none] [] S μ 0 0) ∧ (¬ ((μ x0 2) < x3) → Ex G Φ 5 67 [some (2, x0), some (0, x1), some (0, x2), some (0, x3), some (0, 0)] [] S μ 0 0))))) : Ex G Φ 5 56 [some (2, x0), some (0, x1), some (0, x2), some (0, x3), none] [] S μ 0 0 := by
  refine ex_iload_n hΦ dX8_findRates_56 rfl ?_
  obtain ⟨o1, h⟩ := h
  refine ex_aload_n hΦ dX8_findRates_57 rfl o1.1 ?_
  refine ex_getf hΦ fl_X8_177 o1 dX8_findRates_58 ?_
  obtain ⟨o2, h⟩ := h
  obtain ⟨o3, h⟩ := h
  refine ex_icmp_gt 103 hΦ dX8_findRates_61 (by decide) o2 o3 (fun c => ?_) (fun c => ?_)
  · have h := h.1 c
    refine ex_iconst hΦ dX8_findRates_103 ?_
    refine ex_istore_n (L' := [some (2, x0), some (0, x1), some (0, x2), some (0, 0), none]) hΦ dX8_findRates_104 (by decide) rfl ?_
    exact h
  · have h := h.2 c
    refine ex_iconst hΦ dX8_findRates_64 ?_
    refine ex_istore (L' := [some (2, x0), some (0, x1), some (0, x2), some (0, x3), some (0, 0)]) hΦ dX8_findRates_65 (by decide) rfl ?_
    exact h
theorem bX8_findRates_67 {G : Gm} {Φ : Fr} {S : List Sh} {μ : Mem} {Q : Mem → Prop} (hΦ : St G Φ cX8_findRates RX8 5 4 103 0 0) (hR : Rt G Φ (Pv S Q) 0 0 none) {x0 x1 x2 x3 x4 : Int} (h : R32 x4 ∧ ((20 < x4 → Ex G Φ 5 56 [some (2, x0), some (0, x1), some (0, x2), some (0, (x3 + 1)), none] [] S μ 0 0) ∧ (¬ (20 < x4) → So S x0 (.inl 8) ∧ (Ci G mX8_isOn [(2, x0), (0, x4), (0, x1)] S μ (fun r3 μ3 => R32 r3 ∧ ((r3 = 0 → Ex G Φ 5 67 [some (2, x0), some (0, x1), some (0, x2), some (0, x3), some (0, (x4 + 1))] [] S μ3 0 0) ∧ (¬ (r3 = 0) → Cv G mX8_mesh [(2, x0), (0, x4), (0, x2)] S μ3 (fun μ5 => Ex G Φ 5 67 [some (2, x0), some (0, x1), some (0, x2), some (0, x3), some (0, (x4 + 1))] [] S μ5 0 0)))))))) : Ex G Φ 5 67 [some (2, x0), some (0, x1), some (0, x2), some (0, x3), some (0, x4)] [] S μ 0 0 := by
  refine ex_iload hΦ dX8_findRates_67 rfl ?_
  refine ex_bipush hΦ dX8_findRates_69 (by decide) ?_
  obtain ⟨o1, h⟩ := h
  refine ex_icmp_gt 97 hΦ dX8_findRates_71 (by decide) o1 ⟨by decide, by decide⟩ (fun c => ?_) (fun c => ?_)
  · have h := h.1 c
    refine ex_iinc (L' := [some (2, x0), some (0, x1), some (0, x2), some (0, (x3 + 1)), some (0, x4)]) hΦ dX8_findRates_97 rfl (by decide) rfl ?_
    refine ex_goto 56 hΦ dX8_findRates_100 (by decide) ?_
    refine ex_forget (L' := [some (2, x0), some (0, x1), some (0, x2), some (0, (x3 + 1)), none]) [4] rfl ?_
    exact h
  · have h := h.2 c
    obtain ⟨o2, h⟩ := h
    refine ex_aload_n hΦ dX8_findRates_74 rfl o2.1 ?_
    refine ex_iload hΦ dX8_findRates_75 rfl ?_
    refine ex_iload_n hΦ dX8_findRates_77 rfl ?_
    refine ex_callVi [(0, x4), (0, x1)] [(0, x1), (0, x4), (2, x0)] hΦ lkV_X8_207 ⟨by decide, by decide⟩ (Nat.le_of_ble_eq_true rfl) rfl (by decide) 8 (by decide) rfl o2 dX8_findRates_78 rfl h (fun r3 μ3 h => ?_)
    obtain ⟨o4, h⟩ := h
    refine ex_if_eq 91 hΦ dX8_findRates_81 (by decide) o4 (fun c => ?_) (fun c => ?_)
    · have h := h.1 c
      refine ex_iinc (L' := [some (2, x0), some (0, x1), some (0, x2), some (0, x3), some (0, (x4 + 1))]) hΦ dX8_findRates_91 rfl (by decide) rfl ?_
      refine ex_goto 67 hΦ dX8_findRates_94 (by decide) ?_
      exact h
    · have h := h.2 c
      refine ex_aload_n hΦ dX8_findRates_84 rfl o2.1 ?_
      refine ex_iload hΦ dX8_findRates_85 rfl ?_
      refine ex_iload_n hΦ dX8_findRates_87 rfl ?_
      refine ex_callVv [(0, x4), (0, x2)] [(0, x2), (0, x4), (2, x0)] hΦ lkV_X8_210 ⟨by decide, by decide⟩ (Nat.le_of_ble_eq_true rfl) rfl (by decide) 8 (by decide) rfl o2 dX8_findRates_88 rfl h (fun μ5 h => ?_)
      refine ex_iinc (L' := [some (2, x0), some (0, x1), some (0, x2), some (0, x3), some (0, (x4 + 1))]) hΦ dX8_findRates_91 rfl (by decide) rfl ?_
      refine ex_goto 67 hΦ dX8_findRates_94 (by decide) ?_
      exact h
theorem bX8_findRates_105 {G : Gm} {Φ : Fr} {S : List Sh} {μ : Mem} {Q : Mem → Prop} (hΦ : St G Φ cX8_findRates RX8 5 4 103 0 0) (hR : Rt G Φ (Pv S Q) 0 0 none) {x0 x1 x2 x3 : Int} (h : R32 x3 ∧ ((8 ≤ x3 → Q μ) ∧ (¬ (8 ≤ x3) → So S x0 (.inl 8) ∧ (R32 (μ x0 29) ∧ (((μ x0 29) = 0 → Q μ) ∧ (¬ ((μ x0 29) = 0) → Ai S (μ x0 27) 1 x3 ∧ (∀ m5 : Mem, m5 = mu μ (μ x0 27) x3 0 → (Ai S (m5 x0 28) 1 x3 ∧ (∀ m7 : Mem, m7 = mu m5 (m5 x0 28) x3 1 → (Ex G Φ 5 105 [some (2, x0), some (0, x1), some (0, x2), some (0, (x3 + 1)), none] [] S m7 0 0)))))))))) : Ex G Φ 5 105 [some (2, x0), some (0, x1), some (0, x2), some (0, x3), none] [] S μ 0 0 := by
  refine ex_iload_n hΦ dX8_findRates_105 rfl ?_
  refine ex_bipush hΦ dX8_findRates_106 (by decide) ?_
  obtain ⟨o1, h⟩ := h
  refine ex_icmp_ge 138 hΦ dX8_findRates_108 (by decide) o1 ⟨by decide, by decide⟩ (fun c => ?_) (fun c => ?_)
  · have h := h.1 c
    exact ex_returnv hΦ hR dX8_findRates_138 h
  · have h := h.2 c
    obtain ⟨o2, h⟩ := h
    refine ex_aload_n hΦ dX8_findRates_111 rfl o2.1 ?_
    refine ex_getf hΦ fl_X8_200 o2 dX8_findRates_112 ?_
    obtain ⟨o3, h⟩ := h
    refine ex_if_eq 138 hΦ dX8_findRates_115 (by decide) o3 (fun c => ?_) (fun c => ?_)
    · have h := h.1 c
      exact ex_returnv hΦ hR dX8_findRates_138 h
    · have h := h.2 c
      refine ex_aload_n hΦ dX8_findRates_118 rfl o2.1 ?_
      refine ex_getf hΦ fl_X8_51 o2 dX8_findRates_119 ?_
      refine ex_iload_n hΦ dX8_findRates_122 rfl ?_
      refine ex_lconst (x := 0) hΦ dX8_findRates_123 (by decide) ?_
      obtain ⟨o4, h⟩ := h
      obtain ⟨m5, hm5⟩ : ∃ m : Mem, m = mu μ (μ x0 27) x3 0 := ⟨_, rfl⟩
      have h := h m5 hm5
      refine ex_last'' hΦ o4 dX8_findRates_124 hm5 ?_
      refine ex_aload_n hΦ dX8_findRates_125 rfl o2.1 ?_
      refine ex_getf hΦ fl_X8_55 o2 dX8_findRates_126 ?_
      refine ex_iload_n hΦ dX8_findRates_129 rfl ?_
      refine ex_lconst (x := 1) hΦ dX8_findRates_130 (by decide) ?_
      obtain ⟨o6, h⟩ := h
      obtain ⟨m7, hm7⟩ : ∃ m : Mem, m = mu m5 (m5 x0 28) x3 1 := ⟨_, rfl⟩
      have h := h m7 hm7
      refine ex_last'' hΦ o6 dX8_findRates_131 hm7 ?_
      refine ex_iinc (L' := [some (2, x0), some (0, x1), some (0, x2), some (0, (x3 + 1)), none]) hΦ dX8_findRates_132 rfl (by decide) rfl ?_
      refine ex_goto 105 hΦ dX8_findRates_135 (by decide) ?_
      exact h
theorem eX8_findRates {G : Gm} {S : List Sh} {μ : Mem} {Q : Mem → Prop} {x0 x1 x2 : Int} (h : ∀ Φ : Fr, St G Φ cX8_findRates RX8 5 4 103 0 0 → Rt G Φ (Pv S Q) 0 0 none → Ex G Φ 5 0 [some (2, x0), some (0, x1), some (0, x2), none, none] [] S μ 0 0) : Cv G mX8_findRates [(2, x0), (0, x1), (0, x2)] S μ Q :=
  call_of' (plainFor_of_name (by decide +kernel)) [some (2, x0), some (0, x1), some (0, x2), none, none] rfl (Nat.le_of_ble_eq_true rfl) (fun Φ hΦ hR => h Φ hΦ hR)
theorem bX8_findRates_0 {G : Gm} {Φ : Fr} {S : List Sh} {μ : Mem} {Q : Mem → Prop} (hΦ : St G Φ cX8_findRates RX8 5 4 103 0 0) (hR : Rt G Φ (Pv S Q) 0 0 none) {x0 x1 x2 : Int} (h : So S x0 (.inl 8) ∧ (∀ m2 : Mem, m2 = mu μ x0 29 0 → (Ex G Φ 5 7 [some (2, x0), some (0, x1), some (0, x2), some (0, 0), none] [] S m2 0 0))) : Ex G Φ 5 0 [some (2, x0), some (0, x1), some (0, x2), none, none] [] S μ 0 0 := by
  obtain ⟨o1, h⟩ := h
  refine ex_aload_n hΦ dX8_findRates_0 rfl o1.1 ?_
  refine ex_iconst hΦ dX8_findRates_1 ?_
  obtain ⟨m2, hm2⟩ : ∃ m : Mem, m = mu μ x0 29 0 := ⟨_, rfl⟩
  have h := h m2 hm2
  refine ex_putz' hΦ fl_X8_200 o1 rfl rfl (by decide) (by decide) dX8_findRates_2 hm2 ?_
  refine ex_iconst hΦ dX8_findRates_5 ?_
  refine ex_istore_n (L' := [some (2, x0), some (0, x1), some (0, x2), some (0, 0), none]) hΦ dX8_findRates_6 (by decide) rfl ?_
  exact h
theorem eX8_ratesNow {G : Gm} {S : List Sh} {μ : Mem} {Q : Mem → Prop} {x0 : Int} (h : ∀ Φ : Fr, St G Φ cX8_ratesNow RX8 1 5 127 0 0 → Rt G Φ (Pv S Q) 0 0 none → Ex G Φ 1 0 [some (2, x0)] [] S μ 0 0) : Cv G mX8_ratesNow [(2, x0)] S μ Q :=
  call_of' (plainFor_of_name (by decide +kernel)) [some (2, x0)] rfl (Nat.le_of_ble_eq_true rfl) (fun Φ hΦ hR => h Φ hΦ hR)
theorem bX8_ratesNow_0 {G : Gm} {Φ : Fr} {S : List Sh} {μ : Mem} {Q : Mem → Prop} (hΦ : St G Φ cX8_ratesNow RX8 1 5 127 0 0) (hR : Rt G Φ (Pv S Q) 0 0 none) {x0 : Int} (h : So S x0 (.inl 8) ∧ (∀ m2 : Mem, m2 = mu μ x0 30 0 → (Ai S (m2 x0 0) 0 10 ∧ Cv G mX8_findRates [(2, x0), (0, (m2 (m2 x0 0) 10)), (0, 0)] S m2 (fun μ4 => Q μ4)))) : Ex G Φ 1 0 [some (2, x0)] [] S μ 0 0 := by
  obtain ⟨o1, h⟩ := h
  refine ex_aload_n hΦ dX8_ratesNow_0 rfl o1.1 ?_
  refine ex_iconst hΦ dX8_ratesNow_1 ?_
  obtain ⟨m2, hm2⟩ : ∃ m : Mem, m = mu μ x0 30 0 := ⟨_, rfl⟩
  have h := h m2 hm2
  refine ex_putz' hΦ fl_X8_189 o1 rfl rfl (by decide) (by decide) dX8_ratesNow_2 hm2 ?_
  refine ex_aload_n hΦ dX8_ratesNow_5 rfl o1.1 ?_
  refine ex_aload_n hΦ dX8_ratesNow_6 rfl o1.1 ?_
  refine ex_getf hΦ fl_X8_7 o1 dX8_ratesNow_7 ?_
  refine ex_bipush hΦ dX8_ratesNow_10 (by decide) ?_
  obtain ⟨o3, h⟩ := h
  refine ex_iald' hΦ o3 dX8_ratesNow_12 ?_
  refine ex_iconst hΦ dX8_ratesNow_13 ?_
  refine ex_callVv [(0, (m2 (m2 x0 0) 10)), (0, 0)] [(0, 0), (0, (m2 (m2 x0 0) 10)), (2, x0)] hΦ lkV_X8_214 ⟨by decide, by decide⟩ (Nat.le_of_ble_eq_true rfl) rfl (by decide) 8 (by decide) rfl o1 dX8_ratesNow_14 rfl h (fun μ4 h => ?_)
  exact ex_returnv hΦ hR dX8_ratesNow_17 h
theorem bX8_turning_4 {G : Gm} {Φ : Fr} {S : List Sh} {μ : Mem} {Q : Int → Mem → Prop} (hΦ : St G Φ cX8_turning RX8 3 1 20 0 0) (hR : Rt G Φ (Pi S Q) 0 0 (some .int)) {x0 x1 x2 : Int} (h : So S x0 (.inl 8) ∧ (R32 x2 ∧ (R32 (μ x0 2) ∧ (((μ x0 2) ≤ x2 → Q x1 μ) ∧ (¬ ((μ x0 2) ≤ x2) → Ai S (μ x0 27) 1 x2 ∧ (R64 (μ (μ x0 27) x2) ∧ (((μ (μ x0 27) x2) = 0 → Ci G mX8_one [(0, 0)] S μ (fun r6 μ6 => 0 ≤ x2 ∧ (x2 ≤ 31 ∧ Ex G Φ 3 4 [some (2, x0), some (0, (mor x1 (r6 * 2 ^ (Int.toNat x2)))), some (0, (x2 + 1))] [] S μ6 0 0))) ∧ (¬ ((μ (μ x0 27) x2) = 0) → Ci G mX8_one [(0, 1)] S μ (fun r9 μ9 => 0 ≤ x2 ∧ (x2 ≤ 31 ∧ Ex G Φ 3 4 [some (2, x0), some (0, (mor x1 (r9 * 2 ^ (Int.toNat x2)))), some (0, (x2 + 1))] [] S μ9 0 0)))))))))) : Ex G Φ 3 4 [some (2, x0), some (0, x1), some (0, x2)] [] S μ 0 0 := by
  refine ex_iload_n hΦ dX8_turning_4 rfl ?_
  obtain ⟨o1, h⟩ := h
  refine ex_aload_n hΦ dX8_turning_5 rfl o1.1 ?_
  refine ex_getf hΦ fl_X8_177 o1 dX8_turning_6 ?_
  obtain ⟨o2, h⟩ := h
  obtain ⟨o3, h⟩ := h
  refine ex_icmp_ge 42 hΦ dX8_turning_9 (by decide) o2 o3 (fun c => ?_) (fun c => ?_)
  · have h := h.1 c
    refine ex_iload_n hΦ dX8_turning_42 rfl ?_
    exact ex_returni hΦ hR dX8_turning_43 h
  · have h := h.2 c
    refine ex_iload_n hΦ dX8_turning_12 rfl ?_
    refine ex_aload_n hΦ dX8_turning_13 rfl o1.1 ?_
    refine ex_getf hΦ fl_X8_51 o1 dX8_turning_14 ?_
    refine ex_iload_n hΦ dX8_turning_17 rfl ?_
    obtain ⟨o4, h⟩ := h
    refine ex_lald' hΦ o4 dX8_turning_18 ?_
    refine ex_lconst (x := 0) hΦ dX8_turning_19 (by decide) ?_
    obtain ⟨o5, h⟩ := h
    refine ex_lcmp hΦ dX8_turning_20 o5 ⟨by decide, by decide⟩ ?_
    refine ex_lif_eq 28 hΦ dX8_turning_21 (by decide) (fun c => ?_) (fun c => ?_)
    · have h := h.1 c
      refine ex_iconst hΦ dX8_turning_28 ?_
      refine ex_callSi [(0, 0)] [(0, 0), (0, x1)] hΦ lkS_X8_217 ⟨by decide, by decide⟩ (Nat.le_of_ble_eq_true rfl) rfl (by decide) dX8_turning_29 rfl h (fun r6 μ6 h => ?_)
      refine ex_iload_n hΦ dX8_turning_32 rfl ?_
      obtain ⟨o7, h⟩ := h
      obtain ⟨o8, h⟩ := h
      refine ex_ishl hΦ dX8_turning_33 o7 o8 ?_
      refine ex_ior hΦ dX8_turning_34 ?_
      refine ex_istore_n (L' := [some (2, x0), some (0, (mor x1 (r6 * 2 ^ (Int.toNat x2)))), some (0, x2)]) hΦ dX8_turning_35 (by decide) rfl ?_
      refine ex_iinc (L' := [some (2, x0), some (0, (mor x1 (r6 * 2 ^ (Int.toNat x2)))), some (0, (x2 + 1))]) hΦ dX8_turning_36 rfl (by decide) rfl ?_
      refine ex_goto 4 hΦ dX8_turning_39 (by decide) ?_
      exact h
    · have h := h.2 c
      refine ex_iconst hΦ dX8_turning_24 ?_
      refine ex_goto 29 hΦ dX8_turning_25 (by decide) ?_
      refine ex_callSi [(0, 1)] [(0, 1), (0, x1)] hΦ lkS_X8_217 ⟨by decide, by decide⟩ (Nat.le_of_ble_eq_true rfl) rfl (by decide) dX8_turning_29 rfl h (fun r9 μ9 h => ?_)
      refine ex_iload_n hΦ dX8_turning_32 rfl ?_
      obtain ⟨o10, h⟩ := h
      obtain ⟨o11, h⟩ := h
      refine ex_ishl hΦ dX8_turning_33 o10 o11 ?_
      refine ex_ior hΦ dX8_turning_34 ?_
      refine ex_istore_n (L' := [some (2, x0), some (0, (mor x1 (r9 * 2 ^ (Int.toNat x2)))), some (0, x2)]) hΦ dX8_turning_35 (by decide) rfl ?_
      refine ex_iinc (L' := [some (2, x0), some (0, (mor x1 (r9 * 2 ^ (Int.toNat x2)))), some (0, (x2 + 1))]) hΦ dX8_turning_36 rfl (by decide) rfl ?_
      refine ex_goto 4 hΦ dX8_turning_39 (by decide) ?_
      exact h
theorem eX8_turning {G : Gm} {S : List Sh} {μ : Mem} {Q : Int → Mem → Prop} {x0 : Int} (h : ∀ Φ : Fr, St G Φ cX8_turning RX8 3 1 20 0 0 → Rt G Φ (Pi S Q) 0 0 (some .int) → Ex G Φ 3 0 [some (2, x0), none, none] [] S μ 0 0) : Ci G mX8_turning [(2, x0)] S μ Q :=
  call_of' (plainFor_of_name (by decide +kernel)) [some (2, x0), none, none] rfl (Nat.le_of_ble_eq_true rfl) (fun Φ hΦ hR => h Φ hΦ hR)
theorem bX8_turning_0 {G : Gm} {Φ : Fr} {S : List Sh} {μ : Mem} {Q : Int → Mem → Prop} (hΦ : St G Φ cX8_turning RX8 3 1 20 0 0) (hR : Rt G Φ (Pi S Q) 0 0 (some .int)) {x0 : Int} (h : Ex G Φ 3 4 [some (2, x0), some (0, 0), some (0, 0)] [] S μ 0 0) : Ex G Φ 3 0 [some (2, x0), none, none] [] S μ 0 0 := by
  refine ex_iconst hΦ dX8_turning_0 ?_
  refine ex_istore_n (L' := [some (2, x0), some (0, 0), none]) hΦ dX8_turning_1 (by decide) rfl ?_
  refine ex_iconst hΦ dX8_turning_2 ?_
  refine ex_istore_n (L' := [some (2, x0), some (0, 0), some (0, 0)]) hΦ dX8_turning_3 (by decide) rfl ?_
  exact h
theorem eX8_placeIn {G : Gm} {S : List Sh} {μ : Mem} {Q : Int → Mem → Prop} {x0 x1 x2 : Int} (h : ∀ Φ : Fr, St G Φ cX8_placeIn RX8 4 1 25 0 0 → Rt G Φ (Pi S Q) 0 0 (some .int) → Ex G Φ 4 0 [some (2, x0), some (0, x1), some (1, x2), none] [] S μ 0 0) : Ci G mX8_placeIn [(2, x0), (0, x1), (1, x2)] S μ Q :=
  call_of' (plainFor_of_name (by decide +kernel)) [some (2, x0), some (0, x1), some (1, x2), none] rfl (Nat.le_of_ble_eq_true rfl) (fun Φ hΦ hR => h Φ hΦ hR)
theorem bX8_placeIn_0 {G : Gm} {Φ : Fr} {S : List Sh} {μ : Mem} {Q : Int → Mem → Prop} (hΦ : St G Φ cX8_placeIn RX8 4 1 25 0 0) (hR : Rt G Φ (Pi S Q) 0 0 (some .int)) {x0 x1 x2 : Int} (h : So S x0 (.inl 8) ∧ (Ai S (μ x0 0) 0 x1 ∧ (R32 (μ (μ x0 0) x1) ∧ (Ai S (μ x0 27) 1 x1 ∧ (Ai S (μ x0 0) 0 8 ∧ (Ai S (μ x0 0) 0 9 ∧ (R32 ((μ (μ x0 0) 8) - (μ (μ x0 0) 9)) ∧ (Ai S (μ x0 28) 1 x1 ∧ (Cj G mX8_down [(1, ((μ (μ x0 27) x1) * (((μ (μ x0 0) 8) - (μ (μ x0 0) 9)) + x2))), (1, (μ (μ x0 28) x1))] S μ (fun r9 μ9 => Ai S (μ9 x0 13) 0 x1 ∧ Ci G mX8_over [(1, ((μ (μ x0 0) x1) + r9)), (0, (μ9 (μ9 x0 13) x1))] S μ9 (fun r11 μ11 => Q r11 μ11))))))))))) : Ex G Φ 4 0 [some (2, x0), some (0, x1), some (1, x2), none] [] S μ 0 0 := by
  obtain ⟨o1, h⟩ := h
  refine ex_aload_n hΦ dX8_placeIn_0 rfl o1.1 ?_
  refine ex_getf hΦ fl_X8_7 o1 dX8_placeIn_1 ?_
  refine ex_iload_n hΦ dX8_placeIn_4 rfl ?_
  obtain ⟨o2, h⟩ := h
  refine ex_iald' hΦ o2 dX8_placeIn_5 ?_
  obtain ⟨o3, h⟩ := h
  refine ex_i2l hΦ dX8_placeIn_6 o3 ?_
  refine ex_aload_n hΦ dX8_placeIn_7 rfl o1.1 ?_
  refine ex_getf hΦ fl_X8_51 o1 dX8_placeIn_8 ?_
  refine ex_iload_n hΦ dX8_placeIn_11 rfl ?_
  obtain ⟨o4, h⟩ := h
  refine ex_lald' hΦ o4 dX8_placeIn_12 ?_
  refine ex_aload_n hΦ dX8_placeIn_13 rfl o1.1 ?_
  refine ex_getf hΦ fl_X8_7 o1 dX8_placeIn_14 ?_
  refine ex_bipush hΦ dX8_placeIn_17 (by decide) ?_
  obtain ⟨o5, h⟩ := h
  refine ex_iald' hΦ o5 dX8_placeIn_19 ?_
  refine ex_aload_n hΦ dX8_placeIn_20 rfl o1.1 ?_
  refine ex_getf hΦ fl_X8_7 o1 dX8_placeIn_21 ?_
  refine ex_bipush hΦ dX8_placeIn_24 (by decide) ?_
  obtain ⟨o6, h⟩ := h
  refine ex_iald' hΦ o6 dX8_placeIn_26 ?_
  refine ex_isub hΦ dX8_placeIn_27 ?_
  obtain ⟨o7, h⟩ := h
  refine ex_i2l hΦ dX8_placeIn_28 o7 ?_
  refine ex_lload_n hΦ dX8_placeIn_29 rfl ?_
  refine ex_ladd hΦ dX8_placeIn_30 ?_
  refine ex_lmul hΦ dX8_placeIn_31 ?_
  refine ex_aload_n hΦ dX8_placeIn_32 rfl o1.1 ?_
  refine ex_getf hΦ fl_X8_55 o1 dX8_placeIn_33 ?_
  refine ex_iload_n hΦ dX8_placeIn_36 rfl ?_
  obtain ⟨o8, h⟩ := h
  refine ex_lald' hΦ o8 dX8_placeIn_37 ?_
  refine ex_callSj [(1, ((μ (μ x0 27) x1) * (((μ (μ x0 0) 8) - (μ (μ x0 0) 9)) + x2))), (1, (μ (μ x0 28) x1))] [(1, (μ (μ x0 28) x1)), (1, ((μ (μ x0 27) x1) * (((μ (μ x0 0) 8) - (μ (μ x0 0) 9)) + x2))), (1, (μ (μ x0 0) x1))] hΦ lkS_X8_220 ⟨by decide, by decide⟩ (Nat.le_of_ble_eq_true rfl) rfl (by decide) dX8_placeIn_38 rfl h (fun r9 μ9 h => ?_)
  refine ex_ladd hΦ dX8_placeIn_41 ?_
  refine ex_aload_n hΦ dX8_placeIn_42 rfl o1.1 ?_
  refine ex_getf hΦ fl_X8_21 o1 dX8_placeIn_43 ?_
  refine ex_iload_n hΦ dX8_placeIn_46 rfl ?_
  obtain ⟨o10, h⟩ := h
  refine ex_iald' hΦ o10 dX8_placeIn_47 ?_
  refine ex_callSi [(1, ((μ (μ x0 0) x1) + r9)), (0, (μ9 (μ9 x0 13) x1))] [(0, (μ9 (μ9 x0 13) x1)), (1, ((μ (μ x0 0) x1) + r9))] hΦ lkS_X8_223 ⟨by decide, by decide⟩ (Nat.le_of_ble_eq_true rfl) rfl (by decide) dX8_placeIn_48 rfl h (fun r11 μ11 h => ?_)
  exact ex_returni hΦ hR dX8_placeIn_51 h
theorem bX8_feastsToday_4 {G : Gm} {Φ : Fr} {S : List Sh} {μ : Mem} {Q : Int → Mem → Prop} (hΦ : St G Φ cX8_feastsToday RX8 3 2 48 0 0) (hR : Rt G Φ (Pi S Q) 0 0 (some .int)) {x0 x1 x2 : Int} (h : So S x0 (.inl 8) ∧ (R32 x2 ∧ (R32 (μ x0 4) ∧ (((μ x0 4) ≤ x2 → Q x1 μ) ∧ (¬ ((μ x0 4) ≤ x2) → Ai S (μ x0 19) 0 x2 ∧ (Ci G mX8_placeIn [(2, x0), (0, (μ (μ x0 19) x2)), (1, 0)] S μ (fun r5 μ5 => Ai S (μ5 x0 20) 0 x2 ∧ (R32 r5 ∧ (R32 (μ5 (μ5 x0 20) x2) ∧ ((r5 ≠ (μ5 (μ5 x0 20) x2) → Ci G mX8_one [(0, 0)] S μ5 (fun r9 μ9 => 0 ≤ x2 ∧ (x2 ≤ 31 ∧ Ex G Φ 3 4 [some (2, x0), some (0, (mor x1 (r9 * 2 ^ (Int.toNat x2)))), some (0, (x2 + 1))] [] S μ9 0 0))) ∧ (r5 = (μ5 (μ5 x0 20) x2) → Ci G mX8_one [(0, 1)] S μ5 (fun r12 μ12 => 0 ≤ x2 ∧ (x2 ≤ 31 ∧ Ex G Φ 3 4 [some (2, x0), some (0, (mor x1 (r12 * 2 ^ (Int.toNat x2)))), some (0, (x2 + 1))] [] S μ12 0 0))))))))))))) : Ex G Φ 3 4 [some (2, x0), some (0, x1), some (0, x2)] [] S μ 0 0 := by
  refine ex_iload_n hΦ dX8_feastsToday_4 rfl ?_
  obtain ⟨o1, h⟩ := h
  refine ex_aload_n hΦ dX8_feastsToday_5 rfl o1.1 ?_
  refine ex_getf hΦ fl_X8_183 o1 dX8_feastsToday_6 ?_
  obtain ⟨o2, h⟩ := h
  obtain ⟨o3, h⟩ := h
  refine ex_icmp_ge 51 hΦ dX8_feastsToday_9 (by decide) o2 o3 (fun c => ?_) (fun c => ?_)
  · have h := h.1 c
    refine ex_iload_n hΦ dX8_feastsToday_51 rfl ?_
    exact ex_returni hΦ hR dX8_feastsToday_52 h
  · have h := h.2 c
    refine ex_iload_n hΦ dX8_feastsToday_12 rfl ?_
    refine ex_aload_n hΦ dX8_feastsToday_13 rfl o1.1 ?_
    refine ex_aload_n hΦ dX8_feastsToday_14 rfl o1.1 ?_
    refine ex_getf hΦ fl_X8_39 o1 dX8_feastsToday_15 ?_
    refine ex_iload_n hΦ dX8_feastsToday_18 rfl ?_
    obtain ⟨o4, h⟩ := h
    refine ex_iald' hΦ o4 dX8_feastsToday_19 ?_
    refine ex_lconst (x := 0) hΦ dX8_feastsToday_20 (by decide) ?_
    refine ex_callVi [(0, (μ (μ x0 19) x2)), (1, 0)] [(1, 0), (0, (μ (μ x0 19) x2)), (2, x0), (0, x1)] hΦ lkV_X8_227 ⟨by decide, by decide⟩ (Nat.le_of_ble_eq_true rfl) rfl (by decide) 8 (by decide) rfl o1 dX8_feastsToday_21 rfl h (fun r5 μ5 h => ?_)
    refine ex_aload_n hΦ dX8_feastsToday_24 rfl o1.1 ?_
    refine ex_getf hΦ fl_X8_42 o1 dX8_feastsToday_25 ?_
    refine ex_iload_n hΦ dX8_feastsToday_28 rfl ?_
    obtain ⟨o6, h⟩ := h
    refine ex_iald' hΦ o6 dX8_feastsToday_29 ?_
    obtain ⟨o7, h⟩ := h
    obtain ⟨o8, h⟩ := h
    refine ex_icmp_ne 37 hΦ dX8_feastsToday_30 (by decide) o7 o8 (fun c => ?_) (fun c => ?_)
    · have h := h.1 c
      refine ex_iconst hΦ dX8_feastsToday_37 ?_
      refine ex_callSi [(0, 0)] [(0, 0), (0, x1)] hΦ lkS_X8_217 ⟨by decide, by decide⟩ (Nat.le_of_ble_eq_true rfl) rfl (by decide) dX8_feastsToday_38 rfl h (fun r9 μ9 h => ?_)
      refine ex_iload_n hΦ dX8_feastsToday_41 rfl ?_
      obtain ⟨o10, h⟩ := h
      obtain ⟨o11, h⟩ := h
      refine ex_ishl hΦ dX8_feastsToday_42 o10 o11 ?_
      refine ex_ior hΦ dX8_feastsToday_43 ?_
      refine ex_istore_n (L' := [some (2, x0), some (0, (mor x1 (r9 * 2 ^ (Int.toNat x2)))), some (0, x2)]) hΦ dX8_feastsToday_44 (by decide) rfl ?_
      refine ex_iinc (L' := [some (2, x0), some (0, (mor x1 (r9 * 2 ^ (Int.toNat x2)))), some (0, (x2 + 1))]) hΦ dX8_feastsToday_45 rfl (by decide) rfl ?_
      refine ex_goto 4 hΦ dX8_feastsToday_48 (by decide) ?_
      exact h
    · have h := h.2 c
      refine ex_iconst hΦ dX8_feastsToday_33 ?_
      refine ex_goto 38 hΦ dX8_feastsToday_34 (by decide) ?_
      refine ex_callSi [(0, 1)] [(0, 1), (0, x1)] hΦ lkS_X8_217 ⟨by decide, by decide⟩ (Nat.le_of_ble_eq_true rfl) rfl (by decide) dX8_feastsToday_38 rfl h (fun r12 μ12 h => ?_)
      refine ex_iload_n hΦ dX8_feastsToday_41 rfl ?_
      obtain ⟨o13, h⟩ := h
      obtain ⟨o14, h⟩ := h
      refine ex_ishl hΦ dX8_feastsToday_42 o13 o14 ?_
      refine ex_ior hΦ dX8_feastsToday_43 ?_
      refine ex_istore_n (L' := [some (2, x0), some (0, (mor x1 (r12 * 2 ^ (Int.toNat x2)))), some (0, x2)]) hΦ dX8_feastsToday_44 (by decide) rfl ?_
      refine ex_iinc (L' := [some (2, x0), some (0, (mor x1 (r12 * 2 ^ (Int.toNat x2)))), some (0, (x2 + 1))]) hΦ dX8_feastsToday_45 rfl (by decide) rfl ?_
      refine ex_goto 4 hΦ dX8_feastsToday_48 (by decide) ?_
      exact h
theorem eX8_feastsToday {G : Gm} {S : List Sh} {μ : Mem} {Q : Int → Mem → Prop} {x0 : Int} (h : ∀ Φ : Fr, St G Φ cX8_feastsToday RX8 3 2 48 0 0 → Rt G Φ (Pi S Q) 0 0 (some .int) → Ex G Φ 3 0 [some (2, x0), none, none] [] S μ 0 0) : Ci G mX8_feastsToday [(2, x0)] S μ Q :=
  call_of' (plainFor_of_name (by decide +kernel)) [some (2, x0), none, none] rfl (Nat.le_of_ble_eq_true rfl) (fun Φ hΦ hR => h Φ hΦ hR)
theorem bX8_feastsToday_0 {G : Gm} {Φ : Fr} {S : List Sh} {μ : Mem} {Q : Int → Mem → Prop} (hΦ : St G Φ cX8_feastsToday RX8 3 2 48 0 0) (hR : Rt G Φ (Pi S Q) 0 0 (some .int)) {x0 : Int} (h : Ex G Φ 3 4 [some (2, x0), some (0, 0), some (0, 0)] [] S μ 0 0) : Ex G Φ 3 0 [some (2, x0), none, none] [] S μ 0 0 := by
  refine ex_iconst hΦ dX8_feastsToday_0 ?_
  refine ex_istore_n (L' := [some (2, x0), some (0, 0), none]) hΦ dX8_feastsToday_1 (by decide) rfl ?_
  refine ex_iconst hΦ dX8_feastsToday_2 ?_
  refine ex_istore_n (L' := [some (2, x0), some (0, 0), some (0, 0)]) hΦ dX8_feastsToday_3 (by decide) rfl ?_
  exact h
theorem eX8_told {G : Gm} {S : List Sh} {μ : Mem} {Q : Int → Mem → Prop} {x0 x1 : Int} (h : ∀ Φ : Fr, St G Φ cX8_told RX8 2 6 147 0 0 → Rt G Φ (Pi S Q) 0 0 (some .int) → Ex G Φ 2 0 [some (2, x0), some (0, x1)] [] S μ 0 0) : Ci G mX8_told [(2, x0), (0, x1)] S μ Q :=
  call_of' (plainFor_of_name (by decide +kernel)) [some (2, x0), some (0, x1)] rfl (Nat.le_of_ble_eq_true rfl) (fun Φ hΦ hR => h Φ hΦ hR)
theorem bX8_told_0 {G : Gm} {Φ : Fr} {S : List Sh} {μ : Mem} {Q : Int → Mem → Prop} (hΦ : St G Φ cX8_told RX8 2 6 147 0 0) (hR : Rt G Φ (Pi S Q) 0 0 (some .int)) {x0 x1 : Int} (h : So S x0 (.inl 8) ∧ (Cv G mX8_ratesNow [(2, x0)] S μ (fun μ2 => R32 x1 ∧ (((x1 < 0 ∨ 14 < x1) → Q (-1000000002) μ2) ∧ (x1 = 0 → Q (μ2 x0 2) μ2) ∧ (x1 = 1 → Q (μ2 x0 3) μ2) ∧ (x1 = 2 → Q (μ2 x0 4) μ2) ∧ (x1 = 3 → Q (μ2 x0 22) μ2) ∧ (x1 = 4 → Ai S (μ2 x0 0) 0 8 ∧ Q (μ2 (μ2 x0 0) 8) μ2) ∧ (x1 = 5 → Ai S (μ2 x0 0) 0 9 ∧ Q (μ2 (μ2 x0 0) 9) μ2) ∧ (x1 = 6 → R32 (μ2 x0 2) ∧ (((μ2 x0 2) ≠ 0 → Q (μ2 x0 5) μ2) ∧ ((μ2 x0 2) = 0 → Q (-1) μ2))) ∧ (x1 = 7 → Q (μ2 x0 6) μ2) ∧ (x1 = 8 → Ci G mX8_one [(0, (μ2 x0 29))] S μ2 (fun r7 μ7 => Q r7 μ7)) ∧ (x1 = 9 → Ai S (μ2 x0 0) 0 10 ∧ Q (μ2 (μ2 x0 0) 10) μ2) ∧ (x1 = 10 → Ci G mX8_turning [(2, x0)] S μ2 (fun r9 μ9 => Q r9 μ9)) ∧ (x1 = 11 → Q (μ2 x0 37) μ2) ∧ (x1 = 12 → Q (μ2 x0 42) μ2) ∧ (x1 = 13 → Q (μ2 x0 31) μ2) ∧ (x1 = 14 → Ci G mX8_feastsToday [(2, x0)] S μ2 (fun r10 μ10 => Q r10 μ10)))))) : Ex G Φ 2 0 [some (2, x0), some (0, x1)] [] S μ 0 0 := by
  obtain ⟨o1, h⟩ := h
  refine ex_aload_n hΦ dX8_told_0 rfl o1.1 ?_
  refine ex_callVv [] [(2, x0)] hΦ lkV_X8_231 ⟨by decide, by decide⟩ (Nat.le_of_ble_eq_true rfl) rfl (by decide) 8 (by decide) rfl o1 dX8_told_1 rfl h (fun μ2 h => ?_)
  refine ex_iload_n hΦ dX8_told_4 rfl ?_
  obtain ⟨o3, h⟩ := h
  refine ex_table hΦ dX8_told_5 o3 178 (by decide) (fun c => ?_) (fun c1 c2 => ?_)
  · have h := h.1 c
    refine ex_ldc hΦ dX8_told_178 qw984 ?_
    exact ex_returni hΦ hR dX8_told_180 h
  · have h := h.2
    obtain ⟨k, hk, hx⟩ : ∃ k : Nat, k < 15 ∧ x1 = 0 + (k : Int) := ⟨(x1 - 0).toNat, by omega, by omega⟩
    match k, hk with
    | 0, _ =>
      refine ⟨_, 80, by rw [hx]; rfl, by decide, ?_⟩
      have h := h.1 (by rw [hx]; rfl)
      refine ex_aload_n hΦ dX8_told_80 rfl o1.1 ?_
      refine ex_getf hΦ fl_X8_177 o1 dX8_told_81 ?_
      exact ex_returni hΦ hR dX8_told_84 h
    | 1, _ =>
      refine ⟨_, 85, by rw [hx]; rfl, by decide, ?_⟩
      have h := h.2.1 (by rw [hx]; rfl)
      refine ex_aload_n hΦ dX8_told_85 rfl o1.1 ?_
      refine ex_getf hΦ fl_X8_180 o1 dX8_told_86 ?_
      exact ex_returni hΦ hR dX8_told_89 h
    | 2, _ =>
      refine ⟨_, 90, by rw [hx]; rfl, by decide, ?_⟩
      have h := h.2.2.1 (by rw [hx]; rfl)
      refine ex_aload_n hΦ dX8_told_90 rfl o1.1 ?_
      refine ex_getf hΦ fl_X8_183 o1 dX8_told_91 ?_
      exact ex_returni hΦ hR dX8_told_94 h
    | 3, _ =>
      refine ⟨_, 95, by rw [hx]; rfl, by decide, ?_⟩
      have h := h.2.2.2.1 (by rw [hx]; rfl)
      refine ex_aload_n hΦ dX8_told_95 rfl o1.1 ?_
      refine ex_getf hΦ fl_X8_96 o1 dX8_told_96 ?_
      exact ex_returni hΦ hR dX8_told_99 h
    | 4, _ =>
      refine ⟨_, 100, by rw [hx]; rfl, by decide, ?_⟩
      have h := h.2.2.2.2.1 (by rw [hx]; rfl)
      refine ex_aload_n hΦ dX8_told_100 rfl o1.1 ?_
      refine ex_getf hΦ fl_X8_7 o1 dX8_told_101 ?_
      refine ex_bipush hΦ dX8_told_104 (by decide) ?_
      obtain ⟨o4, h⟩ := h
      refine ex_iald' hΦ o4 dX8_told_106 ?_
      exact ex_returni hΦ hR dX8_told_107 h
    | 5, _ =>
      refine ⟨_, 108, by rw [hx]; rfl, by decide, ?_⟩
      have h := h.2.2.2.2.2.1 (by rw [hx]; rfl)
      refine ex_aload_n hΦ dX8_told_108 rfl o1.1 ?_
      refine ex_getf hΦ fl_X8_7 o1 dX8_told_109 ?_
      refine ex_bipush hΦ dX8_told_112 (by decide) ?_
      obtain ⟨o5, h⟩ := h
      refine ex_iald' hΦ o5 dX8_told_114 ?_
      exact ex_returni hΦ hR dX8_told_115 h
    | 6, _ =>
      refine ⟨_, 116, by rw [hx]; rfl, by decide, ?_⟩
      have h := h.2.2.2.2.2.2.1 (by rw [hx]; rfl)
      refine ex_aload_n hΦ dX8_told_116 rfl o1.1 ?_
      refine ex_getf hΦ fl_X8_177 o1 dX8_told_117 ?_
      obtain ⟨o6, h⟩ := h
      refine ex_if_ne 127 hΦ dX8_told_120 (by decide) o6 (fun c => ?_) (fun c => ?_)
      · have h := h.1 c
        refine ex_aload_n hΦ dX8_told_127 rfl o1.1 ?_
        refine ex_getf hΦ fl_X8_186 o1 dX8_told_128 ?_
        exact ex_returni hΦ hR dX8_told_131 h
      · have h := h.2 c
        refine ex_iconst hΦ dX8_told_123 ?_
        refine ex_goto 131 hΦ dX8_told_124 (by decide) ?_
        exact ex_returni hΦ hR dX8_told_131 h
    | 7, _ =>
      refine ⟨_, 132, by rw [hx]; rfl, by decide, ?_⟩
      have h := h.2.2.2.2.2.2.2.1 (by rw [hx]; rfl)
      refine ex_aload_n hΦ dX8_told_132 rfl o1.1 ?_
      refine ex_getf hΦ fl_X8_17 o1 dX8_told_133 ?_
      exact ex_returni hΦ hR dX8_told_136 h
    | 8, _ =>
      refine ⟨_, 137, by rw [hx]; rfl, by decide, ?_⟩
      have h := h.2.2.2.2.2.2.2.2.1 (by rw [hx]; rfl)
      refine ex_aload_n hΦ dX8_told_137 rfl o1.1 ?_
      refine ex_getf hΦ fl_X8_200 o1 dX8_told_138 ?_
      refine ex_callSi [(0, (μ2 x0 29))] [(0, (μ2 x0 29))] hΦ lkS_X8_217 ⟨by decide, by decide⟩ (Nat.le_of_ble_eq_true rfl) rfl (by decide) dX8_told_141 rfl h (fun r7 μ7 h => ?_)
      exact ex_returni hΦ hR dX8_told_144 h
    | 9, _ =>
      refine ⟨_, 145, by rw [hx]; rfl, by decide, ?_⟩
      have h := h.2.2.2.2.2.2.2.2.2.1 (by rw [hx]; rfl)
      refine ex_aload_n hΦ dX8_told_145 rfl o1.1 ?_
      refine ex_getf hΦ fl_X8_7 o1 dX8_told_146 ?_
      refine ex_bipush hΦ dX8_told_149 (by decide) ?_
      obtain ⟨o8, h⟩ := h
      refine ex_iald' hΦ o8 dX8_told_151 ?_
      exact ex_returni hΦ hR dX8_told_152 h
    | 10, _ =>
      refine ⟨_, 153, by rw [hx]; rfl, by decide, ?_⟩
      have h := h.2.2.2.2.2.2.2.2.2.2.1 (by rw [hx]; rfl)
      refine ex_aload_n hΦ dX8_told_153 rfl o1.1 ?_
      refine ex_callVi [] [(2, x0)] hΦ lkV_X8_234 ⟨by decide, by decide⟩ (Nat.le_of_ble_eq_true rfl) rfl (by decide) 8 (by decide) rfl o1 dX8_told_154 rfl h (fun r9 μ9 h => ?_)
      exact ex_returni hΦ hR dX8_told_157 h
    | 11, _ =>
      refine ⟨_, 158, by rw [hx]; rfl, by decide, ?_⟩
      have h := h.2.2.2.2.2.2.2.2.2.2.2.1 (by rw [hx]; rfl)
      refine ex_aload_n hΦ dX8_told_158 rfl o1.1 ?_
      refine ex_getf hΦ fl_X8_168 o1 dX8_told_159 ?_
      exact ex_returni hΦ hR dX8_told_162 h
    | 12, _ =>
      refine ⟨_, 163, by rw [hx]; rfl, by decide, ?_⟩
      have h := h.2.2.2.2.2.2.2.2.2.2.2.2.1 (by rw [hx]; rfl)
      refine ex_aload_n hΦ dX8_told_163 rfl o1.1 ?_
      refine ex_getf hΦ fl_X8_171 o1 dX8_told_164 ?_
      exact ex_returni hΦ hR dX8_told_167 h
    | 13, _ =>
      refine ⟨_, 168, by rw [hx]; rfl, by decide, ?_⟩
      have h := h.2.2.2.2.2.2.2.2.2.2.2.2.2.1 (by rw [hx]; rfl)
      refine ex_aload_n hΦ dX8_told_168 rfl o1.1 ?_
      refine ex_getf hΦ fl_X8_174 o1 dX8_told_169 ?_
      exact ex_returni hΦ hR dX8_told_172 h
    | 14, _ =>
      refine ⟨_, 173, by rw [hx]; rfl, by decide, ?_⟩
      have h := h.2.2.2.2.2.2.2.2.2.2.2.2.2.2 (by rw [hx]; rfl)
      refine ex_aload_n hΦ dX8_told_173 rfl o1.1 ?_
      refine ex_callVi [] [(2, x0)] hΦ lkV_X8_237 ⟨by decide, by decide⟩ (Nat.le_of_ble_eq_true rfl) rfl (by decide) 8 (by decide) rfl o1 dX8_told_174 rfl h (fun r10 μ10 h => ?_)
      exact ex_returni hΦ hR dX8_told_177 h
theorem eX8_wheel {G : Gm} {S : List Sh} {μ : Mem} {Q : Int → Mem → Prop} {x0 x1 x2 : Int} (h : ∀ Φ : Fr, St G Φ cX8_wheel RX8 3 6 147 0 0 → Rt G Φ (Pi S Q) 0 0 (some .int) → Ex G Φ 3 0 [some (2, x0), some (0, x1), some (0, x2)] [] S μ 0 0) : Ci G mX8_wheel [(2, x0), (0, x1), (0, x2)] S μ Q :=
  call_of' (plainFor_of_name (by decide +kernel)) [some (2, x0), some (0, x1), some (0, x2)] rfl (Nat.le_of_ble_eq_true rfl) (fun Φ hΦ hR => h Φ hΦ hR)
theorem bX8_wheel_0 {G : Gm} {Φ : Fr} {S : List Sh} {μ : Mem} {Q : Int → Mem → Prop} (hΦ : St G Φ cX8_wheel RX8 3 6 147 0 0) (hR : Rt G Φ (Pi S Q) 0 0 (some .int)) {x0 x1 x2 : Int} (h : So S x0 (.inl 8) ∧ (Ci G mX8_isWheel [(2, x0), (0, x1)] S μ (fun r2 μ2 => R32 r2 ∧ ((r2 ≠ 0 → Cv G mX8_ratesNow [(2, x0)] S μ2 (fun μ4 => R32 x2 ∧ ((x2 ≠ 0 → (x2 ≠ 1 → (x2 ≠ 2 → (x2 ≠ 3 → Q (-1000000002) μ4) ∧ (x2 = 3 → Ai S (μ4 x0 28) 1 x1 ∧ Q (μ4 (μ4 x0 28) x1) μ4)) ∧ (x2 = 2 → Ai S (μ4 x0 27) 1 x1 ∧ Q (μ4 (μ4 x0 27) x1) μ4)) ∧ (x2 = 1 → Ci G mX8_placeIn [(2, x0), (0, x1), (1, 0)] S μ4 (fun r8 μ8 => Q r8 μ8))) ∧ (x2 = 0 → Ai S (μ4 x0 13) 0 x1 ∧ Q (μ4 (μ4 x0 13) x1) μ4)))) ∧ (r2 = 0 → Q (-1000000001) μ2))))) : Ex G Φ 3 0 [some (2, x0), some (0, x1), some (0, x2)] [] S μ 0 0 := by
  obtain ⟨o1, h⟩ := h
  refine ex_aload_n hΦ dX8_wheel_0 rfl o1.1 ?_
  refine ex_iload_n hΦ dX8_wheel_1 rfl ?_
  refine ex_callVi [(0, x1)] [(0, x1), (2, x0)] hΦ lkV_X8_240 ⟨by decide, by decide⟩ (Nat.le_of_ble_eq_true rfl) rfl (by decide) 8 (by decide) rfl o1 dX8_wheel_2 rfl h (fun r2 μ2 h => ?_)
  obtain ⟨o3, h⟩ := h
  refine ex_if_ne 11 hΦ dX8_wheel_5 (by decide) o3 (fun c => ?_) (fun c => ?_)
  · have h := h.1 c
    refine ex_aload_n hΦ dX8_wheel_11 rfl o1.1 ?_
    refine ex_callVv [] [(2, x0)] hΦ lkV_X8_231 ⟨by decide, by decide⟩ (Nat.le_of_ble_eq_true rfl) rfl (by decide) 8 (by decide) rfl o1 dX8_wheel_12 rfl h (fun μ4 h => ?_)
    refine ex_iload_n hΦ dX8_wheel_15 rfl ?_
    obtain ⟨o5, h⟩ := h
    refine ex_if_ne 28 hΦ dX8_wheel_16 (by decide) o5 (fun c => ?_) (fun c => ?_)
    · have h := h.1 c
      refine ex_iload_n hΦ dX8_wheel_28 rfl ?_
      refine ex_iconst hΦ dX8_wheel_29 ?_
      refine ex_icmp_ne 42 hΦ dX8_wheel_30 (by decide) o5 ⟨by decide, by decide⟩ (fun c => ?_) (fun c => ?_)
      · have h := h.1 c
        refine ex_iload_n hΦ dX8_wheel_42 rfl ?_
        refine ex_iconst hΦ dX8_wheel_43 ?_
        refine ex_icmp_ne 57 hΦ dX8_wheel_44 (by decide) o5 ⟨by decide, by decide⟩ (fun c => ?_) (fun c => ?_)
        · have h := h.1 c
          refine ex_iload_n hΦ dX8_wheel_57 rfl ?_
          refine ex_iconst hΦ dX8_wheel_58 ?_
          refine ex_icmp_ne 72 hΦ dX8_wheel_59 (by decide) o5 ⟨by decide, by decide⟩ (fun c => ?_) (fun c => ?_)
          · have h := h.1 c
            refine ex_ldc hΦ dX8_wheel_72 qw984 ?_
            exact ex_returni hΦ hR dX8_wheel_74 h
          · have h := h.2 c
            refine ex_aload_n hΦ dX8_wheel_62 rfl o1.1 ?_
            refine ex_getf hΦ fl_X8_55 o1 dX8_wheel_63 ?_
            refine ex_iload_n hΦ dX8_wheel_66 rfl ?_
            obtain ⟨o6, h⟩ := h
            refine ex_lald' hΦ o6 dX8_wheel_67 ?_
            refine ex_l2i hΦ dX8_wheel_68 ?_
            refine ex_goto 74 hΦ dX8_wheel_69 (by decide) ?_
            exact ex_returni hΦ hR dX8_wheel_74 h
        · have h := h.2 c
          refine ex_aload_n hΦ dX8_wheel_47 rfl o1.1 ?_
          refine ex_getf hΦ fl_X8_51 o1 dX8_wheel_48 ?_
          refine ex_iload_n hΦ dX8_wheel_51 rfl ?_
          obtain ⟨o7, h⟩ := h
          refine ex_lald' hΦ o7 dX8_wheel_52 ?_
          refine ex_l2i hΦ dX8_wheel_53 ?_
          refine ex_goto 74 hΦ dX8_wheel_54 (by decide) ?_
          exact ex_returni hΦ hR dX8_wheel_74 h
      · have h := h.2 c
        refine ex_aload_n hΦ dX8_wheel_33 rfl o1.1 ?_
        refine ex_iload_n hΦ dX8_wheel_34 rfl ?_
        refine ex_lconst (x := 0) hΦ dX8_wheel_35 (by decide) ?_
        refine ex_callVi [(0, x1), (1, 0)] [(1, 0), (0, x1), (2, x0)] hΦ lkV_X8_227 ⟨by decide, by decide⟩ (Nat.le_of_ble_eq_true rfl) rfl (by decide) 8 (by decide) rfl o1 dX8_wheel_36 rfl h (fun r8 μ8 h => ?_)
        refine ex_goto 74 hΦ dX8_wheel_39 (by decide) ?_
        exact ex_returni hΦ hR dX8_wheel_74 h
    · have h := h.2 c
      refine ex_aload_n hΦ dX8_wheel_19 rfl o1.1 ?_
      refine ex_getf hΦ fl_X8_21 o1 dX8_wheel_20 ?_
      refine ex_iload_n hΦ dX8_wheel_23 rfl ?_
      obtain ⟨o9, h⟩ := h
      refine ex_iald' hΦ o9 dX8_wheel_24 ?_
      refine ex_goto 74 hΦ dX8_wheel_25 (by decide) ?_
      exact ex_returni hΦ hR dX8_wheel_74 h
  · have h := h.2 c
    refine ex_ldc hΦ dX8_wheel_8 qw1098 ?_
    exact ex_returni hΦ hR dX8_wheel_10 h
theorem eX8_link {G : Gm} {S : List Sh} {μ : Mem} {Q : Int → Mem → Prop} {x0 x1 x2 : Int} (h : ∀ Φ : Fr, St G Φ cX8_link RX8 3 2 46 0 0 → Rt G Φ (Pi S Q) 0 0 (some .int) → Ex G Φ 3 0 [some (2, x0), some (0, x1), some (0, x2)] [] S μ 0 0) : Ci G mX8_link [(2, x0), (0, x1), (0, x2)] S μ Q :=
  call_of' (plainFor_of_name (by decide +kernel)) [some (2, x0), some (0, x1), some (0, x2)] rfl (Nat.le_of_ble_eq_true rfl) (fun Φ hΦ hR => h Φ hΦ hR)
theorem bX8_link_0 {G : Gm} {Φ : Fr} {S : List Sh} {μ : Mem} {Q : Int → Mem → Prop} (hΦ : St G Φ cX8_link RX8 3 2 46 0 0) (hR : Rt G Φ (Pi S Q) 0 0 (some .int)) {x0 x1 x2 : Int} (h : So S x0 (.inl 8) ∧ (Ci G mX8_isLink [(2, x0), (0, x1)] S μ (fun r2 μ2 => R32 r2 ∧ ((r2 ≠ 0 → R32 x2 ∧ (((x2 < 0 ∨ 4 < x2) → Q (-1000000002) μ2) ∧ (x2 = 0 → Ai S (μ2 x0 15) 0 x1 ∧ Q (μ2 (μ2 x0 15) x1) μ2) ∧ (x2 = 1 → Ai S (μ2 x0 16) 0 x1 ∧ Q (μ2 (μ2 x0 16) x1) μ2) ∧ (x2 = 2 → Ai S (μ2 x0 17) 0 x1 ∧ Q (μ2 (μ2 x0 17) x1) μ2) ∧ (x2 = 3 → Ai S (μ2 x0 18) 0 x1 ∧ Q (μ2 (μ2 x0 18) x1) μ2) ∧ (x2 = 4 → Ai S (μ2 x0 0) 0 10 ∧ (Ci G mX8_has [(0, (μ2 (μ2 x0 0) 10)), (0, x1)] S μ2 (fun r10 μ10 => R32 r10 ∧ ((r10 ≠ 0 → Ci G mX8_one [(0, 0)] S μ10 (fun r12 μ12 => Q r12 μ12)) ∧ (r10 = 0 → Ci G mX8_one [(0, 1)] S μ10 (fun r13 μ13 => Q r13 μ13)))))))) ∧ (r2 = 0 → Q (-1000000001) μ2))))) : Ex G Φ 3 0 [some (2, x0), some (0, x1), some (0, x2)] [] S μ 0 0 := by
  obtain ⟨o1, h⟩ := h
  refine ex_aload_n hΦ dX8_link_0 rfl o1.1 ?_
  refine ex_iload_n hΦ dX8_link_1 rfl ?_
  refine ex_callVi [(0, x1)] [(0, x1), (2, x0)] hΦ lkV_X8_245 ⟨by decide, by decide⟩ (Nat.le_of_ble_eq_true rfl) rfl (by decide) 8 (by decide) rfl o1 dX8_link_2 rfl h (fun r2 μ2 h => ?_)
  obtain ⟨o3, h⟩ := h
  refine ex_if_ne 11 hΦ dX8_link_5 (by decide) o3 (fun c => ?_) (fun c => ?_)
  · have h := h.1 c
    refine ex_iload_n hΦ dX8_link_11 rfl ?_
    obtain ⟨o4, h⟩ := h
    refine ex_table hΦ dX8_link_12 o4 99 (by decide) (fun c => ?_) (fun c1 c2 => ?_)
    · have h := h.1 c
      refine ex_ldc hΦ dX8_link_99 qw984 ?_
      exact ex_returni hΦ hR dX8_link_101 h
    · have h := h.2
      obtain ⟨k, hk, hx⟩ : ∃ k : Nat, k < 5 ∧ x2 = 0 + (k : Int) := ⟨(x2 - 0).toNat, by omega, by omega⟩
      match k, hk with
      | 0, _ =>
        refine ⟨_, 48, by rw [hx]; rfl, by decide, ?_⟩
        have h := h.1 (by rw [hx]; rfl)
        refine ex_aload_n hΦ dX8_link_48 rfl o1.1 ?_
        refine ex_getf hΦ fl_X8_27 o1 dX8_link_49 ?_
        refine ex_iload_n hΦ dX8_link_52 rfl ?_
        obtain ⟨o5, h⟩ := h
        refine ex_iald' hΦ o5 dX8_link_53 ?_
        exact ex_returni hΦ hR dX8_link_54 h
      | 1, _ =>
        refine ⟨_, 55, by rw [hx]; rfl, by decide, ?_⟩
        have h := h.2.1 (by rw [hx]; rfl)
        refine ex_aload_n hΦ dX8_link_55 rfl o1.1 ?_
        refine ex_getf hΦ fl_X8_30 o1 dX8_link_56 ?_
        refine ex_iload_n hΦ dX8_link_59 rfl ?_
        obtain ⟨o6, h⟩ := h
        refine ex_iald' hΦ o6 dX8_link_60 ?_
        exact ex_returni hΦ hR dX8_link_61 h
      | 2, _ =>
        refine ⟨_, 62, by rw [hx]; rfl, by decide, ?_⟩
        have h := h.2.2.1 (by rw [hx]; rfl)
        refine ex_aload_n hΦ dX8_link_62 rfl o1.1 ?_
        refine ex_getf hΦ fl_X8_33 o1 dX8_link_63 ?_
        refine ex_iload_n hΦ dX8_link_66 rfl ?_
        obtain ⟨o7, h⟩ := h
        refine ex_iald' hΦ o7 dX8_link_67 ?_
        exact ex_returni hΦ hR dX8_link_68 h
      | 3, _ =>
        refine ⟨_, 69, by rw [hx]; rfl, by decide, ?_⟩
        have h := h.2.2.2.1 (by rw [hx]; rfl)
        refine ex_aload_n hΦ dX8_link_69 rfl o1.1 ?_
        refine ex_getf hΦ fl_X8_36 o1 dX8_link_70 ?_
        refine ex_iload_n hΦ dX8_link_73 rfl ?_
        obtain ⟨o8, h⟩ := h
        refine ex_iald' hΦ o8 dX8_link_74 ?_
        exact ex_returni hΦ hR dX8_link_75 h
      | 4, _ =>
        refine ⟨_, 76, by rw [hx]; rfl, by decide, ?_⟩
        have h := h.2.2.2.2 (by rw [hx]; rfl)
        refine ex_aload_n hΦ dX8_link_76 rfl o1.1 ?_
        refine ex_getf hΦ fl_X8_7 o1 dX8_link_77 ?_
        refine ex_bipush hΦ dX8_link_80 (by decide) ?_
        obtain ⟨o9, h⟩ := h
        refine ex_iald' hΦ o9 dX8_link_82 ?_
        refine ex_iload_n hΦ dX8_link_83 rfl ?_
        refine ex_callSi [(0, (μ2 (μ2 x0 0) 10)), (0, x1)] [(0, x1), (0, (μ2 (μ2 x0 0) 10))] hΦ lkS_X8_192 ⟨by decide, by decide⟩ (Nat.le_of_ble_eq_true rfl) rfl (by decide) dX8_link_84 rfl h (fun r10 μ10 h => ?_)
        obtain ⟨o11, h⟩ := h
        refine ex_if_ne 94 hΦ dX8_link_87 (by decide) o11 (fun c => ?_) (fun c => ?_)
        · have h := h.1 c
          refine ex_iconst hΦ dX8_link_94 ?_
          refine ex_callSi [(0, 0)] [(0, 0)] hΦ lkS_X8_217 ⟨by decide, by decide⟩ (Nat.le_of_ble_eq_true rfl) rfl (by decide) dX8_link_95 rfl h (fun r12 μ12 h => ?_)
          exact ex_returni hΦ hR dX8_link_98 h
        · have h := h.2 c
          refine ex_iconst hΦ dX8_link_90 ?_
          refine ex_goto 95 hΦ dX8_link_91 (by decide) ?_
          refine ex_callSi [(0, 1)] [(0, 1)] hΦ lkS_X8_217 ⟨by decide, by decide⟩ (Nat.le_of_ble_eq_true rfl) rfl (by decide) dX8_link_95 rfl h (fun r13 μ13 h => ?_)
          exact ex_returni hΦ hR dX8_link_98 h
  · have h := h.2 c
    refine ex_ldc hΦ dX8_link_8 qw1098 ?_
    exact ex_returni hΦ hR dX8_link_10 h
theorem eX8_feast {G : Gm} {S : List Sh} {μ : Mem} {Q : Int → Mem → Prop} {x0 x1 x2 : Int} (h : ∀ Φ : Fr, St G Φ cX8_feast RX8 3 2 46 0 0 → Rt G Φ (Pi S Q) 0 0 (some .int) → Ex G Φ 3 0 [some (2, x0), some (0, x1), some (0, x2)] [] S μ 0 0) : Ci G mX8_feast [(2, x0), (0, x1), (0, x2)] S μ Q :=
  call_of' (plainFor_of_name (by decide +kernel)) [some (2, x0), some (0, x1), some (0, x2)] rfl (Nat.le_of_ble_eq_true rfl) (fun Φ hΦ hR => h Φ hΦ hR)
theorem bX8_feast_0 {G : Gm} {Φ : Fr} {S : List Sh} {μ : Mem} {Q : Int → Mem → Prop} (hΦ : St G Φ cX8_feast RX8 3 2 46 0 0) (hR : Rt G Φ (Pi S Q) 0 0 (some .int)) {x0 x1 x2 : Int} (h : So S x0 (.inl 8) ∧ (Ci G mX8_isFeast [(2, x0), (0, x1)] S μ (fun r2 μ2 => R32 r2 ∧ ((r2 ≠ 0 → R32 x2 ∧ ((x2 ≠ 0 → (x2 ≠ 1 → Q (-1000000002) μ2) ∧ (x2 = 1 → Ai S (μ2 x0 20) 0 x1 ∧ Q (μ2 (μ2 x0 20) x1) μ2)) ∧ (x2 = 0 → Ai S (μ2 x0 19) 0 x1 ∧ Q (μ2 (μ2 x0 19) x1) μ2))) ∧ (r2 = 0 → Q (-1000000001) μ2))))) : Ex G Φ 3 0 [some (2, x0), some (0, x1), some (0, x2)] [] S μ 0 0 := by
  obtain ⟨o1, h⟩ := h
  refine ex_aload_n hΦ dX8_feast_0 rfl o1.1 ?_
  refine ex_iload_n hΦ dX8_feast_1 rfl ?_
  refine ex_callVi [(0, x1)] [(0, x1), (2, x0)] hΦ lkV_X8_248 ⟨by decide, by decide⟩ (Nat.le_of_ble_eq_true rfl) rfl (by decide) 8 (by decide) rfl o1 dX8_feast_2 rfl h (fun r2 μ2 h => ?_)
  obtain ⟨o3, h⟩ := h
  refine ex_if_ne 13 hΦ dX8_feast_5 (by decide) o3 (fun c => ?_) (fun c => ?_)
  · have h := h.1 c
    refine ex_iload_n hΦ dX8_feast_13 rfl ?_
    obtain ⟨o4, h⟩ := h
    refine ex_if_ne 26 hΦ dX8_feast_14 (by decide) o4 (fun c => ?_) (fun c => ?_)
    · have h := h.1 c
      refine ex_iload_n hΦ dX8_feast_26 rfl ?_
      refine ex_iconst hΦ dX8_feast_27 ?_
      refine ex_icmp_ne 40 hΦ dX8_feast_28 (by decide) o4 ⟨by decide, by decide⟩ (fun c => ?_) (fun c => ?_)
      · have h := h.1 c
        refine ex_ldc hΦ dX8_feast_40 qw984 ?_
        exact ex_returni hΦ hR dX8_feast_42 h
      · have h := h.2 c
        refine ex_aload_n hΦ dX8_feast_31 rfl o1.1 ?_
        refine ex_getf hΦ fl_X8_42 o1 dX8_feast_32 ?_
        refine ex_iload_n hΦ dX8_feast_35 rfl ?_
        obtain ⟨o5, h⟩ := h
        refine ex_iald' hΦ o5 dX8_feast_36 ?_
        refine ex_goto 42 hΦ dX8_feast_37 (by decide) ?_
        exact ex_returni hΦ hR dX8_feast_42 h
    · have h := h.2 c
      refine ex_aload_n hΦ dX8_feast_17 rfl o1.1 ?_
      refine ex_getf hΦ fl_X8_39 o1 dX8_feast_18 ?_
      refine ex_iload_n hΦ dX8_feast_21 rfl ?_
      obtain ⟨o6, h⟩ := h
      refine ex_iald' hΦ o6 dX8_feast_22 ?_
      refine ex_goto 42 hΦ dX8_feast_23 (by decide) ?_
      exact ex_returni hΦ hR dX8_feast_42 h
  · have h := h.2 c
    refine ex_ldc hΦ dX8_feast_8 qw1098 ?_
    refine ex_goto 42 hΦ dX8_feast_10 (by decide) ?_
    exact ex_returni hΦ hR dX8_feast_42 h
theorem eX8_stands {G : Gm} {S : List Sh} {μ : Mem} {Q : Int → Mem → Prop} {x0 x1 x2 : Int} (h : ∀ Φ : Fr, St G Φ cX8_stands RX8 3 6 147 0 0 → Rt G Φ (Pi S Q) 0 0 (some .int) → Ex G Φ 3 0 [some (2, x0), some (0, x1), some (0, x2)] [] S μ 0 0) : Ci G mX8_stands [(2, x0), (0, x1), (0, x2)] S μ Q :=
  call_of' (plainFor_of_name (by decide +kernel)) [some (2, x0), some (0, x1), some (0, x2)] rfl (Nat.le_of_ble_eq_true rfl) (fun Φ hΦ hR => h Φ hΦ hR)
theorem bX8_stands_0 {G : Gm} {Φ : Fr} {S : List Sh} {μ : Mem} {Q : Int → Mem → Prop} (hΦ : St G Φ cX8_stands RX8 3 6 147 0 0) (hR : Rt G Φ (Pi S Q) 0 0 (some .int)) {x0 x1 x2 : Int} (h : So S x0 (.inl 8) ∧ (Ci G mX8_isWheel [(2, x0), (0, x1)] S μ (fun r2 μ2 => R32 r2 ∧ ((r2 ≠ 0 → R32 x2 ∧ (Ci G mX8_in [(1, x2), (1, 0), (1, 99999)] S μ2 (fun r5 μ5 => R32 r5 ∧ ((r5 ≠ 0 → Cv G mX8_ratesNow [(2, x0)] S μ5 (fun μ7 => Ci G mX8_placeIn [(2, x0), (0, x1), (1, x2)] S μ7 (fun r8 μ8 => Q r8 μ8))) ∧ (r5 = 0 → Q (-1000000002) μ5))))) ∧ (r2 = 0 → Q (-1000000001) μ2))))) : Ex G Φ 3 0 [some (2, x0), some (0, x1), some (0, x2)] [] S μ 0 0 := by
  obtain ⟨o1, h⟩ := h
  refine ex_aload_n hΦ dX8_stands_0 rfl o1.1 ?_
  refine ex_iload_n hΦ dX8_stands_1 rfl ?_
  refine ex_callVi [(0, x1)] [(0, x1), (2, x0)] hΦ lkV_X8_240 ⟨by decide, by decide⟩ (Nat.le_of_ble_eq_true rfl) rfl (by decide) 8 (by decide) rfl o1 dX8_stands_2 rfl h (fun r2 μ2 h => ?_)
  obtain ⟨o3, h⟩ := h
  refine ex_if_ne 11 hΦ dX8_stands_5 (by decide) o3 (fun c => ?_) (fun c => ?_)
  · have h := h.1 c
    refine ex_iload_n hΦ dX8_stands_11 rfl ?_
    obtain ⟨o4, h⟩ := h
    refine ex_i2l hΦ dX8_stands_12 o4 ?_
    refine ex_lconst (x := 0) hΦ dX8_stands_13 (by decide) ?_
    refine ex_ldc2 hΦ dX8_stands_14 qw1119 ?_
    refine ex_callSi [(1, x2), (1, 0), (1, 99999)] [(1, 99999), (1, 0), (1, x2)] hΦ lkS_X8_91 ⟨by decide, by decide⟩ (Nat.le_of_ble_eq_true rfl) rfl (by decide) dX8_stands_17 rfl h (fun r5 μ5 h => ?_)
    obtain ⟨o6, h⟩ := h
    refine ex_if_ne 26 hΦ dX8_stands_20 (by decide) o6 (fun c => ?_) (fun c => ?_)
    · have h := h.1 c
      refine ex_aload_n hΦ dX8_stands_26 rfl o1.1 ?_
      refine ex_callVv [] [(2, x0)] hΦ lkV_X8_231 ⟨by decide, by decide⟩ (Nat.le_of_ble_eq_true rfl) rfl (by decide) 8 (by decide) rfl o1 dX8_stands_27 rfl h (fun μ7 h => ?_)
      refine ex_aload_n hΦ dX8_stands_30 rfl o1.1 ?_
      refine ex_iload_n hΦ dX8_stands_31 rfl ?_
      refine ex_iload_n hΦ dX8_stands_32 rfl ?_
      refine ex_i2l hΦ dX8_stands_33 o4 ?_
      refine ex_callVi [(0, x1), (1, x2)] [(1, x2), (0, x1), (2, x0)] hΦ lkV_X8_227 ⟨by decide, by decide⟩ (Nat.le_of_ble_eq_true rfl) rfl (by decide) 8 (by decide) rfl o1 dX8_stands_34 rfl h (fun r8 μ8 h => ?_)
      exact ex_returni hΦ hR dX8_stands_37 h
    · have h := h.2 c
      refine ex_ldc hΦ dX8_stands_23 qw984 ?_
      exact ex_returni hΦ hR dX8_stands_25 h
  · have h := h.2 c
    refine ex_ldc hΦ dX8_stands_8 qw1098 ?_
    exact ex_returni hΦ hR dX8_stands_10 h
theorem bX8_copy_2 {G : Gm} {Φ : Fr} {S : List Sh} {μ : Mem} {Q : Mem → Prop} (hΦ : St G Φ cX8_copy RX8 4 0 0 0 0) (hR : Rt G Φ (Pv S Q) 0 0 none) {x0 x1 x2 x3 : Int} (h : R32 x3 ∧ ((12 ≤ x3 → Q μ) ∧ (¬ (12 ≤ x3) → So S x0 (.inl 8) ∧ (Ai S (μ x0 0) 0 (x1 + x3) ∧ (Ai S (μ x0 0) 0 (x2 + x3) ∧ (∀ m5 : Mem, m5 = mu μ (μ x0 0) (x2 + x3) (μ (μ x0 0) (x1 + x3)) → (Ex G Φ 4 2 [some (2, x0), some (0, x1), some (0, x2), some (0, (x3 + 1))] [] S m5 0 0))))))) : Ex G Φ 4 2 [some (2, x0), some (0, x1), some (0, x2), some (0, x3)] [] S μ 0 0 := by
  refine ex_iload_n hΦ dX8_copy_2 rfl ?_
  refine ex_bipush hΦ dX8_copy_3 (by decide) ?_
  obtain ⟨o1, h⟩ := h
  refine ex_icmp_ge 30 hΦ dX8_copy_5 (by decide) o1 ⟨by decide, by decide⟩ (fun c => ?_) (fun c => ?_)
  · have h := h.1 c
    exact ex_returnv hΦ hR dX8_copy_30 h
  · have h := h.2 c
    obtain ⟨o2, h⟩ := h
    refine ex_aload_n hΦ dX8_copy_8 rfl o2.1 ?_
    refine ex_getf hΦ fl_X8_7 o2 dX8_copy_9 ?_
    refine ex_iload_n hΦ dX8_copy_12 rfl ?_
    refine ex_iload_n hΦ dX8_copy_13 rfl ?_
    refine ex_iadd hΦ dX8_copy_14 ?_
    refine ex_aload_n hΦ dX8_copy_15 rfl o2.1 ?_
    refine ex_getf hΦ fl_X8_7 o2 dX8_copy_16 ?_
    refine ex_iload_n hΦ dX8_copy_19 rfl ?_
    refine ex_iload_n hΦ dX8_copy_20 rfl ?_
    refine ex_iadd hΦ dX8_copy_21 ?_
    obtain ⟨o3, h⟩ := h
    refine ex_iald' hΦ o3 dX8_copy_22 ?_
    obtain ⟨o4, h⟩ := h
    obtain ⟨m5, hm5⟩ : ∃ m : Mem, m = mu μ (μ x0 0) (x2 + x3) (μ (μ x0 0) (x1 + x3)) := ⟨_, rfl⟩
    have h := h m5 hm5
    refine ex_iast'' hΦ o4 dX8_copy_23 hm5 ?_
    refine ex_iinc (L' := [some (2, x0), some (0, x1), some (0, x2), some (0, (x3 + 1))]) hΦ dX8_copy_24 rfl (by decide) rfl ?_
    refine ex_goto 2 hΦ dX8_copy_27 (by decide) ?_
    exact h
theorem eX8_copy {G : Gm} {S : List Sh} {μ : Mem} {Q : Mem → Prop} {x0 x1 x2 : Int} (h : ∀ Φ : Fr, St G Φ cX8_copy RX8 4 0 0 0 0 → Rt G Φ (Pv S Q) 0 0 none → Ex G Φ 4 0 [some (2, x0), some (0, x1), some (0, x2), none] [] S μ 0 0) : Cv G mX8_copy [(2, x0), (0, x1), (0, x2)] S μ Q :=
  call_of' (plainFor_of_name (by decide +kernel)) [some (2, x0), some (0, x1), some (0, x2), none] rfl (Nat.le_of_ble_eq_true rfl) (fun Φ hΦ hR => h Φ hΦ hR)
theorem bX8_copy_0 {G : Gm} {Φ : Fr} {S : List Sh} {μ : Mem} {Q : Mem → Prop} (hΦ : St G Φ cX8_copy RX8 4 0 0 0 0) (hR : Rt G Φ (Pv S Q) 0 0 none) {x0 x1 x2 : Int} (h : Ex G Φ 4 2 [some (2, x0), some (0, x1), some (0, x2), some (0, 0)] [] S μ 0 0) : Ex G Φ 4 0 [some (2, x0), some (0, x1), some (0, x2), none] [] S μ 0 0 := by
  refine ex_iconst hΦ dX8_copy_0 ?_
  refine ex_istore_n (L' := [some (2, x0), some (0, x1), some (0, x2), some (0, 0)]) hΦ dX8_copy_1 (by decide) rfl ?_
  exact h
theorem bX8_remember_11 {G : Gm} {Φ : Fr} {S : List Sh} {μ : Mem} {Q : Mem → Prop} (hΦ : St G Φ cX8_remember RX8 2 1 23 0 0) (hR : Rt G Φ (Pv S Q) 0 0 none) {x0 x1 : Int} (h : R32 x1 ∧ ((30 ≤ x1 → So S x0 (.inl 8) ∧ (∀ m3 : Mem, m3 = mu μ x0 31 ((μ x0 31) - 1) → (Ex G Φ 2 53 [some (2, x0), none] [] S m3 0 0))) ∧ (¬ (30 ≤ x1) → So S x0 (.inl 8) ∧ Cv G mX8_copy [(2, x0), (0, (36 + (12 * x1))), (0, (36 + (12 * (x1 - 1))))] S μ (fun μ5 => Ex G Φ 2 11 [some (2, x0), some (0, (x1 + 1))] [] S μ5 0 0)))) : Ex G Φ 2 11 [some (2, x0), some (0, x1)] [] S μ 0 0 := by
  refine ex_iload_n hΦ dX8_remember_11 rfl ?_
  refine ex_bipush hΦ dX8_remember_12 (by decide) ?_
  obtain ⟨o1, h⟩ := h
  refine ex_icmp_ge 43 hΦ dX8_remember_14 (by decide) o1 ⟨by decide, by decide⟩ (fun c => ?_) (fun c => ?_)
  · have h := h.1 c
    obtain ⟨o2, h⟩ := h
    refine ex_aload_n hΦ dX8_remember_43 rfl o2.1 ?_
    refine ex_dup hΦ dX8_remember_44 (Nat.ne_of_beq_eq_false rfl) ?_
    refine ex_getf hΦ fl_X8_174 o2 dX8_remember_45 ?_
    refine ex_iconst hΦ dX8_remember_48 ?_
    refine ex_isub hΦ dX8_remember_49 ?_
    obtain ⟨m3, hm3⟩ : ∃ m : Mem, m = mu μ x0 31 ((μ x0 31) - 1) := ⟨_, rfl⟩
    have h := h m3 hm3
    refine ex_putf' hΦ fl_X8_174 o2 rfl rfl dX8_remember_50 hm3 ?_
    refine ex_forget (L' := [some (2, x0), none]) [1] rfl ?_
    exact h
  · have h := h.2 c
    obtain ⟨o4, h⟩ := h
    refine ex_aload_n hΦ dX8_remember_17 rfl o4.1 ?_
    refine ex_bipush hΦ dX8_remember_18 (by decide) ?_
    refine ex_bipush hΦ dX8_remember_20 (by decide) ?_
    refine ex_iload_n hΦ dX8_remember_22 rfl ?_
    refine ex_imul hΦ dX8_remember_23 ?_
    refine ex_iadd hΦ dX8_remember_24 ?_
    refine ex_bipush hΦ dX8_remember_25 (by decide) ?_
    refine ex_bipush hΦ dX8_remember_27 (by decide) ?_
    refine ex_iload_n hΦ dX8_remember_29 rfl ?_
    refine ex_iconst hΦ dX8_remember_30 ?_
    refine ex_isub hΦ dX8_remember_31 ?_
    refine ex_imul hΦ dX8_remember_32 ?_
    refine ex_iadd hΦ dX8_remember_33 ?_
    refine ex_callVv [(0, (36 + (12 * x1))), (0, (36 + (12 * (x1 - 1))))] [(0, (36 + (12 * (x1 - 1)))), (0, (36 + (12 * x1))), (2, x0)] hΦ lkV_X8_253 ⟨by decide, by decide⟩ (Nat.le_of_ble_eq_true rfl) rfl (by decide) 8 (by decide) rfl o4 dX8_remember_34 rfl h (fun μ5 h => ?_)
    refine ex_iinc (L' := [some (2, x0), some (0, (x1 + 1))]) hΦ dX8_remember_37 rfl (by decide) rfl ?_
    refine ex_goto 11 hΦ dX8_remember_40 (by decide) ?_
    exact h
theorem bX8_remember_53 {G : Gm} {Φ : Fr} {S : List Sh} {μ : Mem} {Q : Mem → Prop} (hΦ : St G Φ cX8_remember RX8 2 1 23 0 0) (hR : Rt G Φ (Pv S Q) 0 0 none) {x0 : Int} (h : So S x0 (.inl 8) ∧ (Cv G mX8_copy [(2, x0), (0, 0), (0, (36 + (12 * (μ x0 31))))] S μ (fun μ2 => ∀ m3 : Mem, m3 = mu μ2 x0 31 ((μ2 x0 31) + 1) → (Q m3)))) : Ex G Φ 2 53 [some (2, x0), none] [] S μ 0 0 := by
  obtain ⟨o1, h⟩ := h
  refine ex_aload_n hΦ dX8_remember_53 rfl o1.1 ?_
  refine ex_iconst hΦ dX8_remember_54 ?_
  refine ex_bipush hΦ dX8_remember_55 (by decide) ?_
  refine ex_bipush hΦ dX8_remember_57 (by decide) ?_
  refine ex_aload_n hΦ dX8_remember_59 rfl o1.1 ?_
  refine ex_getf hΦ fl_X8_174 o1 dX8_remember_60 ?_
  refine ex_imul hΦ dX8_remember_63 ?_
  refine ex_iadd hΦ dX8_remember_64 ?_
  refine ex_callVv [(0, 0), (0, (36 + (12 * (μ x0 31))))] [(0, (36 + (12 * (μ x0 31)))), (0, 0), (2, x0)] hΦ lkV_X8_253 ⟨by decide, by decide⟩ (Nat.le_of_ble_eq_true rfl) rfl (by decide) 8 (by decide) rfl o1 dX8_remember_65 rfl h (fun μ2 h => ?_)
  refine ex_aload_n hΦ dX8_remember_68 rfl o1.1 ?_
  refine ex_dup hΦ dX8_remember_69 (Nat.ne_of_beq_eq_false rfl) ?_
  refine ex_getf hΦ fl_X8_174 o1 dX8_remember_70 ?_
  refine ex_iconst hΦ dX8_remember_73 ?_
  refine ex_iadd hΦ dX8_remember_74 ?_
  obtain ⟨m3, hm3⟩ : ∃ m : Mem, m = mu μ2 x0 31 ((μ2 x0 31) + 1) := ⟨_, rfl⟩
  have h := h m3 hm3
  refine ex_putf' hΦ fl_X8_174 o1 rfl rfl dX8_remember_75 hm3 ?_
  exact ex_returnv hΦ hR dX8_remember_78 h
theorem eX8_remember {G : Gm} {S : List Sh} {μ : Mem} {Q : Mem → Prop} {x0 : Int} (h : ∀ Φ : Fr, St G Φ cX8_remember RX8 2 1 23 0 0 → Rt G Φ (Pv S Q) 0 0 none → Ex G Φ 2 0 [some (2, x0), none] [] S μ 0 0) : Cv G mX8_remember [(2, x0)] S μ Q :=
  call_of' (plainFor_of_name (by decide +kernel)) [some (2, x0), none] rfl (Nat.le_of_ble_eq_true rfl) (fun Φ hΦ hR => h Φ hΦ hR)
theorem bX8_remember_0 {G : Gm} {Φ : Fr} {S : List Sh} {μ : Mem} {Q : Mem → Prop} (hΦ : St G Φ cX8_remember RX8 2 1 23 0 0) (hR : Rt G Φ (Pv S Q) 0 0 none) {x0 : Int} (h : So S x0 (.inl 8) ∧ (R32 (μ x0 31) ∧ (((μ x0 31) ≠ 30 → Ex G Φ 2 53 [some (2, x0), none] [] S μ 0 0) ∧ ((μ x0 31) = 30 → Ex G Φ 2 11 [some (2, x0), some (0, 1)] [] S μ 0 0)))) : Ex G Φ 2 0 [some (2, x0), none] [] S μ 0 0 := by
  obtain ⟨o1, h⟩ := h
  refine ex_aload_n hΦ dX8_remember_0 rfl o1.1 ?_
  refine ex_getf hΦ fl_X8_174 o1 dX8_remember_1 ?_
  refine ex_bipush hΦ dX8_remember_4 (by decide) ?_
  obtain ⟨o2, h⟩ := h
  refine ex_icmp_ne 53 hΦ dX8_remember_6 (by decide) o2 ⟨by decide, by decide⟩ (fun c => ?_) (fun c => ?_)
  · have h := h.1 c
    exact h
  · have h := h.2 c
    refine ex_iconst hΦ dX8_remember_9 ?_
    refine ex_istore_n (L' := [some (2, x0), some (0, 1)]) hΦ dX8_remember_10 (by decide) rfl ?_
    exact h
theorem eX8_days {G : Gm} {S : List Sh} {μ : Mem} {Q : Int → Mem → Prop} {x0 x1 : Int} (h : ∀ Φ : Fr, St G Φ cX8_days RX8 2 6 147 0 0 → Rt G Φ (Pi S Q) 0 0 (some .int) → Ex G Φ 2 0 [some (2, x0), some (0, x1)] [] S μ 0 0) : Ci G mX8_days [(2, x0), (0, x1)] S μ Q :=
  call_of' (plainFor_of_name (by decide +kernel)) [some (2, x0), some (0, x1)] rfl (Nat.le_of_ble_eq_true rfl) (fun Φ hΦ hR => h Φ hΦ hR)
theorem bX8_days_0 {G : Gm} {Φ : Fr} {S : List Sh} {μ : Mem} {Q : Int → Mem → Prop} (hΦ : St G Φ cX8_days RX8 2 6 147 0 0) (hR : Rt G Φ (Pi S Q) 0 0 (some .int)) {x0 x1 : Int} (h : R32 x1 ∧ (Ci G mX8_in [(1, x1), (1, 1), (1, 9999)] S μ (fun r2 μ2 => R32 r2 ∧ ((r2 ≠ 0 → So S x0 (.inl 8) ∧ (Cv G mX8_ratesNow [(2, x0)] S μ2 (fun μ5 => R32 (μ5 x0 29) ∧ (((μ5 x0 29) = 0 → Ai S (μ5 x0 0) 0 8 ∧ (R32 (μ5 (μ5 x0 0) 8) ∧ (((μ5 (μ5 x0 0) 8) ≤ 900000 → Cv G mX8_remember [(2, x0)] S μ5 (fun μ9 => Ai S (μ9 x0 0) 0 8 ∧ (∀ m11 : Mem, m11 = mu μ9 (μ9 x0 0) 8 ((μ9 (μ9 x0 0) 8) + x1) → (Ai S (m11 x0 0) 0 8 ∧ Q (m11 (m11 x0 0) 8) m11)))) ∧ (¬ ((μ5 (μ5 x0 0) 8) ≤ 900000) → Q (-1000000004) μ5)))) ∧ (¬ ((μ5 x0 29) = 0) → Q (-1000000003) μ5))))) ∧ (r2 = 0 → Q (-1000000002) μ2))))) : Ex G Φ 2 0 [some (2, x0), some (0, x1)] [] S μ 0 0 := by
  refine ex_iload_n hΦ dX8_days_0 rfl ?_
  obtain ⟨o1, h⟩ := h
  refine ex_i2l hΦ dX8_days_1 o1 ?_
  refine ex_lconst (x := 1) hΦ dX8_days_2 (by decide) ?_
  refine ex_ldc2 hΦ dX8_days_3 qw1124 ?_
  refine ex_callSi [(1, x1), (1, 1), (1, 9999)] [(1, 9999), (1, 1), (1, x1)] hΦ lkS_X8_91 ⟨by decide, by decide⟩ (Nat.le_of_ble_eq_true rfl) rfl (by decide) dX8_days_6 rfl h (fun r2 μ2 h => ?_)
  obtain ⟨o3, h⟩ := h
  refine ex_if_ne 15 hΦ dX8_days_9 (by decide) o3 (fun c => ?_) (fun c => ?_)
  · have h := h.1 c
    obtain ⟨o4, h⟩ := h
    refine ex_aload_n hΦ dX8_days_15 rfl o4.1 ?_
    refine ex_callVv [] [(2, x0)] hΦ lkV_X8_231 ⟨by decide, by decide⟩ (Nat.le_of_ble_eq_true rfl) rfl (by decide) 8 (by decide) rfl o4 dX8_days_16 rfl h (fun μ5 h => ?_)
    refine ex_aload_n hΦ dX8_days_19 rfl o4.1 ?_
    refine ex_getf hΦ fl_X8_200 o4 dX8_days_20 ?_
    obtain ⟨o6, h⟩ := h
    refine ex_if_eq 30 hΦ dX8_days_23 (by decide) o6 (fun c => ?_) (fun c => ?_)
    · have h := h.1 c
      refine ex_aload_n hΦ dX8_days_30 rfl o4.1 ?_
      refine ex_getf hΦ fl_X8_7 o4 dX8_days_31 ?_
      refine ex_bipush hΦ dX8_days_34 (by decide) ?_
      obtain ⟨o7, h⟩ := h
      refine ex_iald' hΦ o7 dX8_days_36 ?_
      refine ex_ldcw hΦ dX8_days_37 qw1126 ?_
      obtain ⟨o8, h⟩ := h
      refine ex_icmp_le 46 hΦ dX8_days_40 (by decide) o8 ⟨by decide, by decide⟩ (fun c => ?_) (fun c => ?_)
      · have h := h.1 c
        refine ex_aload_n hΦ dX8_days_46 rfl o4.1 ?_
        refine ex_callVv [] [(2, x0)] hΦ lkV_X8_260 ⟨by decide, by decide⟩ (Nat.le_of_ble_eq_true rfl) rfl (by decide) 8 (by decide) rfl o4 dX8_days_47 rfl h (fun μ9 h => ?_)
        refine ex_aload_n hΦ dX8_days_50 rfl o4.1 ?_
        refine ex_getf hΦ fl_X8_7 o4 dX8_days_51 ?_
        refine ex_bipush hΦ dX8_days_54 (by decide) ?_
        refine ex_dup2 hΦ dX8_days_56 (Nat.ne_of_beq_eq_false rfl) (Nat.ne_of_beq_eq_false rfl) ?_
        obtain ⟨o10, h⟩ := h
        refine ex_iald' hΦ o10 dX8_days_57 ?_
        refine ex_iload_n hΦ dX8_days_58 rfl ?_
        refine ex_iadd hΦ dX8_days_59 ?_
        obtain ⟨m11, hm11⟩ : ∃ m : Mem, m = mu μ9 (μ9 x0 0) 8 ((μ9 (μ9 x0 0) 8) + x1) := ⟨_, rfl⟩
        have h := h m11 hm11
        refine ex_iast'' hΦ o10 dX8_days_60 hm11 ?_
        refine ex_aload_n hΦ dX8_days_61 rfl o4.1 ?_
        refine ex_getf hΦ fl_X8_7 o4 dX8_days_62 ?_
        refine ex_bipush hΦ dX8_days_65 (by decide) ?_
        obtain ⟨o12, h⟩ := h
        refine ex_iald' hΦ o12 dX8_days_67 ?_
        exact ex_returni hΦ hR dX8_days_68 h
      · have h := h.2 c
        refine ex_ldc hΦ dX8_days_43 qw985 ?_
        exact ex_returni hΦ hR dX8_days_45 h
    · have h := h.2 c
      refine ex_ldcw hΦ dX8_days_26 qw1125 ?_
      exact ex_returni hΦ hR dX8_days_29 h
  · have h := h.2 c
    refine ex_ldc hΦ dX8_days_12 qw984 ?_
    exact ex_returni hΦ hR dX8_days_14 h
theorem bX8_markToday_6 {G : Gm} {Φ : Fr} {S : List Sh} {μ : Mem} {Q : Mem → Prop} (hΦ : St G Φ cX8_markToday RX8 2 6 147 0 0) (hR : Rt G Φ (Pv S Q) 0 0 none) {x0 x1 : Int} (h : So S x0 (.inl 8) ∧ (R32 x1 ∧ (R32 (μ x0 2) ∧ (((μ x0 2) ≤ x1 → Ai S (μ x0 0) 0 8 ∧ (Ai S (μ x0 0) 0 9 ∧ (∀ m6 : Mem, m6 = mu μ (μ x0 0) 9 (μ (μ x0 0) 8) → (Q m6)))) ∧ (¬ ((μ x0 2) ≤ x1) → Ci G mX8_placeIn [(2, x0), (0, x1), (1, 0)] S μ (fun r7 μ7 => Ai S (μ x0 0) 0 x1 ∧ (∀ m9 : Mem, m9 = mu μ7 (μ x0 0) x1 r7 → (Ex G Φ 2 6 [some (2, x0), some (0, (x1 + 1))] [] S m9 0 0)))))))) : Ex G Φ 2 6 [some (2, x0), some (0, x1)] [] S μ 0 0 := by
  refine ex_iload_n hΦ dX8_markToday_6 rfl ?_
  obtain ⟨o1, h⟩ := h
  refine ex_aload_n hΦ dX8_markToday_7 rfl o1.1 ?_
  refine ex_getf hΦ fl_X8_177 o1 dX8_markToday_8 ?_
  obtain ⟨o2, h⟩ := h
  obtain ⟨o3, h⟩ := h
  refine ex_icmp_ge 32 hΦ dX8_markToday_11 (by decide) o2 o3 (fun c => ?_) (fun c => ?_)
  · have h := h.1 c
    refine ex_aload_n hΦ dX8_markToday_32 rfl o1.1 ?_
    refine ex_getf hΦ fl_X8_7 o1 dX8_markToday_33 ?_
    refine ex_bipush hΦ dX8_markToday_36 (by decide) ?_
    refine ex_aload_n hΦ dX8_markToday_38 rfl o1.1 ?_
    refine ex_getf hΦ fl_X8_7 o1 dX8_markToday_39 ?_
    refine ex_bipush hΦ dX8_markToday_42 (by decide) ?_
    obtain ⟨o4, h⟩ := h
    refine ex_iald' hΦ o4 dX8_markToday_44 ?_
    obtain ⟨o5, h⟩ := h
    obtain ⟨m6, hm6⟩ : ∃ m : Mem, m = mu μ (μ x0 0) 9 (μ (μ x0 0) 8) := ⟨_, rfl⟩
    have h := h m6 hm6
    refine ex_iast'' hΦ o5 dX8_markToday_45 hm6 ?_
    exact ex_returnv hΦ hR dX8_markToday_46 h
  · have h := h.2 c
    refine ex_aload_n hΦ dX8_markToday_14 rfl o1.1 ?_
    refine ex_getf hΦ fl_X8_7 o1 dX8_markToday_15 ?_
    refine ex_iload_n hΦ dX8_markToday_18 rfl ?_
    refine ex_aload_n hΦ dX8_markToday_19 rfl o1.1 ?_
    refine ex_iload_n hΦ dX8_markToday_20 rfl ?_
    refine ex_lconst (x := 0) hΦ dX8_markToday_21 (by decide) ?_
    refine ex_callVi [(0, x1), (1, 0)] [(1, 0), (0, x1), (2, x0), (0, x1), (2, (μ x0 0))] hΦ lkV_X8_227 ⟨by decide, by decide⟩ (Nat.le_of_ble_eq_true rfl) rfl (by decide) 8 (by decide) rfl o1 dX8_markToday_22 rfl h (fun r7 μ7 h => ?_)
    obtain ⟨o8, h⟩ := h
    obtain ⟨m9, hm9⟩ : ∃ m : Mem, m = mu μ7 (μ x0 0) x1 r7 := ⟨_, rfl⟩
    have h := h m9 hm9
    refine ex_iast'' hΦ o8 dX8_markToday_25 hm9 ?_
    refine ex_iinc (L' := [some (2, x0), some (0, (x1 + 1))]) hΦ dX8_markToday_26 rfl (by decide) rfl ?_
    refine ex_goto 6 hΦ dX8_markToday_29 (by decide) ?_
    exact h
theorem eX8_markToday {G : Gm} {S : List Sh} {μ : Mem} {Q : Mem → Prop} {x0 : Int} (h : ∀ Φ : Fr, St G Φ cX8_markToday RX8 2 6 147 0 0 → Rt G Φ (Pv S Q) 0 0 none → Ex G Φ 2 0 [some (2, x0), none] [] S μ 0 0) : Cv G mX8_markToday [(2, x0)] S μ Q :=
  call_of' (plainFor_of_name (by decide +kernel)) [some (2, x0), none] rfl (Nat.le_of_ble_eq_true rfl) (fun Φ hΦ hR => h Φ hΦ hR)
theorem bX8_markToday_0 {G : Gm} {Φ : Fr} {S : List Sh} {μ : Mem} {Q : Mem → Prop} (hΦ : St G Φ cX8_markToday RX8 2 6 147 0 0) (hR : Rt G Φ (Pv S Q) 0 0 none) {x0 : Int} (h : So S x0 (.inl 8) ∧ Cv G mX8_ratesNow [(2, x0)] S μ (fun μ2 => Ex G Φ 2 6 [some (2, x0), some (0, 0)] [] S μ2 0 0)) : Ex G Φ 2 0 [some (2, x0), none] [] S μ 0 0 := by
  obtain ⟨o1, h⟩ := h
  refine ex_aload_n hΦ dX8_markToday_0 rfl o1.1 ?_
  refine ex_callVv [] [(2, x0)] hΦ lkV_X8_231 ⟨by decide, by decide⟩ (Nat.le_of_ble_eq_true rfl) rfl (by decide) 8 (by decide) rfl o1 dX8_markToday_1 rfl h (fun μ2 h => ?_)
  refine ex_iconst hΦ dX8_markToday_4 ?_
  refine ex_istore_n (L' := [some (2, x0), some (0, 0)]) hΦ dX8_markToday_5 (by decide) rfl ?_
  exact h
theorem bX8_cut_30 {G : Gm} {Φ : Fr} {S : List Sh} {μ : Mem} {Q : Int → Mem → Prop} (hΦ : St G Φ cX8_cut RX8 4 7 168 0 0) (hR : Rt G Φ (Pi S Q) 0 0 (some .int)) {x0 x1 x2 t0 : Int} (h : Ci G mX8_one [(0, t0)] S μ (fun r1 μ1 => Ci G mX8_one [(0, x2)] S μ1 (fun r2 μ2 => R32 r1 ∧ (R32 r2 ∧ ((r1 ≠ r2 → Q r1 μ2) ∧ (r1 = r2 → So S x0 (.inl 8) ∧ (Cv G mX8_remember [(2, x0)] S μ2 (fun μ6 => Cv G mX8_markToday [(2, x0)] S μ6 (fun μ7 => Ai S (μ7 x0 0) 0 10 ∧ (0 ≤ x1 ∧ (x1 ≤ 31 ∧ (∀ m11 : Mem, m11 = mu μ7 (μ7 x0 0) 10 (mxor (μ7 (μ7 x0 0) 10) (1 * 2 ^ (Int.toNat x1))) → (Q r1 m11))))))))))))) : Ex G Φ 4 30 [some (2, x0), some (0, x1), some (0, x2), none] [(0, t0)] S μ 0 0 := by
  refine ex_callSi [(0, t0)] [(0, t0)] hΦ lkS_X8_217 ⟨by decide, by decide⟩ (Nat.le_of_ble_eq_true rfl) rfl (by decide) dX8_cut_30 rfl h (fun r1 μ1 h => ?_)
  refine ex_istore_n (L' := [some (2, x0), some (0, x1), some (0, x2), some (0, r1)]) hΦ dX8_cut_33 (by decide) rfl ?_
  refine ex_iload_n hΦ dX8_cut_34 rfl ?_
  refine ex_iload_n hΦ dX8_cut_35 rfl ?_
  refine ex_callSi [(0, x2)] [(0, x2), (0, r1)] hΦ lkS_X8_217 ⟨by decide, by decide⟩ (Nat.le_of_ble_eq_true rfl) rfl (by decide) dX8_cut_36 rfl h (fun r2 μ2 h => ?_)
  obtain ⟨o3, h⟩ := h
  obtain ⟨o4, h⟩ := h
  refine ex_icmp_ne 63 hΦ dX8_cut_39 (by decide) o3 o4 (fun c => ?_) (fun c => ?_)
  · have h := h.1 c
    refine ex_iload_n hΦ dX8_cut_63 rfl ?_
    exact ex_returni hΦ hR dX8_cut_64 h
  · have h := h.2 c
    obtain ⟨o5, h⟩ := h
    refine ex_aload_n hΦ dX8_cut_42 rfl o5.1 ?_
    refine ex_callVv [] [(2, x0)] hΦ lkV_X8_260 ⟨by decide, by decide⟩ (Nat.le_of_ble_eq_true rfl) rfl (by decide) 8 (by decide) rfl o5 dX8_cut_43 rfl h (fun μ6 h => ?_)
    refine ex_aload_n hΦ dX8_cut_46 rfl o5.1 ?_
    refine ex_callVv [] [(2, x0)] hΦ lkV_X8_263 ⟨by decide, by decide⟩ (Nat.le_of_ble_eq_true rfl) rfl (by decide) 8 (by decide) rfl o5 dX8_cut_47 rfl h (fun μ7 h => ?_)
    refine ex_aload_n hΦ dX8_cut_50 rfl o5.1 ?_
    refine ex_getf hΦ fl_X8_7 o5 dX8_cut_51 ?_
    refine ex_bipush hΦ dX8_cut_54 (by decide) ?_
    refine ex_dup2 hΦ dX8_cut_56 (Nat.ne_of_beq_eq_false rfl) (Nat.ne_of_beq_eq_false rfl) ?_
    obtain ⟨o8, h⟩ := h
    refine ex_iald' hΦ o8 dX8_cut_57 ?_
    refine ex_iconst hΦ dX8_cut_58 ?_
    refine ex_iload_n hΦ dX8_cut_59 rfl ?_
    obtain ⟨o9, h⟩ := h
    obtain ⟨o10, h⟩ := h
    refine ex_ishl hΦ dX8_cut_60 o9 o10 ?_
    refine ex_ixor hΦ dX8_cut_61 ?_
    obtain ⟨m11, hm11⟩ : ∃ m : Mem, m = mu μ7 (μ7 x0 0) 10 (mxor (μ7 (μ7 x0 0) 10) (1 * 2 ^ (Int.toNat x1))) := ⟨_, rfl⟩
    have h := h m11 hm11
    refine ex_iast'' hΦ o8 dX8_cut_62 hm11 ?_
    refine ex_iload_n hΦ dX8_cut_63 rfl ?_
    exact ex_returni hΦ hR dX8_cut_64 h
theorem eX8_cut {G : Gm} {S : List Sh} {μ : Mem} {Q : Int → Mem → Prop} {x0 x1 x2 : Int} (h : ∀ Φ : Fr, St G Φ cX8_cut RX8 4 7 168 0 0 → Rt G Φ (Pi S Q) 0 0 (some .int) → Ex G Φ 4 0 [some (2, x0), some (0, x1), some (0, x2), none] [] S μ 0 0) : Ci G mX8_cut [(2, x0), (0, x1), (0, x2)] S μ Q :=
  call_of' (plainFor_of_name (by decide +kernel)) [some (2, x0), some (0, x1), some (0, x2), none] rfl (Nat.le_of_ble_eq_true rfl) (fun Φ hΦ hR => h Φ hΦ hR)
theorem bX8_cut_0 {G : Gm} {Φ : Fr} {S : List Sh} {μ : Mem} {Q : Int → Mem → Prop} (hΦ : St G Φ cX8_cut RX8 4 7 168 0 0) (hR : Rt G Φ (Pi S Q) 0 0 (some .int)) {x0 x1 x2 : Int} (h : So S x0 (.inl 8) ∧ (Ci G mX8_isLink [(2, x0), (0, x1)] S μ (fun r2 μ2 => R32 r2 ∧ ((r2 ≠ 0 → Ai S (μ2 x0 0) 0 10 ∧ (Ci G mX8_has [(0, (μ2 (μ2 x0 0) 10)), (0, x1)] S μ2 (fun r5 μ5 => R32 r5 ∧ ((r5 ≠ 0 → Ex G Φ 4 30 [some (2, x0), some (0, x1), some (0, x2), none] [(0, 0)] S μ5 0 0) ∧ (r5 = 0 → Ex G Φ 4 30 [some (2, x0), some (0, x1), some (0, x2), none] [(0, 1)] S μ5 0 0))))) ∧ (r2 = 0 → Q (-1000000001) μ2))))) : Ex G Φ 4 0 [some (2, x0), some (0, x1), some (0, x2), none] [] S μ 0 0 := by
  obtain ⟨o1, h⟩ := h
  refine ex_aload_n hΦ dX8_cut_0 rfl o1.1 ?_
  refine ex_iload_n hΦ dX8_cut_1 rfl ?_
  refine ex_callVi [(0, x1)] [(0, x1), (2, x0)] hΦ lkV_X8_245 ⟨by decide, by decide⟩ (Nat.le_of_ble_eq_true rfl) rfl (by decide) 8 (by decide) rfl o1 dX8_cut_2 rfl h (fun r2 μ2 h => ?_)
  obtain ⟨o3, h⟩ := h
  refine ex_if_ne 11 hΦ dX8_cut_5 (by decide) o3 (fun c => ?_) (fun c => ?_)
  · have h := h.1 c
    refine ex_aload_n hΦ dX8_cut_11 rfl o1.1 ?_
    refine ex_getf hΦ fl_X8_7 o1 dX8_cut_12 ?_
    refine ex_bipush hΦ dX8_cut_15 (by decide) ?_
    obtain ⟨o4, h⟩ := h
    refine ex_iald' hΦ o4 dX8_cut_17 ?_
    refine ex_iload_n hΦ dX8_cut_18 rfl ?_
    refine ex_callSi [(0, (μ2 (μ2 x0 0) 10)), (0, x1)] [(0, x1), (0, (μ2 (μ2 x0 0) 10))] hΦ lkS_X8_192 ⟨by decide, by decide⟩ (Nat.le_of_ble_eq_true rfl) rfl (by decide) dX8_cut_19 rfl h (fun r5 μ5 h => ?_)
    obtain ⟨o6, h⟩ := h
    refine ex_if_ne 29 hΦ dX8_cut_22 (by decide) o6 (fun c => ?_) (fun c => ?_)
    · have h := h.1 c
      refine ex_iconst hΦ dX8_cut_29 ?_
      exact h
    · have h := h.2 c
      refine ex_iconst hΦ dX8_cut_25 ?_
      refine ex_goto 30 hΦ dX8_cut_26 (by decide) ?_
      exact h
  · have h := h.2 c
    refine ex_ldc hΦ dX8_cut_8 qw1098 ?_
    exact ex_returni hΦ hR dX8_cut_10 h
theorem eX8_slipBy {G : Gm} {S : List Sh} {μ : Mem} {Q : Mem → Prop} {x0 x1 x2 : Int} (h : ∀ Φ : Fr, St G Φ cX8_slipBy RX8 3 7 168 0 0 → Rt G Φ (Pv S Q) 0 0 none → Ex G Φ 3 0 [some (2, x0), some (0, x1), some (0, x2)] [] S μ 0 0) : Cv G mX8_slipBy [(2, x0), (0, x1), (0, x2)] S μ Q :=
  call_of' (plainFor_of_name (by decide +kernel)) [some (2, x0), some (0, x1), some (0, x2)] rfl (Nat.le_of_ble_eq_true rfl) (fun Φ hΦ hR => h Φ hΦ hR)
theorem bX8_slipBy_0 {G : Gm} {Φ : Fr} {S : List Sh} {μ : Mem} {Q : Mem → Prop} (hΦ : St G Φ cX8_slipBy RX8 3 7 168 0 0) (hR : Rt G Φ (Pv S Q) 0 0 none) {x0 x1 x2 : Int} (h : So S x0 (.inl 8) ∧ (Cv G mX8_markToday [(2, x0)] S μ (fun μ2 => Ai S (μ2 x0 0) 0 x1 ∧ (R32 ((μ2 (μ2 x0 0) x1) + x2) ∧ (Ai S (μ2 x0 13) 0 x1 ∧ (Ci G mX8_over [(1, ((μ2 (μ2 x0 0) x1) + x2)), (0, (μ2 (μ2 x0 13) x1))] S μ2 (fun r6 μ6 => ∀ m7 : Mem, m7 = mu μ6 (μ2 x0 0) x1 r6 → (Q m7)))))))) : Ex G Φ 3 0 [some (2, x0), some (0, x1), some (0, x2)] [] S μ 0 0 := by
  obtain ⟨o1, h⟩ := h
  refine ex_aload_n hΦ dX8_slipBy_0 rfl o1.1 ?_
  refine ex_callVv [] [(2, x0)] hΦ lkV_X8_263 ⟨by decide, by decide⟩ (Nat.le_of_ble_eq_true rfl) rfl (by decide) 8 (by decide) rfl o1 dX8_slipBy_1 rfl h (fun μ2 h => ?_)
  refine ex_aload_n hΦ dX8_slipBy_4 rfl o1.1 ?_
  refine ex_getf hΦ fl_X8_7 o1 dX8_slipBy_5 ?_
  refine ex_iload_n hΦ dX8_slipBy_8 rfl ?_
  refine ex_aload_n hΦ dX8_slipBy_9 rfl o1.1 ?_
  refine ex_getf hΦ fl_X8_7 o1 dX8_slipBy_10 ?_
  refine ex_iload_n hΦ dX8_slipBy_13 rfl ?_
  obtain ⟨o3, h⟩ := h
  refine ex_iald' hΦ o3 dX8_slipBy_14 ?_
  refine ex_iload_n hΦ dX8_slipBy_15 rfl ?_
  refine ex_iadd hΦ dX8_slipBy_16 ?_
  obtain ⟨o4, h⟩ := h
  refine ex_i2l hΦ dX8_slipBy_17 o4 ?_
  refine ex_aload_n hΦ dX8_slipBy_18 rfl o1.1 ?_
  refine ex_getf hΦ fl_X8_21 o1 dX8_slipBy_19 ?_
  refine ex_iload_n hΦ dX8_slipBy_22 rfl ?_
  obtain ⟨o5, h⟩ := h
  refine ex_iald' hΦ o5 dX8_slipBy_23 ?_
  refine ex_callSi [(1, ((μ2 (μ2 x0 0) x1) + x2)), (0, (μ2 (μ2 x0 13) x1))] [(0, (μ2 (μ2 x0 13) x1)), (1, ((μ2 (μ2 x0 0) x1) + x2)), (0, x1), (2, (μ2 x0 0))] hΦ lkS_X8_223 ⟨by decide, by decide⟩ (Nat.le_of_ble_eq_true rfl) rfl (by decide) dX8_slipBy_24 rfl h (fun r6 μ6 h => ?_)
  obtain ⟨m7, hm7⟩ : ∃ m : Mem, m = mu μ6 (μ2 x0 0) x1 r6 := ⟨_, rfl⟩
  have h := h m7 hm7
  refine ex_iast'' hΦ o3 dX8_slipBy_27 hm7 ?_
  exact ex_returnv hΦ hR dX8_slipBy_28 h
theorem eX8_slip {G : Gm} {S : List Sh} {μ : Mem} {Q : Int → Mem → Prop} {x0 x1 x2 : Int} (h : ∀ Φ : Fr, St G Φ cX8_slip RX8 3 8 190 0 0 → Rt G Φ (Pi S Q) 0 0 (some .int) → Ex G Φ 3 0 [some (2, x0), some (0, x1), some (0, x2)] [] S μ 0 0) : Ci G mX8_slip [(2, x0), (0, x1), (0, x2)] S μ Q :=
  call_of' (plainFor_of_name (by decide +kernel)) [some (2, x0), some (0, x1), some (0, x2)] rfl (Nat.le_of_ble_eq_true rfl) (fun Φ hΦ hR => h Φ hΦ hR)
theorem bX8_slip_0 {G : Gm} {Φ : Fr} {S : List Sh} {μ : Mem} {Q : Int → Mem → Prop} (hΦ : St G Φ cX8_slip RX8 3 8 190 0 0) (hR : Rt G Φ (Pi S Q) 0 0 (some .int)) {x0 x1 x2 : Int} (h : So S x0 (.inl 8) ∧ (Ci G mX8_isWheel [(2, x0), (0, x1)] S μ (fun r2 μ2 => R32 r2 ∧ ((r2 ≠ 0 → R32 x2 ∧ (Ci G mX8_in [(1, x2), (1, (-99)), (1, 99)] S μ2 (fun r5 μ5 => R32 r5 ∧ ((r5 ≠ 0 → Cv G mX8_remember [(2, x0)] S μ5 (fun μ7 => Cv G mX8_slipBy [(2, x0), (0, x1), (0, x2)] S μ7 (fun μ8 => Ai S (μ8 x0 0) 0 x1 ∧ Q (μ8 (μ8 x0 0) x1) μ8))) ∧ (r5 = 0 → Q (-1000000002) μ5))))) ∧ (r2 = 0 → Q (-1000000001) μ2))))) : Ex G Φ 3 0 [some (2, x0), some (0, x1), some (0, x2)] [] S μ 0 0 := by
  obtain ⟨o1, h⟩ := h
  refine ex_aload_n hΦ dX8_slip_0 rfl o1.1 ?_
  refine ex_iload_n hΦ dX8_slip_1 rfl ?_
  refine ex_callVi [(0, x1)] [(0, x1), (2, x0)] hΦ lkV_X8_240 ⟨by decide, by decide⟩ (Nat.le_of_ble_eq_true rfl) rfl (by decide) 8 (by decide) rfl o1 dX8_slip_2 rfl h (fun r2 μ2 h => ?_)
  obtain ⟨o3, h⟩ := h
  refine ex_if_ne 11 hΦ dX8_slip_5 (by decide) o3 (fun c => ?_) (fun c => ?_)
  · have h := h.1 c
    refine ex_iload_n hΦ dX8_slip_11 rfl ?_
    obtain ⟨o4, h⟩ := h
    refine ex_i2l hΦ dX8_slip_12 o4 ?_
    refine ex_ldc2 hΦ dX8_slip_13 qw1147 ?_
    refine ex_ldc2 hΦ dX8_slip_16 qw1148 ?_
    refine ex_callSi [(1, x2), (1, (-99)), (1, 99)] [(1, 99), (1, (-99)), (1, x2)] hΦ lkS_X8_91 ⟨by decide, by decide⟩ (Nat.le_of_ble_eq_true rfl) rfl (by decide) dX8_slip_19 rfl h (fun r5 μ5 h => ?_)
    obtain ⟨o6, h⟩ := h
    refine ex_if_ne 28 hΦ dX8_slip_22 (by decide) o6 (fun c => ?_) (fun c => ?_)
    · have h := h.1 c
      refine ex_aload_n hΦ dX8_slip_28 rfl o1.1 ?_
      refine ex_callVv [] [(2, x0)] hΦ lkV_X8_260 ⟨by decide, by decide⟩ (Nat.le_of_ble_eq_true rfl) rfl (by decide) 8 (by decide) rfl o1 dX8_slip_29 rfl h (fun μ7 h => ?_)
      refine ex_aload_n hΦ dX8_slip_32 rfl o1.1 ?_
      refine ex_iload_n hΦ dX8_slip_33 rfl ?_
      refine ex_iload_n hΦ dX8_slip_34 rfl ?_
      refine ex_callVv [(0, x1), (0, x2)] [(0, x2), (0, x1), (2, x0)] hΦ lkV_X8_270 ⟨by decide, by decide⟩ (Nat.le_of_ble_eq_true rfl) rfl (by decide) 8 (by decide) rfl o1 dX8_slip_35 rfl h (fun μ8 h => ?_)
      refine ex_aload_n hΦ dX8_slip_38 rfl o1.1 ?_
      refine ex_getf hΦ fl_X8_7 o1 dX8_slip_39 ?_
      refine ex_iload_n hΦ dX8_slip_42 rfl ?_
      obtain ⟨o9, h⟩ := h
      refine ex_iald' hΦ o9 dX8_slip_43 ?_
      exact ex_returni hΦ hR dX8_slip_44 h
    · have h := h.2 c
      refine ex_ldc hΦ dX8_slip_25 qw984 ?_
      exact ex_returni hΦ hR dX8_slip_27 h
  · have h := h.2 c
    refine ex_ldc hΦ dX8_slip_8 qw1098 ?_
    exact ex_returni hΦ hR dX8_slip_10 h
theorem eX8_draw {G : Gm} {S : List Sh} {μ : Mem} {Q : Int → Mem → Prop} {x0 x1 : Int} (h : ∀ Φ : Fr, St G Φ cX8_draw RX8 2 0 0 0 0 → Rt G Φ (Pi S Q) 0 0 (some .int) → Ex G Φ 2 0 [some (2, x0), some (0, x1)] [] S μ 0 0) : Ci G mX8_draw [(2, x0), (0, x1)] S μ Q :=
  call_of' (plainFor_of_name (by decide +kernel)) [some (2, x0), some (0, x1)] rfl (Nat.le_of_ble_eq_true rfl) (fun Φ hΦ hR => h Φ hΦ hR)
theorem bX8_draw_0 {G : Gm} {Φ : Fr} {S : List Sh} {μ : Mem} {Q : Int → Mem → Prop} (hΦ : St G Φ cX8_draw RX8 2 0 0 0 0) (hR : Rt G Φ (Pi S Q) 0 0 (some .int)) {x0 x1 : Int} (h : So S x0 (.inl 8) ∧ (Ai S (μ x0 0) 0 11 ∧ (R32 (μ (μ x0 0) 11) ∧ (R64 (((μ (μ x0 0) 11) * 1103515245) + 12345) ∧ (∀ m5 : Mem, m5 = mu μ (μ x0 0) 11 (Int.tmod (((μ (μ x0 0) 11) * 1103515245) + 12345) 2147483648) → (Ai S (m5 x0 0) 0 11 ∧ (R32 (m5 (m5 x0 0) 11) ∧ (R32 (Int.tdiv (m5 (m5 x0 0) 11) 65536) ∧ (R32 x1 ∧ (x1 ≠ 0 ∧ Q (Int.tmod (Int.tdiv (m5 (m5 x0 0) 11) 65536) x1) m5)))))))))) : Ex G Φ 2 0 [some (2, x0), some (0, x1)] [] S μ 0 0 := by
  obtain ⟨o1, h⟩ := h
  refine ex_aload_n hΦ dX8_draw_0 rfl o1.1 ?_
  refine ex_getf hΦ fl_X8_7 o1 dX8_draw_1 ?_
  refine ex_bipush hΦ dX8_draw_4 (by decide) ?_
  refine ex_aload_n hΦ dX8_draw_6 rfl o1.1 ?_
  refine ex_getf hΦ fl_X8_7 o1 dX8_draw_7 ?_
  refine ex_bipush hΦ dX8_draw_10 (by decide) ?_
  obtain ⟨o2, h⟩ := h
  refine ex_iald' hΦ o2 dX8_draw_12 ?_
  obtain ⟨o3, h⟩ := h
  refine ex_i2l hΦ dX8_draw_13 o3 ?_
  refine ex_ldc2 hΦ dX8_draw_14 qw1161 ?_
  refine ex_lmul hΦ dX8_draw_17 ?_
  refine ex_ldc2 hΦ dX8_draw_18 qw1162 ?_
  refine ex_ladd hΦ dX8_draw_21 ?_
  refine ex_ldc2 hΦ dX8_draw_22 qw1163 ?_
  obtain ⟨o4, h⟩ := h
  refine ex_lrem hΦ dX8_draw_25 o4 ⟨by decide, by decide⟩ (by decide) ?_
  refine ex_l2i hΦ dX8_draw_26 ?_
  obtain ⟨m5, hm5⟩ : ∃ m : Mem, m = mu μ (μ x0 0) 11 (Int.tmod (((μ (μ x0 0) 11) * 1103515245) + 12345) 2147483648) := ⟨_, rfl⟩
  have h := h m5 hm5
  refine ex_iast'' hΦ o2 dX8_draw_27 hm5 ?_
  refine ex_aload_n hΦ dX8_draw_28 rfl o1.1 ?_
  refine ex_getf hΦ fl_X8_7 o1 dX8_draw_29 ?_
  refine ex_bipush hΦ dX8_draw_32 (by decide) ?_
  obtain ⟨o6, h⟩ := h
  refine ex_iald' hΦ o6 dX8_draw_34 ?_
  refine ex_ldcw hΦ dX8_draw_35 qw1164 ?_
  obtain ⟨o7, h⟩ := h
  refine ex_idiv hΦ dX8_draw_38 o7 ⟨by decide, by decide⟩ (by decide) ?_
  refine ex_iload_n hΦ dX8_draw_39 rfl ?_
  obtain ⟨o8, h⟩ := h
  obtain ⟨o9, h⟩ := h
  obtain ⟨o10, h⟩ := h
  refine ex_irem hΦ dX8_draw_40 o8 o9 o10 ?_
  exact ex_returni hΦ hR dX8_draw_41 h
theorem bX8_drift_59 {G : Gm} {Φ : Fr} {S : List Sh} {μ : Mem} {Q : Int → Mem → Prop} (hΦ : St G Φ cX8_drift RX8 3 8 190 0 0) (hR : Rt G Φ (Pi S Q) 0 0 (some .int)) {x0 x1 x2 : Int} (h : R32 x2 ∧ (R32 x1 ∧ ((x1 ≤ x2 → So S x0 (.inl 8) ∧ (Ai S (μ x0 0) 0 8 ∧ Q (μ (μ x0 0) 8) μ)) ∧ (¬ (x1 ≤ x2) → So S x0 (.inl 8) ∧ (Ci G mX8_draw [(2, x0), (0, 8)] S μ (fun r6 μ6 => R32 r6 ∧ ((r6 ≠ 0 → Ai S (μ6 x0 0) 0 8 ∧ (∀ m9 : Mem, m9 = mu μ6 (μ6 x0 0) 8 ((μ6 (μ6 x0 0) 8) + 1) → (Ex G Φ 3 59 [some (2, x0), some (0, x1), some (0, (x2 + 1))] [] S m9 0 0))) ∧ (r6 = 0 → Ci G mX8_draw [(2, x0), (0, (μ6 x0 2))] S μ6 (fun r10 μ10 => Cv G mX8_slipBy [(2, x0), (0, r10), (0, 1)] S μ10 (fun μ11 => Ai S (μ11 x0 0) 0 8 ∧ (∀ m13 : Mem, m13 = mu μ11 (μ11 x0 0) 8 ((μ11 (μ11 x0 0) 8) + 1) → (Ex G Φ 3 59 [some (2, x0), some (0, x1), some (0, (x2 + 1))] [] S m13 0 0)))))))))))) : Ex G Φ 3 59 [some (2, x0), some (0, x1), some (0, x2)] [] S μ 0 0 := by
  refine ex_iload_n hΦ dX8_drift_59 rfl ?_
  refine ex_iload_n hΦ dX8_drift_60 rfl ?_
  obtain ⟨o1, h⟩ := h
  obtain ⟨o2, h⟩ := h
  refine ex_icmp_ge 103 hΦ dX8_drift_61 (by decide) o1 o2 (fun c => ?_) (fun c => ?_)
  · have h := h.1 c
    obtain ⟨o3, h⟩ := h
    refine ex_aload_n hΦ dX8_drift_103 rfl o3.1 ?_
    refine ex_getf hΦ fl_X8_7 o3 dX8_drift_104 ?_
    refine ex_bipush hΦ dX8_drift_107 (by decide) ?_
    obtain ⟨o4, h⟩ := h
    refine ex_iald' hΦ o4 dX8_drift_109 ?_
    exact ex_returni hΦ hR dX8_drift_110 h
  · have h := h.2 c
    obtain ⟨o5, h⟩ := h
    refine ex_aload_n hΦ dX8_drift_64 rfl o5.1 ?_
    refine ex_bipush hΦ dX8_drift_65 (by decide) ?_
    refine ex_callVi [(0, 8)] [(0, 8), (2, x0)] hΦ lkV_X8_280 ⟨by decide, by decide⟩ (Nat.le_of_ble_eq_true rfl) rfl (by decide) 8 (by decide) rfl o5 dX8_drift_67 rfl h (fun r6 μ6 h => ?_)
    obtain ⟨o7, h⟩ := h
    refine ex_if_ne 86 hΦ dX8_drift_70 (by decide) o7 (fun c => ?_) (fun c => ?_)
    · have h := h.1 c
      refine ex_aload_n hΦ dX8_drift_86 rfl o5.1 ?_
      refine ex_getf hΦ fl_X8_7 o5 dX8_drift_87 ?_
      refine ex_bipush hΦ dX8_drift_90 (by decide) ?_
      refine ex_dup2 hΦ dX8_drift_92 (Nat.ne_of_beq_eq_false rfl) (Nat.ne_of_beq_eq_false rfl) ?_
      obtain ⟨o8, h⟩ := h
      refine ex_iald' hΦ o8 dX8_drift_93 ?_
      refine ex_iconst hΦ dX8_drift_94 ?_
      refine ex_iadd hΦ dX8_drift_95 ?_
      obtain ⟨m9, hm9⟩ : ∃ m : Mem, m = mu μ6 (μ6 x0 0) 8 ((μ6 (μ6 x0 0) 8) + 1) := ⟨_, rfl⟩
      have h := h m9 hm9
      refine ex_iast'' hΦ o8 dX8_drift_96 hm9 ?_
      refine ex_iinc (L' := [some (2, x0), some (0, x1), some (0, (x2 + 1))]) hΦ dX8_drift_97 rfl (by decide) rfl ?_
      refine ex_goto 59 hΦ dX8_drift_100 (by decide) ?_
      exact h
    · have h := h.2 c
      refine ex_aload_n hΦ dX8_drift_73 rfl o5.1 ?_
      refine ex_aload_n hΦ dX8_drift_74 rfl o5.1 ?_
      refine ex_aload_n hΦ dX8_drift_75 rfl o5.1 ?_
      refine ex_getf hΦ fl_X8_177 o5 dX8_drift_76 ?_
      refine ex_callVi [(0, (μ6 x0 2))] [(0, (μ6 x0 2)), (2, x0), (2, x0)] hΦ lkV_X8_280 ⟨by decide, by decide⟩ (Nat.le_of_ble_eq_true rfl) rfl (by decide) 8 (by decide) rfl o5 dX8_drift_79 rfl h (fun r10 μ10 h => ?_)
      refine ex_iconst hΦ dX8_drift_82 ?_
      refine ex_callVv [(0, r10), (0, 1)] [(0, 1), (0, r10), (2, x0)] hΦ lkV_X8_270 ⟨by decide, by decide⟩ (Nat.le_of_ble_eq_true rfl) rfl (by decide) 8 (by decide) rfl o5 dX8_drift_83 rfl h (fun μ11 h => ?_)
      refine ex_aload_n hΦ dX8_drift_86 rfl o5.1 ?_
      refine ex_getf hΦ fl_X8_7 o5 dX8_drift_87 ?_
      refine ex_bipush hΦ dX8_drift_90 (by decide) ?_
      refine ex_dup2 hΦ dX8_drift_92 (Nat.ne_of_beq_eq_false rfl) (Nat.ne_of_beq_eq_false rfl) ?_
      obtain ⟨o12, h⟩ := h
      refine ex_iald' hΦ o12 dX8_drift_93 ?_
      refine ex_iconst hΦ dX8_drift_94 ?_
      refine ex_iadd hΦ dX8_drift_95 ?_
      obtain ⟨m13, hm13⟩ : ∃ m : Mem, m = mu μ11 (μ11 x0 0) 8 ((μ11 (μ11 x0 0) 8) + 1) := ⟨_, rfl⟩
      have h := h m13 hm13
      refine ex_iast'' hΦ o12 dX8_drift_96 hm13 ?_
      refine ex_iinc (L' := [some (2, x0), some (0, x1), some (0, (x2 + 1))]) hΦ dX8_drift_97 rfl (by decide) rfl ?_
      refine ex_goto 59 hΦ dX8_drift_100 (by decide) ?_
      exact h
theorem eX8_drift {G : Gm} {S : List Sh} {μ : Mem} {Q : Int → Mem → Prop} {x0 x1 : Int} (h : ∀ Φ : Fr, St G Φ cX8_drift RX8 3 8 190 0 0 → Rt G Φ (Pi S Q) 0 0 (some .int) → Ex G Φ 3 0 [some (2, x0), some (0, x1), none] [] S μ 0 0) : Ci G mX8_drift [(2, x0), (0, x1)] S μ Q :=
  call_of' (plainFor_of_name (by decide +kernel)) [some (2, x0), some (0, x1), none] rfl (Nat.le_of_ble_eq_true rfl) (fun Φ hΦ hR => h Φ hΦ hR)
theorem bX8_drift_0 {G : Gm} {Φ : Fr} {S : List Sh} {μ : Mem} {Q : Int → Mem → Prop} (hΦ : St G Φ cX8_drift RX8 3 8 190 0 0) (hR : Rt G Φ (Pi S Q) 0 0 (some .int)) {x0 x1 : Int} (h : R32 x1 ∧ (Ci G mX8_in [(1, x1), (1, 1), (1, 99)] S μ (fun r2 μ2 => R32 r2 ∧ ((r2 ≠ 0 → So S x0 (.inl 8) ∧ (Cv G mX8_ratesNow [(2, x0)] S μ2 (fun μ5 => R32 (μ5 x0 29) ∧ (((μ5 x0 29) ≠ 0 → Q (-1000000003) μ5) ∧ ((μ5 x0 29) = 0 → R32 (μ5 x0 2) ∧ (((μ5 x0 2) ≠ 0 → Ai S (μ5 x0 0) 0 8 ∧ (R32 (μ5 (μ5 x0 0) 8) ∧ (((μ5 (μ5 x0 0) 8) ≤ 900000 → Cv G mX8_remember [(2, x0)] S μ5 (fun μ10 => Ex G Φ 3 59 [some (2, x0), some (0, x1), some (0, 0)] [] S μ10 0 0)) ∧ (¬ ((μ5 (μ5 x0 0) 8) ≤ 900000) → Q (-1000000004) μ5)))) ∧ ((μ5 x0 2) = 0 → Q (-1000000003) μ5))))))) ∧ (r2 = 0 → Q (-1000000002) μ2))))) : Ex G Φ 3 0 [some (2, x0), some (0, x1), none] [] S μ 0 0 := by
  refine ex_iload_n hΦ dX8_drift_0 rfl ?_
  obtain ⟨o1, h⟩ := h
  refine ex_i2l hΦ dX8_drift_1 o1 ?_
  refine ex_lconst (x := 1) hΦ dX8_drift_2 (by decide) ?_
  refine ex_ldc2 hΦ dX8_drift_3 qw1148 ?_
  refine ex_callSi [(1, x1), (1, 1), (1, 99)] [(1, 99), (1, 1), (1, x1)] hΦ lkS_X8_91 ⟨by decide, by decide⟩ (Nat.le_of_ble_eq_true rfl) rfl (by decide) dX8_drift_6 rfl h (fun r2 μ2 h => ?_)
  obtain ⟨o3, h⟩ := h
  refine ex_if_ne 15 hΦ dX8_drift_9 (by decide) o3 (fun c => ?_) (fun c => ?_)
  · have h := h.1 c
    obtain ⟨o4, h⟩ := h
    refine ex_aload_n hΦ dX8_drift_15 rfl o4.1 ?_
    refine ex_callVv [] [(2, x0)] hΦ lkV_X8_231 ⟨by decide, by decide⟩ (Nat.le_of_ble_eq_true rfl) rfl (by decide) 8 (by decide) rfl o4 dX8_drift_16 rfl h (fun μ5 h => ?_)
    refine ex_aload_n hΦ dX8_drift_19 rfl o4.1 ?_
    refine ex_getf hΦ fl_X8_200 o4 dX8_drift_20 ?_
    obtain ⟨o6, h⟩ := h
    refine ex_if_ne 33 hΦ dX8_drift_23 (by decide) o6 (fun c => ?_) (fun c => ?_)
    · have h := h.1 c
      refine ex_ldcw hΦ dX8_drift_33 qw1125 ?_
      exact ex_returni hΦ hR dX8_drift_36 h
    · have h := h.2 c
      refine ex_aload_n hΦ dX8_drift_26 rfl o4.1 ?_
      refine ex_getf hΦ fl_X8_177 o4 dX8_drift_27 ?_
      obtain ⟨o7, h⟩ := h
      refine ex_if_ne 37 hΦ dX8_drift_30 (by decide) o7 (fun c => ?_) (fun c => ?_)
      · have h := h.1 c
        refine ex_aload_n hΦ dX8_drift_37 rfl o4.1 ?_
        refine ex_getf hΦ fl_X8_7 o4 dX8_drift_38 ?_
        refine ex_bipush hΦ dX8_drift_41 (by decide) ?_
        obtain ⟨o8, h⟩ := h
        refine ex_iald' hΦ o8 dX8_drift_43 ?_
        refine ex_ldcw hΦ dX8_drift_44 qw1126 ?_
        obtain ⟨o9, h⟩ := h
        refine ex_icmp_le 53 hΦ dX8_drift_47 (by decide) o9 ⟨by decide, by decide⟩ (fun c => ?_) (fun c => ?_)
        · have h := h.1 c
          refine ex_aload_n hΦ dX8_drift_53 rfl o4.1 ?_
          refine ex_callVv [] [(2, x0)] hΦ lkV_X8_260 ⟨by decide, by decide⟩ (Nat.le_of_ble_eq_true rfl) rfl (by decide) 8 (by decide) rfl o4 dX8_drift_54 rfl h (fun μ10 h => ?_)
          refine ex_iconst hΦ dX8_drift_57 ?_
          refine ex_istore_n (L' := [some (2, x0), some (0, x1), some (0, 0)]) hΦ dX8_drift_58 (by decide) rfl ?_
          exact h
        · have h := h.2 c
          refine ex_ldc hΦ dX8_drift_50 qw985 ?_
          exact ex_returni hΦ hR dX8_drift_52 h
      · have h := h.2 c
        refine ex_ldcw hΦ dX8_drift_33 qw1125 ?_
        exact ex_returni hΦ hR dX8_drift_36 h
  · have h := h.2 c
    refine ex_ldc hΦ dX8_drift_12 qw984 ?_
    exact ex_returni hΦ hR dX8_drift_14 h
theorem eX8_undo {G : Gm} {S : List Sh} {μ : Mem} {Q : Int → Mem → Prop} {x0 x1 : Int} (h : ∀ Φ : Fr, St G Φ cX8_undo RX8 3 1 25 0 0 → Rt G Φ (Pi S Q) 0 0 (some .int) → Ex G Φ 3 0 [some (2, x0), some (0, x1), none] [] S μ 0 0) : Ci G mX8_undo [(2, x0), (0, x1)] S μ Q :=
  call_of' (plainFor_of_name (by decide +kernel)) [some (2, x0), some (0, x1), none] rfl (Nat.le_of_ble_eq_true rfl) (fun Φ hΦ hR => h Φ hΦ hR)
theorem bX8_undo_0 {G : Gm} {Φ : Fr} {S : List Sh} {μ : Mem} {Q : Int → Mem → Prop} (hΦ : St G Φ cX8_undo RX8 3 1 25 0 0) (hR : Rt G Φ (Pi S Q) 0 0 (some .int)) {x0 x1 : Int} (h : R32 x1 ∧ (Ci G mX8_in [(1, x1), (1, 1), (1, 30)] S μ (fun r2 μ2 => R32 r2 ∧ ((r2 ≠ 0 → So S x0 (.inl 8) ∧ (R32 (μ2 x0 31) ∧ ((x1 ≤ (μ2 x0 31) → ∀ m6 : Mem, m6 = mu μ2 x0 31 ((μ2 x0 31) - x1) → (Ai S (m6 x0 0) 0 11 ∧ (Cv G mX8_copy [(2, x0), (0, (36 + (12 * (m6 x0 31)))), (0, 0)] S m6 (fun μ8 => Ai S (μ8 x0 0) 0 11 ∧ (∀ m10 : Mem, m10 = mu μ8 (μ8 x0 0) 11 (m6 (m6 x0 0) 11) → (Ai S (m10 x0 0) 0 8 ∧ Q (m10 (m10 x0 0) 8) m10)))))) ∧ (¬ (x1 ≤ (μ2 x0 31)) → Q (-1000000003) μ2)))) ∧ (r2 = 0 → Q (-1000000002) μ2))))) : Ex G Φ 3 0 [some (2, x0), some (0, x1), none] [] S μ 0 0 := by
  refine ex_iload_n hΦ dX8_undo_0 rfl ?_
  obtain ⟨o1, h⟩ := h
  refine ex_i2l hΦ dX8_undo_1 o1 ?_
  refine ex_lconst (x := 1) hΦ dX8_undo_2 (by decide) ?_
  refine ex_ldc2 hΦ dX8_undo_3 qw1169 ?_
  refine ex_callSi [(1, x1), (1, 1), (1, 30)] [(1, 30), (1, 1), (1, x1)] hΦ lkS_X8_91 ⟨by decide, by decide⟩ (Nat.le_of_ble_eq_true rfl) rfl (by decide) dX8_undo_6 rfl h (fun r2 μ2 h => ?_)
  obtain ⟨o3, h⟩ := h
  refine ex_if_ne 15 hΦ dX8_undo_9 (by decide) o3 (fun c => ?_) (fun c => ?_)
  · have h := h.1 c
    refine ex_iload_n hΦ dX8_undo_15 rfl ?_
    obtain ⟨o4, h⟩ := h
    refine ex_aload_n hΦ dX8_undo_16 rfl o4.1 ?_
    refine ex_getf hΦ fl_X8_174 o4 dX8_undo_17 ?_
    obtain ⟨o5, h⟩ := h
    refine ex_icmp_le 27 hΦ dX8_undo_20 (by decide) o1 o5 (fun c => ?_) (fun c => ?_)
    · have h := h.1 c
      refine ex_aload_n hΦ dX8_undo_27 rfl o4.1 ?_
      refine ex_dup hΦ dX8_undo_28 (Nat.ne_of_beq_eq_false rfl) ?_
      refine ex_getf hΦ fl_X8_174 o4 dX8_undo_29 ?_
      refine ex_iload_n hΦ dX8_undo_32 rfl ?_
      refine ex_isub hΦ dX8_undo_33 ?_
      obtain ⟨m6, hm6⟩ : ∃ m : Mem, m = mu μ2 x0 31 ((μ2 x0 31) - x1) := ⟨_, rfl⟩
      have h := h m6 hm6
      refine ex_putf' hΦ fl_X8_174 o4 rfl rfl dX8_undo_34 hm6 ?_
      refine ex_aload_n hΦ dX8_undo_37 rfl o4.1 ?_
      refine ex_getf hΦ fl_X8_7 o4 dX8_undo_38 ?_
      refine ex_bipush hΦ dX8_undo_41 (by decide) ?_
      obtain ⟨o7, h⟩ := h
      refine ex_iald' hΦ o7 dX8_undo_43 ?_
      refine ex_istore_n (L' := [some (2, x0), some (0, x1), some (0, (m6 (m6 x0 0) 11))]) hΦ dX8_undo_44 (by decide) rfl ?_
      refine ex_aload_n hΦ dX8_undo_45 rfl o4.1 ?_
      refine ex_bipush hΦ dX8_undo_46 (by decide) ?_
      refine ex_bipush hΦ dX8_undo_48 (by decide) ?_
      refine ex_aload_n hΦ dX8_undo_50 rfl o4.1 ?_
      refine ex_getf hΦ fl_X8_174 o4 dX8_undo_51 ?_
      refine ex_imul hΦ dX8_undo_54 ?_
      refine ex_iadd hΦ dX8_undo_55 ?_
      refine ex_iconst hΦ dX8_undo_56 ?_
      refine ex_callVv [(0, (36 + (12 * (m6 x0 31)))), (0, 0)] [(0, 0), (0, (36 + (12 * (m6 x0 31)))), (2, x0)] hΦ lkV_X8_253 ⟨by decide, by decide⟩ (Nat.le_of_ble_eq_true rfl) rfl (by decide) 8 (by decide) rfl o4 dX8_undo_57 rfl h (fun μ8 h => ?_)
      refine ex_aload_n hΦ dX8_undo_60 rfl o4.1 ?_
      refine ex_getf hΦ fl_X8_7 o4 dX8_undo_61 ?_
      refine ex_bipush hΦ dX8_undo_64 (by decide) ?_
      refine ex_iload_n hΦ dX8_undo_66 rfl ?_
      obtain ⟨o9, h⟩ := h
      obtain ⟨m10, hm10⟩ : ∃ m : Mem, m = mu μ8 (μ8 x0 0) 11 (m6 (m6 x0 0) 11) := ⟨_, rfl⟩
      have h := h m10 hm10
      refine ex_iast'' hΦ o9 dX8_undo_67 hm10 ?_
      refine ex_aload_n hΦ dX8_undo_68 rfl o4.1 ?_
      refine ex_getf hΦ fl_X8_7 o4 dX8_undo_69 ?_
      refine ex_bipush hΦ dX8_undo_72 (by decide) ?_
      obtain ⟨o11, h⟩ := h
      refine ex_iald' hΦ o11 dX8_undo_74 ?_
      exact ex_returni hΦ hR dX8_undo_75 h
    · have h := h.2 c
      refine ex_ldcw hΦ dX8_undo_23 qw1125 ?_
      exact ex_returni hΦ hR dX8_undo_26 h
  · have h := h.2 c
    refine ex_ldc hΦ dX8_undo_12 qw984 ?_
    exact ex_returni hΦ hR dX8_undo_14 h
theorem bX8_next_17 {G : Gm} {Φ : Fr} {S : List Sh} {μ : Mem} {Q : Int → Mem → Prop} (hΦ : St G Φ cX8_next RX8 3 6 147 0 0) (hR : Rt G Φ (Pi S Q) 0 0 (some .int)) {x0 x1 x2 : Int} (h : R32 x2 ∧ ((10000 ≤ x2 → Q (-1) μ) ∧ (¬ (10000 ≤ x2) → So S x0 (.inl 8) ∧ (Ai S (μ x0 19) 0 x1 ∧ (Ci G mX8_placeIn [(2, x0), (0, (μ (μ x0 19) x1)), (1, x2)] S μ (fun r4 μ4 => Ai S (μ4 x0 20) 0 x1 ∧ (R32 r4 ∧ (R32 (μ4 (μ4 x0 20) x1) ∧ ((r4 ≠ (μ4 (μ4 x0 20) x1) → Ex G Φ 3 17 [some (2, x0), some (0, x1), some (0, (x2 + 1))] [] S μ4 0 0) ∧ (r4 = (μ4 (μ4 x0 20) x1) → Q x2 μ4)))))))))) : Ex G Φ 3 17 [some (2, x0), some (0, x1), some (0, x2)] [] S μ 0 0 := by
  refine ex_iload_n hΦ dX8_next_17 rfl ?_
  refine ex_sipush hΦ dX8_next_18 (by decide) ?_
  obtain ⟨o1, h⟩ := h
  refine ex_icmp_ge 53 hΦ dX8_next_21 (by decide) o1 ⟨by decide, by decide⟩ (fun c => ?_) (fun c => ?_)
  · have h := h.1 c
    refine ex_iconst hΦ dX8_next_53 ?_
    exact ex_returni hΦ hR dX8_next_54 h
  · have h := h.2 c
    obtain ⟨o2, h⟩ := h
    refine ex_aload_n hΦ dX8_next_24 rfl o2.1 ?_
    refine ex_aload_n hΦ dX8_next_25 rfl o2.1 ?_
    refine ex_getf hΦ fl_X8_39 o2 dX8_next_26 ?_
    refine ex_iload_n hΦ dX8_next_29 rfl ?_
    obtain ⟨o3, h⟩ := h
    refine ex_iald' hΦ o3 dX8_next_30 ?_
    refine ex_iload_n hΦ dX8_next_31 rfl ?_
    refine ex_i2l hΦ dX8_next_32 o1 ?_
    refine ex_callVi [(0, (μ (μ x0 19) x1)), (1, x2)] [(1, x2), (0, (μ (μ x0 19) x1)), (2, x0)] hΦ lkV_X8_227 ⟨by decide, by decide⟩ (Nat.le_of_ble_eq_true rfl) rfl (by decide) 8 (by decide) rfl o2 dX8_next_33 rfl h (fun r4 μ4 h => ?_)
    refine ex_aload_n hΦ dX8_next_36 rfl o2.1 ?_
    refine ex_getf hΦ fl_X8_42 o2 dX8_next_37 ?_
    refine ex_iload_n hΦ dX8_next_40 rfl ?_
    obtain ⟨o5, h⟩ := h
    refine ex_iald' hΦ o5 dX8_next_41 ?_
    obtain ⟨o6, h⟩ := h
    obtain ⟨o7, h⟩ := h
    refine ex_icmp_ne 47 hΦ dX8_next_42 (by decide) o6 o7 (fun c => ?_) (fun c => ?_)
    · have h := h.1 c
      refine ex_iinc (L' := [some (2, x0), some (0, x1), some (0, (x2 + 1))]) hΦ dX8_next_47 rfl (by decide) rfl ?_
      refine ex_goto 17 hΦ dX8_next_50 (by decide) ?_
      exact h
    · have h := h.2 c
      refine ex_iload_n hΦ dX8_next_45 rfl ?_
      exact ex_returni hΦ hR dX8_next_46 h
theorem eX8_next {G : Gm} {S : List Sh} {μ : Mem} {Q : Int → Mem → Prop} {x0 x1 : Int} (h : ∀ Φ : Fr, St G Φ cX8_next RX8 3 6 147 0 0 → Rt G Φ (Pi S Q) 0 0 (some .int) → Ex G Φ 3 0 [some (2, x0), some (0, x1), none] [] S μ 0 0) : Ci G mX8_next [(2, x0), (0, x1)] S μ Q :=
  call_of' (plainFor_of_name (by decide +kernel)) [some (2, x0), some (0, x1), none] rfl (Nat.le_of_ble_eq_true rfl) (fun Φ hΦ hR => h Φ hΦ hR)
theorem bX8_next_0 {G : Gm} {Φ : Fr} {S : List Sh} {μ : Mem} {Q : Int → Mem → Prop} (hΦ : St G Φ cX8_next RX8 3 6 147 0 0) (hR : Rt G Φ (Pi S Q) 0 0 (some .int)) {x0 x1 : Int} (h : So S x0 (.inl 8) ∧ (Ci G mX8_isFeast [(2, x0), (0, x1)] S μ (fun r2 μ2 => R32 r2 ∧ ((r2 ≠ 0 → Cv G mX8_ratesNow [(2, x0)] S μ2 (fun μ4 => Ex G Φ 3 17 [some (2, x0), some (0, x1), some (0, 0)] [] S μ4 0 0)) ∧ (r2 = 0 → Q (-1000000001) μ2))))) : Ex G Φ 3 0 [some (2, x0), some (0, x1), none] [] S μ 0 0 := by
  obtain ⟨o1, h⟩ := h
  refine ex_aload_n hΦ dX8_next_0 rfl o1.1 ?_
  refine ex_iload_n hΦ dX8_next_1 rfl ?_
  refine ex_callVi [(0, x1)] [(0, x1), (2, x0)] hΦ lkV_X8_248 ⟨by decide, by decide⟩ (Nat.le_of_ble_eq_true rfl) rfl (by decide) 8 (by decide) rfl o1 dX8_next_2 rfl h (fun r2 μ2 h => ?_)
  obtain ⟨o3, h⟩ := h
  refine ex_if_ne 11 hΦ dX8_next_5 (by decide) o3 (fun c => ?_) (fun c => ?_)
  · have h := h.1 c
    refine ex_aload_n hΦ dX8_next_11 rfl o1.1 ?_
    refine ex_callVv [] [(2, x0)] hΦ lkV_X8_231 ⟨by decide, by decide⟩ (Nat.le_of_ble_eq_true rfl) rfl (by decide) 8 (by decide) rfl o1 dX8_next_12 rfl h (fun μ4 h => ?_)
    refine ex_iconst hΦ dX8_next_15 ?_
    refine ex_istore_n (L' := [some (2, x0), some (0, x1), some (0, 0)]) hΦ dX8_next_16 (by decide) rfl ?_
    exact h
  · have h := h.2 c
    refine ex_ldc hΦ dX8_next_8 qw1098 ?_
    exact ex_returni hΦ hR dX8_next_10 h
theorem bX8_areAll_5 {G : Gm} {Φ : Fr} {S : List Sh} {μ : Mem} {Q : Int → Mem → Prop} (hΦ : St G Φ cX8_areAll RX8 5 2 48 0 0) (hR : Rt G Φ (Pi S Q) 0 0 (some .boolean)) {x0 x1 x2 x3 x4 : Int} (h : So S x0 (.inl 8) ∧ (R32 x4 ∧ (R32 (μ x0 4) ∧ (((μ x0 4) ≤ x4 → 0 ≤ x3 ∧ (x3 ≤ 1 ∧ Q x3 μ)) ∧ (¬ ((μ x0 4) ≤ x4) → R32 x3 ∧ ((x3 = 0 → 0 ≤ x3 ∧ (x3 ≤ 1 ∧ Q x3 μ)) ∧ (¬ (x3 = 0) → Ci G mX8_has [(0, x1), (0, x4)] S μ (fun r9 μ9 => R32 r9 ∧ ((r9 = 0 → Ex G Φ 5 5 [some (2, x0), some (0, x1), some (0, x2), some (0, 1), some (0, (x4 + 1))] [] S μ9 0 0) ∧ (¬ (r9 = 0) → Ai S (μ9 x0 19) 0 x4 ∧ (R32 x2 ∧ (Ci G mX8_placeIn [(2, x0), (0, (μ9 (μ9 x0 19) x4)), (1, x2)] S μ9 (fun r13 μ13 => Ai S (μ13 x0 20) 0 x4 ∧ (R32 r13 ∧ (R32 (μ13 (μ13 x0 20) x4) ∧ ((r13 ≠ (μ13 (μ13 x0 20) x4) → Ex G Φ 5 5 [some (2, x0), some (0, x1), some (0, x2), some (0, 0), some (0, (x4 + 1))] [] S μ13 0 0) ∧ (r13 = (μ13 (μ13 x0 20) x4) → Ex G Φ 5 5 [some (2, x0), some (0, x1), some (0, x2), some (0, 1), some (0, (x4 + 1))] [] S μ13 0 0))))))))))))))))) : Ex G Φ 5 5 [some (2, x0), some (0, x1), some (0, x2), some (0, x3), some (0, x4)] [] S μ 0 0 := by
  refine ex_iload hΦ dX8_areAll_5 rfl ?_
  obtain ⟨o1, h⟩ := h
  refine ex_aload_n hΦ dX8_areAll_7 rfl o1.1 ?_
  refine ex_getf hΦ fl_X8_183 o1 dX8_areAll_8 ?_
  obtain ⟨o2, h⟩ := h
  obtain ⟨o3, h⟩ := h
  refine ex_icmp_ge 62 hΦ dX8_areAll_11 (by decide) o2 o3 (fun c => ?_) (fun c => ?_)
  · have h := h.1 c
    refine ex_iload_n hΦ dX8_areAll_62 rfl ?_
    obtain ⟨o4, h⟩ := h
    obtain ⟨o5, h⟩ := h
    exact ex_returnz hΦ hR o4 o5 dX8_areAll_63 h
  · have h := h.2 c
    refine ex_iload_n hΦ dX8_areAll_14 rfl ?_
    obtain ⟨o6, h⟩ := h
    refine ex_if_eq 62 hΦ dX8_areAll_15 (by decide) o6 (fun c => ?_) (fun c => ?_)
    · have h := h.1 c
      refine ex_iload_n hΦ dX8_areAll_62 rfl ?_
      obtain ⟨o7, h⟩ := h
      obtain ⟨o8, h⟩ := h
      exact ex_returnz hΦ hR o7 o8 dX8_areAll_63 h
    · have h := h.2 c
      refine ex_iload_n hΦ dX8_areAll_18 rfl ?_
      refine ex_iload hΦ dX8_areAll_19 rfl ?_
      refine ex_callSi [(0, x1), (0, x4)] [(0, x4), (0, x1)] hΦ lkS_X8_192 ⟨by decide, by decide⟩ (Nat.le_of_ble_eq_true rfl) rfl (by decide) dX8_areAll_21 rfl h (fun r9 μ9 h => ?_)
      obtain ⟨o10, h⟩ := h
      refine ex_if_eq 50 hΦ dX8_areAll_24 (by decide) o10 (fun c => ?_) (fun c => ?_)
      · have h := h.1 c
        refine ex_iconst hΦ dX8_areAll_50 ?_
        refine ex_goto 55 hΦ dX8_areAll_51 (by decide) ?_
        refine ex_istore_n (L' := [some (2, x0), some (0, x1), some (0, x2), some (0, 1), some (0, x4)]) hΦ dX8_areAll_55 (by decide) rfl ?_
        refine ex_iinc (L' := [some (2, x0), some (0, x1), some (0, x2), some (0, 1), some (0, (x4 + 1))]) hΦ dX8_areAll_56 rfl (by decide) rfl ?_
        refine ex_goto 5 hΦ dX8_areAll_59 (by decide) ?_
        exact h
      · have h := h.2 c
        refine ex_aload_n hΦ dX8_areAll_27 rfl o1.1 ?_
        refine ex_aload_n hΦ dX8_areAll_28 rfl o1.1 ?_
        refine ex_getf hΦ fl_X8_39 o1 dX8_areAll_29 ?_
        refine ex_iload hΦ dX8_areAll_32 rfl ?_
        obtain ⟨o11, h⟩ := h
        refine ex_iald' hΦ o11 dX8_areAll_34 ?_
        refine ex_iload_n hΦ dX8_areAll_35 rfl ?_
        obtain ⟨o12, h⟩ := h
        refine ex_i2l hΦ dX8_areAll_36 o12 ?_
        refine ex_callVi [(0, (μ9 (μ9 x0 19) x4)), (1, x2)] [(1, x2), (0, (μ9 (μ9 x0 19) x4)), (2, x0)] hΦ lkV_X8_227 ⟨by decide, by decide⟩ (Nat.le_of_ble_eq_true rfl) rfl (by decide) 8 (by decide) rfl o1 dX8_areAll_37 rfl h (fun r13 μ13 h => ?_)
        refine ex_aload_n hΦ dX8_areAll_40 rfl o1.1 ?_
        refine ex_getf hΦ fl_X8_42 o1 dX8_areAll_41 ?_
        refine ex_iload hΦ dX8_areAll_44 rfl ?_
        obtain ⟨o14, h⟩ := h
        refine ex_iald' hΦ o14 dX8_areAll_46 ?_
        obtain ⟨o15, h⟩ := h
        obtain ⟨o16, h⟩ := h
        refine ex_icmp_ne 54 hΦ dX8_areAll_47 (by decide) o15 o16 (fun c => ?_) (fun c => ?_)
        · have h := h.1 c
          refine ex_iconst hΦ dX8_areAll_54 ?_
          refine ex_istore_n (L' := [some (2, x0), some (0, x1), some (0, x2), some (0, 0), some (0, x4)]) hΦ dX8_areAll_55 (by decide) rfl ?_
          refine ex_iinc (L' := [some (2, x0), some (0, x1), some (0, x2), some (0, 0), some (0, (x4 + 1))]) hΦ dX8_areAll_56 rfl (by decide) rfl ?_
          refine ex_goto 5 hΦ dX8_areAll_59 (by decide) ?_
          exact h
        · have h := h.2 c
          refine ex_iconst hΦ dX8_areAll_50 ?_
          refine ex_goto 55 hΦ dX8_areAll_51 (by decide) ?_
          refine ex_istore_n (L' := [some (2, x0), some (0, x1), some (0, x2), some (0, 1), some (0, x4)]) hΦ dX8_areAll_55 (by decide) rfl ?_
          refine ex_iinc (L' := [some (2, x0), some (0, x1), some (0, x2), some (0, 1), some (0, (x4 + 1))]) hΦ dX8_areAll_56 rfl (by decide) rfl ?_
          refine ex_goto 5 hΦ dX8_areAll_59 (by decide) ?_
          exact h
theorem eX8_areAll {G : Gm} {S : List Sh} {μ : Mem} {Q : Int → Mem → Prop} {x0 x1 x2 : Int} (h : ∀ Φ : Fr, St G Φ cX8_areAll RX8 5 2 48 0 0 → Rt G Φ (Pi S Q) 0 0 (some .boolean) → Ex G Φ 5 0 [some (2, x0), some (0, x1), some (0, x2), none, none] [] S μ 0 0) : Ci G mX8_areAll [(2, x0), (0, x1), (0, x2)] S μ Q :=
  call_of' (plainFor_of_name (by decide +kernel)) [some (2, x0), some (0, x1), some (0, x2), none, none] rfl (Nat.le_of_ble_eq_true rfl) (fun Φ hΦ hR => h Φ hΦ hR)
theorem bX8_areAll_0 {G : Gm} {Φ : Fr} {S : List Sh} {μ : Mem} {Q : Int → Mem → Prop} (hΦ : St G Φ cX8_areAll RX8 5 2 48 0 0) (hR : Rt G Φ (Pi S Q) 0 0 (some .boolean)) {x0 x1 x2 : Int} (h : Ex G Φ 5 5 [some (2, x0), some (0, x1), some (0, x2), some (0, 1), some (0, 0)] [] S μ 0 0) : Ex G Φ 5 0 [some (2, x0), some (0, x1), some (0, x2), none, none] [] S μ 0 0 := by
  refine ex_iconst hΦ dX8_areAll_0 ?_
  refine ex_istore_n (L' := [some (2, x0), some (0, x1), some (0, x2), some (0, 1), none]) hΦ dX8_areAll_1 (by decide) rfl ?_
  refine ex_iconst hΦ dX8_areAll_2 ?_
  refine ex_istore (L' := [some (2, x0), some (0, x1), some (0, x2), some (0, 1), some (0, 0)]) hΦ dX8_areAll_3 (by decide) rfl ?_
  exact h
theorem bX8_together_27 {G : Gm} {Φ : Fr} {S : List Sh} {μ : Mem} {Q : Int → Mem → Prop} (hΦ : St G Φ cX8_together RX8 3 6 147 0 0) (hR : Rt G Φ (Pi S Q) 0 0 (some .int)) {x0 x1 x2 : Int} (h : R32 x2 ∧ ((100000 ≤ x2 → Q (-1) μ) ∧ (¬ (100000 ≤ x2) → So S x0 (.inl 8) ∧ (Ci G mX8_areAll [(2, x0), (0, x1), (0, x2)] S μ (fun r3 μ3 => R32 r3 ∧ ((r3 = 0 → Ex G Φ 3 27 [some (2, x0), some (0, x1), some (0, (x2 + 1))] [] S μ3 0 0) ∧ (¬ (r3 = 0) → Q x2 μ3))))))) : Ex G Φ 3 27 [some (2, x0), some (0, x1), some (0, x2)] [] S μ 0 0 := by
  refine ex_iload_n hΦ dX8_together_27 rfl ?_
  refine ex_ldcw hΦ dX8_together_28 qw1178 ?_
  obtain ⟨o1, h⟩ := h
  refine ex_icmp_ge 51 hΦ dX8_together_31 (by decide) o1 ⟨by decide, by decide⟩ (fun c => ?_) (fun c => ?_)
  · have h := h.1 c
    refine ex_iconst hΦ dX8_together_51 ?_
    exact ex_returni hΦ hR dX8_together_52 h
  · have h := h.2 c
    obtain ⟨o2, h⟩ := h
    refine ex_aload_n hΦ dX8_together_34 rfl o2.1 ?_
    refine ex_iload_n hΦ dX8_together_35 rfl ?_
    refine ex_iload_n hΦ dX8_together_36 rfl ?_
    refine ex_callVi [(0, x1), (0, x2)] [(0, x2), (0, x1), (2, x0)] hΦ lkV_X8_286 ⟨by decide, by decide⟩ (Nat.le_of_ble_eq_true rfl) rfl (by decide) 8 (by decide) rfl o2 dX8_together_37 rfl h (fun r3 μ3 h => ?_)
    obtain ⟨o4, h⟩ := h
    refine ex_if_eq 45 hΦ dX8_together_40 (by decide) o4 (fun c => ?_) (fun c => ?_)
    · have h := h.1 c
      refine ex_iinc (L' := [some (2, x0), some (0, x1), some (0, (x2 + 1))]) hΦ dX8_together_45 rfl (by decide) rfl ?_
      refine ex_goto 27 hΦ dX8_together_48 (by decide) ?_
      exact h
    · have h := h.2 c
      refine ex_iload_n hΦ dX8_together_43 rfl ?_
      exact ex_returni hΦ hR dX8_together_44 h
theorem eX8_together {G : Gm} {S : List Sh} {μ : Mem} {Q : Int → Mem → Prop} {x0 x1 : Int} (h : ∀ Φ : Fr, St G Φ cX8_together RX8 3 6 147 0 0 → Rt G Φ (Pi S Q) 0 0 (some .int) → Ex G Φ 3 0 [some (2, x0), some (0, x1), none] [] S μ 0 0) : Ci G mX8_together [(2, x0), (0, x1)] S μ Q :=
  call_of' (plainFor_of_name (by decide +kernel)) [some (2, x0), some (0, x1), none] rfl (Nat.le_of_ble_eq_true rfl) (fun Φ hΦ hR => h Φ hΦ hR)
theorem bX8_together_0 {G : Gm} {Φ : Fr} {S : List Sh} {μ : Mem} {Q : Int → Mem → Prop} (hΦ : St G Φ cX8_together RX8 3 6 147 0 0) (hR : Rt G Φ (Pi S Q) 0 0 (some .int)) {x0 x1 : Int} (h : R32 x1 ∧ (So S x0 (.inl 8) ∧ (0 ≤ (μ x0 4) ∧ ((μ x0 4) ≤ 31 ∧ (R32 ((1 * 2 ^ (Int.toNat (μ x0 4))) - 1) ∧ (Ci G mX8_in [(1, x1), (1, 0), (1, ((1 * 2 ^ (Int.toNat (μ x0 4))) - 1))] S μ (fun r6 μ6 => R32 r6 ∧ ((r6 ≠ 0 → Cv G mX8_ratesNow [(2, x0)] S μ6 (fun μ8 => Ex G Φ 3 27 [some (2, x0), some (0, x1), some (0, 0)] [] S μ8 0 0)) ∧ (r6 = 0 → Q (-1000000001) μ6))))))))) : Ex G Φ 3 0 [some (2, x0), some (0, x1), none] [] S μ 0 0 := by
  refine ex_iload_n hΦ dX8_together_0 rfl ?_
  obtain ⟨o1, h⟩ := h
  refine ex_i2l hΦ dX8_together_1 o1 ?_
  refine ex_lconst (x := 0) hΦ dX8_together_2 (by decide) ?_
  refine ex_iconst hΦ dX8_together_3 ?_
  obtain ⟨o2, h⟩ := h
  refine ex_aload_n hΦ dX8_together_4 rfl o2.1 ?_
  refine ex_getf hΦ fl_X8_183 o2 dX8_together_5 ?_
  obtain ⟨o3, h⟩ := h
  obtain ⟨o4, h⟩ := h
  refine ex_ishl hΦ dX8_together_8 o3 o4 ?_
  refine ex_iconst hΦ dX8_together_9 ?_
  refine ex_isub hΦ dX8_together_10 ?_
  obtain ⟨o5, h⟩ := h
  refine ex_i2l hΦ dX8_together_11 o5 ?_
  refine ex_callSi [(1, x1), (1, 0), (1, ((1 * 2 ^ (Int.toNat (μ x0 4))) - 1))] [(1, ((1 * 2 ^ (Int.toNat (μ x0 4))) - 1)), (1, 0), (1, x1)] hΦ lkS_X8_91 ⟨by decide, by decide⟩ (Nat.le_of_ble_eq_true rfl) rfl (by decide) dX8_together_12 rfl h (fun r6 μ6 h => ?_)
  obtain ⟨o7, h⟩ := h
  refine ex_if_ne 21 hΦ dX8_together_15 (by decide) o7 (fun c => ?_) (fun c => ?_)
  · have h := h.1 c
    refine ex_aload_n hΦ dX8_together_21 rfl o2.1 ?_
    refine ex_callVv [] [(2, x0)] hΦ lkV_X8_231 ⟨by decide, by decide⟩ (Nat.le_of_ble_eq_true rfl) rfl (by decide) 8 (by decide) rfl o2 dX8_together_22 rfl h (fun μ8 h => ?_)
    refine ex_iconst hΦ dX8_together_25 ?_
    refine ex_istore_n (L' := [some (2, x0), some (0, x1), some (0, 0)]) hΦ dX8_together_26 (by decide) rfl ?_
    exact h
  · have h := h.2 c
    refine ex_ldc hΦ dX8_together_18 qw1098 ?_
    exact ex_returni hΦ hR dX8_together_20 h
theorem bX8_again_8 {G : Gm} {Φ : Fr} {S : List Sh} {μ : Mem} {Q : Int → Mem → Prop} (hΦ : St G Φ cX8_again RX8 8 6 147 0 0) (hR : Rt G Φ (Pi S Q) 0 0 (some .int)) {x0 x1 x3 : Int} (h : So S x0 (.inl 8) ∧ (R32 x3 ∧ (R32 (μ x0 2) ∧ (((μ x0 2) ≤ x3 → R64 x1 ∧ ((x1 ≠ 0 → Q x1 μ) ∧ (x1 = 0 → Q (-1) μ))) ∧ (¬ ((μ x0 2) ≤ x3) → Ai S (μ x0 27) 1 x3 ∧ (R64 (μ (μ x0 27) x3) ∧ (((μ (μ x0 27) x3) = 0 → Ex G Φ 8 8 [some (2, x0), some (1, x1), none, some (0, (x3 + 1)), none, none, none, none] [] S μ 0 0) ∧ (¬ ((μ (μ x0 27) x3) = 0) → Ai S (μ x0 13) 0 x3 ∧ (R32 (μ (μ x0 13) x3) ∧ (Ai S (μ x0 28) 1 x3 ∧ (Cj G mX8_common [(1, ((μ (μ x0 13) x3) * (μ (μ x0 28) x3))), (1, (μ (μ x0 27) x3))] S μ (fun r10 μ10 => R64 ((μ (μ x0 13) x3) * (μ (μ x0 28) x3)) ∧ (R64 r10 ∧ (r10 ≠ 0 ∧ (R64 x1 ∧ ((x1 ≠ 0 → Cj G mX8_common [(1, x1), (1, (Int.tdiv ((μ (μ x0 13) x3) * (μ (μ x0 28) x3)) r10))] S μ10 (fun r15 μ15 => R64 r15 ∧ (r15 ≠ 0 ∧ (R64 ((Int.tdiv x1 r15) * (Int.tdiv ((μ (μ x0 13) x3) * (μ (μ x0 28) x3)) r10)) ∧ ((((Int.tdiv x1 r15) * (Int.tdiv ((μ (μ x0 13) x3) * (μ (μ x0 28) x3)) r10)) ≤ 999999999 → Ex G Φ 8 8 [some (2, x0), some (1, ((Int.tdiv x1 r15) * (Int.tdiv ((μ (μ x0 13) x3) * (μ (μ x0 28) x3)) r10))), none, some (0, (x3 + 1)), none, none, none, none] [] S μ15 0 0) ∧ (¬ (((Int.tdiv x1 r15) * (Int.tdiv ((μ (μ x0 13) x3) * (μ (μ x0 28) x3)) r10)) ≤ 999999999) → Q (-1) μ15)))))) ∧ (x1 = 0 → R64 (Int.tdiv ((μ (μ x0 13) x3) * (μ (μ x0 28) x3)) r10) ∧ (((Int.tdiv ((μ (μ x0 13) x3) * (μ (μ x0 28) x3)) r10) ≤ 999999999 → Ex G Φ 8 8 [some (2, x0), some (1, (Int.tdiv ((μ (μ x0 13) x3) * (μ (μ x0 28) x3)) r10)), none, some (0, (x3 + 1)), none, none, none, none] [] S μ10 0 0) ∧ (¬ ((Int.tdiv ((μ (μ x0 13) x3) * (μ (μ x0 28) x3)) r10) ≤ 999999999) → Q (-1) μ10))))))))))))))))))) : Ex G Φ 8 8 [some (2, x0), some (1, x1), none, some (0, x3), none, none, none, none] [] S μ 0 0 := by
  refine ex_iload_n hΦ dX8_again_8 rfl ?_
  obtain ⟨o1, h⟩ := h
  refine ex_aload_n hΦ dX8_again_9 rfl o1.1 ?_
  refine ex_getf hΦ fl_X8_177 o1 dX8_again_10 ?_
  obtain ⟨o2, h⟩ := h
  obtain ⟨o3, h⟩ := h
  refine ex_icmp_ge 98 hΦ dX8_again_13 (by decide) o2 o3 (fun c => ?_) (fun c => ?_)
  · have h := h.1 c
    refine ex_lload_n hΦ dX8_again_98 rfl ?_
    refine ex_lconst (x := 0) hΦ dX8_again_99 (by decide) ?_
    obtain ⟨o4, h⟩ := h
    refine ex_lcmp hΦ dX8_again_100 o4 ⟨by decide, by decide⟩ ?_
    refine ex_lif_ne 108 hΦ dX8_again_101 (by decide) (fun c => ?_) (fun c => ?_)
    · have h := h.1 c
      refine ex_lload_n hΦ dX8_again_108 rfl ?_
      refine ex_l2i hΦ dX8_again_109 ?_
      exact ex_returni hΦ hR dX8_again_110 h
    · have h := h.2 c
      refine ex_iconst hΦ dX8_again_104 ?_
      refine ex_goto 110 hΦ dX8_again_105 (by decide) ?_
      exact ex_returni hΦ hR dX8_again_110 h
  · have h := h.2 c
    refine ex_aload_n hΦ dX8_again_16 rfl o1.1 ?_
    refine ex_getf hΦ fl_X8_51 o1 dX8_again_17 ?_
    refine ex_iload_n hΦ dX8_again_20 rfl ?_
    obtain ⟨o5, h⟩ := h
    refine ex_lald' hΦ o5 dX8_again_21 ?_
    refine ex_lconst (x := 0) hΦ dX8_again_22 (by decide) ?_
    obtain ⟨o6, h⟩ := h
    refine ex_lcmp hΦ dX8_again_23 o6 ⟨by decide, by decide⟩ ?_
    refine ex_lif_eq 92 hΦ dX8_again_24 (by decide) (fun c => ?_) (fun c => ?_)
    · have h := h.1 c
      refine ex_iinc (L' := [some (2, x0), some (1, x1), none, some (0, (x3 + 1)), none, none, none, none]) hΦ dX8_again_92 rfl (by decide) rfl ?_
      refine ex_goto 8 hΦ dX8_again_95 (by decide) ?_
      exact h
    · have h := h.2 c
      refine ex_aload_n hΦ dX8_again_27 rfl o1.1 ?_
      refine ex_getf hΦ fl_X8_21 o1 dX8_again_28 ?_
      refine ex_iload_n hΦ dX8_again_31 rfl ?_
      obtain ⟨o7, h⟩ := h
      refine ex_iald' hΦ o7 dX8_again_32 ?_
      obtain ⟨o8, h⟩ := h
      refine ex_i2l hΦ dX8_again_33 o8 ?_
      refine ex_aload_n hΦ dX8_again_34 rfl o1.1 ?_
      refine ex_getf hΦ fl_X8_55 o1 dX8_again_35 ?_
      refine ex_iload_n hΦ dX8_again_38 rfl ?_
      obtain ⟨o9, h⟩ := h
      refine ex_lald' hΦ o9 dX8_again_39 ?_
      refine ex_lmul hΦ dX8_again_40 ?_
      refine ex_lstore (L' := [some (2, x0), some (1, x1), none, some (0, x3), some (1, ((μ (μ x0 13) x3) * (μ (μ x0 28) x3))), none, none, none]) hΦ dX8_again_41 (by decide) rfl ?_
      refine ex_lload hΦ dX8_again_43 rfl ?_
      refine ex_lload hΦ dX8_again_45 rfl ?_
      refine ex_aload_n hΦ dX8_again_47 rfl o1.1 ?_
      refine ex_getf hΦ fl_X8_51 o1 dX8_again_48 ?_
      refine ex_iload_n hΦ dX8_again_51 rfl ?_
      refine ex_lald' hΦ o5 dX8_again_52 ?_
      refine ex_callSj [(1, ((μ (μ x0 13) x3) * (μ (μ x0 28) x3))), (1, (μ (μ x0 27) x3))] [(1, (μ (μ x0 27) x3)), (1, ((μ (μ x0 13) x3) * (μ (μ x0 28) x3))), (1, ((μ (μ x0 13) x3) * (μ (μ x0 28) x3)))] hΦ lkS_X8_196 ⟨by decide, by decide⟩ (Nat.le_of_ble_eq_true rfl) rfl (by decide) dX8_again_53 rfl h (fun r10 μ10 h => ?_)
      obtain ⟨o11, h⟩ := h
      obtain ⟨o12, h⟩ := h
      obtain ⟨o13, h⟩ := h
      refine ex_ldiv hΦ dX8_again_56 o11 o12 o13 ?_
      refine ex_lstore (L' := [some (2, x0), some (1, x1), none, some (0, x3), some (1, ((μ (μ x0 13) x3) * (μ (μ x0 28) x3))), none, some (1, (Int.tdiv ((μ (μ x0 13) x3) * (μ (μ x0 28) x3)) r10)), none]) hΦ dX8_again_57 (by decide) rfl ?_
      refine ex_lload_n hΦ dX8_again_59 rfl ?_
      refine ex_lconst (x := 0) hΦ dX8_again_60 (by decide) ?_
      obtain ⟨o14, h⟩ := h
      refine ex_lcmp hΦ dX8_again_61 o14 ⟨by decide, by decide⟩ ?_
      refine ex_lif_ne 70 hΦ dX8_again_62 (by decide) (fun c => ?_) (fun c => ?_)
      · have h := h.1 c
        refine ex_lload_n hΦ dX8_again_70 rfl ?_
        refine ex_lload_n hΦ dX8_again_71 rfl ?_
        refine ex_lload hΦ dX8_again_72 rfl ?_
        refine ex_callSj [(1, x1), (1, (Int.tdiv ((μ (μ x0 13) x3) * (μ (μ x0 28) x3)) r10))] [(1, (Int.tdiv ((μ (μ x0 13) x3) * (μ (μ x0 28) x3)) r10)), (1, x1), (1, x1)] hΦ lkS_X8_196 ⟨by decide, by decide⟩ (Nat.le_of_ble_eq_true rfl) rfl (by decide) dX8_again_74 rfl h (fun r15 μ15 h => ?_)
        obtain ⟨o16, h⟩ := h
        obtain ⟨o17, h⟩ := h
        refine ex_ldiv hΦ dX8_again_77 o14 o16 o17 ?_
        refine ex_lload hΦ dX8_again_78 rfl ?_
        refine ex_lmul hΦ dX8_again_80 ?_
        refine ex_lstore_n (L' := [some (2, x0), some (1, ((Int.tdiv x1 r15) * (Int.tdiv ((μ (μ x0 13) x3) * (μ (μ x0 28) x3)) r10))), none, some (0, x3), some (1, ((μ (μ x0 13) x3) * (μ (μ x0 28) x3))), none, some (1, (Int.tdiv ((μ (μ x0 13) x3) * (μ (μ x0 28) x3)) r10)), none]) hΦ dX8_again_81 (by decide) rfl ?_
        refine ex_lload_n hΦ dX8_again_82 rfl ?_
        refine ex_ldc2 hΦ dX8_again_83 qw1187 ?_
        obtain ⟨o18, h⟩ := h
        refine ex_lcmp hΦ dX8_again_86 o18 ⟨by decide, by decide⟩ ?_
        refine ex_lif_le 92 hΦ dX8_again_87 (by decide) (fun c => ?_) (fun c => ?_)
        · have h := h.1 c
          refine ex_iinc (L' := [some (2, x0), some (1, ((Int.tdiv x1 r15) * (Int.tdiv ((μ (μ x0 13) x3) * (μ (μ x0 28) x3)) r10))), none, some (0, (x3 + 1)), some (1, ((μ (μ x0 13) x3) * (μ (μ x0 28) x3))), none, some (1, (Int.tdiv ((μ (μ x0 13) x3) * (μ (μ x0 28) x3)) r10)), none]) hΦ dX8_again_92 rfl (by decide) rfl ?_
          refine ex_goto 8 hΦ dX8_again_95 (by decide) ?_
          refine ex_forget (L' := [some (2, x0), some (1, ((Int.tdiv x1 r15) * (Int.tdiv ((μ (μ x0 13) x3) * (μ (μ x0 28) x3)) r10))), none, some (0, (x3 + 1)), none, none, none, none]) [4, 6] rfl ?_
          exact h
        · have h := h.2 c
          refine ex_iconst hΦ dX8_again_90 ?_
          exact ex_returni hΦ hR dX8_again_91 h
      · have h := h.2 c
        refine ex_lload hΦ dX8_again_65 rfl ?_
        refine ex_goto 81 hΦ dX8_again_67 (by decide) ?_
        refine ex_lstore_n (L' := [some (2, x0), some (1, (Int.tdiv ((μ (μ x0 13) x3) * (μ (μ x0 28) x3)) r10)), none, some (0, x3), some (1, ((μ (μ x0 13) x3) * (μ (μ x0 28) x3))), none, some (1, (Int.tdiv ((μ (μ x0 13) x3) * (μ (μ x0 28) x3)) r10)), none]) hΦ dX8_again_81 (by decide) rfl ?_
        refine ex_lload_n hΦ dX8_again_82 rfl ?_
        refine ex_ldc2 hΦ dX8_again_83 qw1187 ?_
        obtain ⟨o19, h⟩ := h
        refine ex_lcmp hΦ dX8_again_86 o19 ⟨by decide, by decide⟩ ?_
        refine ex_lif_le 92 hΦ dX8_again_87 (by decide) (fun c => ?_) (fun c => ?_)
        · have h := h.1 c
          refine ex_iinc (L' := [some (2, x0), some (1, (Int.tdiv ((μ (μ x0 13) x3) * (μ (μ x0 28) x3)) r10)), none, some (0, (x3 + 1)), some (1, ((μ (μ x0 13) x3) * (μ (μ x0 28) x3))), none, some (1, (Int.tdiv ((μ (μ x0 13) x3) * (μ (μ x0 28) x3)) r10)), none]) hΦ dX8_again_92 rfl (by decide) rfl ?_
          refine ex_goto 8 hΦ dX8_again_95 (by decide) ?_
          refine ex_forget (L' := [some (2, x0), some (1, (Int.tdiv ((μ (μ x0 13) x3) * (μ (μ x0 28) x3)) r10)), none, some (0, (x3 + 1)), none, none, none, none]) [4, 6] rfl ?_
          exact h
        · have h := h.2 c
          refine ex_iconst hΦ dX8_again_90 ?_
          exact ex_returni hΦ hR dX8_again_91 h
theorem eX8_again {G : Gm} {S : List Sh} {μ : Mem} {Q : Int → Mem → Prop} {x0 : Int} (h : ∀ Φ : Fr, St G Φ cX8_again RX8 8 6 147 0 0 → Rt G Φ (Pi S Q) 0 0 (some .int) → Ex G Φ 8 0 [some (2, x0), none, none, none, none, none, none, none] [] S μ 0 0) : Ci G mX8_again [(2, x0)] S μ Q :=
  call_of' (plainFor_of_name (by decide +kernel)) [some (2, x0), none, none, none, none, none, none, none] rfl (Nat.le_of_ble_eq_true rfl) (fun Φ hΦ hR => h Φ hΦ hR)
theorem bX8_again_0 {G : Gm} {Φ : Fr} {S : List Sh} {μ : Mem} {Q : Int → Mem → Prop} (hΦ : St G Φ cX8_again RX8 8 6 147 0 0) (hR : Rt G Φ (Pi S Q) 0 0 (some .int)) {x0 : Int} (h : So S x0 (.inl 8) ∧ Cv G mX8_ratesNow [(2, x0)] S μ (fun μ2 => Ex G Φ 8 8 [some (2, x0), some (1, 0), none, some (0, 0), none, none, none, none] [] S μ2 0 0)) : Ex G Φ 8 0 [some (2, x0), none, none, none, none, none, none, none] [] S μ 0 0 := by
  obtain ⟨o1, h⟩ := h
  refine ex_aload_n hΦ dX8_again_0 rfl o1.1 ?_
  refine ex_callVv [] [(2, x0)] hΦ lkV_X8_231 ⟨by decide, by decide⟩ (Nat.le_of_ble_eq_true rfl) rfl (by decide) 8 (by decide) rfl o1 dX8_again_1 rfl h (fun μ2 h => ?_)
  refine ex_lconst (x := 0) hΦ dX8_again_4 (by decide) ?_
  refine ex_lstore_n (L' := [some (2, x0), some (1, 0), none, none, none, none, none, none]) hΦ dX8_again_5 (by decide) rfl ?_
  refine ex_iconst hΦ dX8_again_6 ?_
  refine ex_istore_n (L' := [some (2, x0), some (1, 0), none, some (0, 0), none, none, none, none]) hΦ dX8_again_7 (by decide) rfl ?_
  exact h
theorem bX8_added_69 {G : Gm} {Φ : Fr} {S : List Sh} {μ : Mem} {Q : Int → Mem → Prop} (hΦ : St G Φ cX8_added RX8 9 6 147 0 0) (hR : Rt G Φ (Pi S Q) 0 0 (some .int)) {x0 x1 x2 x3 x4 x5 x7 x8 : Int} (h : R32 x8 ∧ ((31 ≤ x8 → R32 x4 ∧ ((x4 ≠ (-1) → Q (-1) μ) ∧ (x4 = (-1) → Q x7 μ))) ∧ (¬ (31 ≤ x8) → Ci G mX8_over [(1, x5), (0, x8)] S μ (fun r3 μ3 => R32 r3 ∧ (R32 x2 ∧ ((r3 ≠ x2 → Ex G Φ 9 69 [some (2, x0), some (0, x1), some (0, x2), some (0, x3), some (0, x4), some (1, x5), none, some (0, x7), some (0, (x8 + 1))] [] S μ3 0 0) ∧ (r3 = x2 → R32 x7 ∧ (R32 x4 ∧ ((x7 ≠ x4 → Ex G Φ 9 69 [some (2, x0), some (0, x1), some (0, x2), some (0, x3), some (0, x4), some (1, x5), none, some (0, (x7 + 1)), some (0, (x8 + 1))] [] S μ3 0 0) ∧ (x7 = x4 → Q x8 μ3)))))))))) : Ex G Φ 9 69 [some (2, x0), some (0, x1), some (0, x2), some (0, x3), some (0, x4), some (1, x5), none, some (0, x7), some (0, x8)] [] S μ 0 0 := by
  refine ex_iload hΦ dX8_added_69 rfl ?_
  refine ex_bipush hΦ dX8_added_71 (by decide) ?_
  obtain ⟨o1, h⟩ := h
  refine ex_icmp_ge 106 hΦ dX8_added_73 (by decide) o1 ⟨by decide, by decide⟩ (fun c => ?_) (fun c => ?_)
  · have h := h.1 c
    refine ex_iload hΦ dX8_added_106 rfl ?_
    refine ex_iconst hΦ dX8_added_108 ?_
    obtain ⟨o2, h⟩ := h
    refine ex_icmp_ne 117 hΦ dX8_added_109 (by decide) o2 ⟨by decide, by decide⟩ (fun c => ?_) (fun c => ?_)
    · have h := h.1 c
      refine ex_iconst hΦ dX8_added_117 ?_
      exact ex_returni hΦ hR dX8_added_118 h
    · have h := h.2 c
      refine ex_iload hΦ dX8_added_112 rfl ?_
      refine ex_goto 118 hΦ dX8_added_114 (by decide) ?_
      exact ex_returni hΦ hR dX8_added_118 h
  · have h := h.2 c
    refine ex_lload hΦ dX8_added_76 rfl ?_
    refine ex_iload hΦ dX8_added_78 rfl ?_
    refine ex_callSi [(1, x5), (0, x8)] [(0, x8), (1, x5)] hΦ lkS_X8_223 ⟨by decide, by decide⟩ (Nat.le_of_ble_eq_true rfl) rfl (by decide) dX8_added_80 rfl h (fun r3 μ3 h => ?_)
    refine ex_iload_n hΦ dX8_added_83 rfl ?_
    obtain ⟨o4, h⟩ := h
    obtain ⟨o5, h⟩ := h
    refine ex_icmp_ne 100 hΦ dX8_added_84 (by decide) o4 o5 (fun c => ?_) (fun c => ?_)
    · have h := h.1 c
      refine ex_iinc (L' := [some (2, x0), some (0, x1), some (0, x2), some (0, x3), some (0, x4), some (1, x5), none, some (0, x7), some (0, (x8 + 1))]) hΦ dX8_added_100 rfl (by decide) rfl ?_
      refine ex_goto 69 hΦ dX8_added_103 (by decide) ?_
      exact h
    · have h := h.2 c
      refine ex_iload hΦ dX8_added_87 rfl ?_
      refine ex_iload hΦ dX8_added_89 rfl ?_
      obtain ⟨o6, h⟩ := h
      obtain ⟨o7, h⟩ := h
      refine ex_icmp_ne 97 hΦ dX8_added_91 (by decide) o6 o7 (fun c => ?_) (fun c => ?_)
      · have h := h.1 c
        refine ex_iinc (L' := [some (2, x0), some (0, x1), some (0, x2), some (0, x3), some (0, x4), some (1, x5), none, some (0, (x7 + 1)), some (0, x8)]) hΦ dX8_added_97 rfl (by decide) rfl ?_
        refine ex_iinc (L' := [some (2, x0), some (0, x1), some (0, x2), some (0, x3), some (0, x4), some (1, x5), none, some (0, (x7 + 1)), some (0, (x8 + 1))]) hΦ dX8_added_100 rfl (by decide) rfl ?_
        refine ex_goto 69 hΦ dX8_added_103 (by decide) ?_
        exact h
      · have h := h.2 c
        refine ex_iload hΦ dX8_added_94 rfl ?_
        exact ex_returni hΦ hR dX8_added_96 h
theorem eX8_added {G : Gm} {S : List Sh} {μ : Mem} {Q : Int → Mem → Prop} {x0 x1 x2 x3 x4 : Int} (h : ∀ Φ : Fr, St G Φ cX8_added RX8 9 6 147 0 0 → Rt G Φ (Pi S Q) 0 0 (some .int) → Ex G Φ 9 0 [some (2, x0), some (0, x1), some (0, x2), some (0, x3), some (0, x4), none, none, none, none] [] S μ 0 0) : Ci G mX8_added [(2, x0), (0, x1), (0, x2), (0, x3), (0, x4)] S μ Q :=
  call_of' (plainFor_of_name (by decide +kernel)) [some (2, x0), some (0, x1), some (0, x2), some (0, x3), some (0, x4), none, none, none, none] rfl (Nat.le_of_ble_eq_true rfl) (fun Φ hΦ hR => h Φ hΦ hR)
theorem bX8_added_0 {G : Gm} {Φ : Fr} {S : List Sh} {μ : Mem} {Q : Int → Mem → Prop} (hΦ : St G Φ cX8_added RX8 9 6 147 0 0) (hR : Rt G Φ (Pi S Q) 0 0 (some .int)) {x0 x1 x2 x3 x4 : Int} (h : So S x0 (.inl 8) ∧ (Ci G mX8_isWheel [(2, x0), (0, x1)] S μ (fun r2 μ2 => R32 r2 ∧ ((r2 ≠ 0 → R32 x2 ∧ (Ci G mX8_in [(1, x2), (1, 0), (1, 29)] S μ2 (fun r5 μ5 => R32 r5 ∧ ((r5 = 0 → Q (-1000000002) μ5) ∧ (¬ (r5 = 0) → R32 x3 ∧ (Ci G mX8_in [(1, x3), (1, 0), (1, 9999)] S μ5 (fun r8 μ8 => R32 r8 ∧ ((r8 ≠ 0 → Cv G mX8_ratesNow [(2, x0)] S μ8 (fun μ10 => Ai S (μ10 x0 27) 1 x1 ∧ (Ai S (μ10 x0 28) 1 x1 ∧ Cj G mX8_down [(1, ((-(μ10 (μ10 x0 27) x1)) * x3)), (1, (μ10 (μ10 x0 28) x1))] S μ10 (fun r13 μ13 => Ex G Φ 9 69 [some (2, x0), some (0, x1), some (0, x2), some (0, x3), some (0, x4), some (1, r13), none, some (0, 0), some (0, 3)] [] S μ13 0 0)))) ∧ (r8 = 0 → Q (-1000000002) μ8))))))))) ∧ (r2 = 0 → Q (-1000000001) μ2))))) : Ex G Φ 9 0 [some (2, x0), some (0, x1), some (0, x2), some (0, x3), some (0, x4), none, none, none, none] [] S μ 0 0 := by
  obtain ⟨o1, h⟩ := h
  refine ex_aload_n hΦ dX8_added_0 rfl o1.1 ?_
  refine ex_iload_n hΦ dX8_added_1 rfl ?_
  refine ex_callVi [(0, x1)] [(0, x1), (2, x0)] hΦ lkV_X8_240 ⟨by decide, by decide⟩ (Nat.le_of_ble_eq_true rfl) rfl (by decide) 8 (by decide) rfl o1 dX8_added_2 rfl h (fun r2 μ2 h => ?_)
  obtain ⟨o3, h⟩ := h
  refine ex_if_ne 11 hΦ dX8_added_5 (by decide) o3 (fun c => ?_) (fun c => ?_)
  · have h := h.1 c
    refine ex_iload_n hΦ dX8_added_11 rfl ?_
    obtain ⟨o4, h⟩ := h
    refine ex_i2l hΦ dX8_added_12 o4 ?_
    refine ex_lconst (x := 0) hΦ dX8_added_13 (by decide) ?_
    refine ex_ldc2 hΦ dX8_added_14 qw1192 ?_
    refine ex_callSi [(1, x2), (1, 0), (1, 29)] [(1, 29), (1, 0), (1, x2)] hΦ lkS_X8_91 ⟨by decide, by decide⟩ (Nat.le_of_ble_eq_true rfl) rfl (by decide) dX8_added_17 rfl h (fun r5 μ5 h => ?_)
    obtain ⟨o6, h⟩ := h
    refine ex_if_eq 35 hΦ dX8_added_20 (by decide) o6 (fun c => ?_) (fun c => ?_)
    · have h := h.1 c
      refine ex_ldc hΦ dX8_added_35 qw984 ?_
      exact ex_returni hΦ hR dX8_added_37 h
    · have h := h.2 c
      refine ex_iload_n hΦ dX8_added_23 rfl ?_
      obtain ⟨o7, h⟩ := h
      refine ex_i2l hΦ dX8_added_24 o7 ?_
      refine ex_lconst (x := 0) hΦ dX8_added_25 (by decide) ?_
      refine ex_ldc2 hΦ dX8_added_26 qw1124 ?_
      refine ex_callSi [(1, x3), (1, 0), (1, 9999)] [(1, 9999), (1, 0), (1, x3)] hΦ lkS_X8_91 ⟨by decide, by decide⟩ (Nat.le_of_ble_eq_true rfl) rfl (by decide) dX8_added_29 rfl h (fun r8 μ8 h => ?_)
      obtain ⟨o9, h⟩ := h
      refine ex_if_ne 38 hΦ dX8_added_32 (by decide) o9 (fun c => ?_) (fun c => ?_)
      · have h := h.1 c
        refine ex_aload_n hΦ dX8_added_38 rfl o1.1 ?_
        refine ex_callVv [] [(2, x0)] hΦ lkV_X8_231 ⟨by decide, by decide⟩ (Nat.le_of_ble_eq_true rfl) rfl (by decide) 8 (by decide) rfl o1 dX8_added_39 rfl h (fun μ10 h => ?_)
        refine ex_aload_n hΦ dX8_added_42 rfl o1.1 ?_
        refine ex_getf hΦ fl_X8_51 o1 dX8_added_43 ?_
        refine ex_iload_n hΦ dX8_added_46 rfl ?_
        obtain ⟨o11, h⟩ := h
        refine ex_lald' hΦ o11 dX8_added_47 ?_
        refine ex_lneg hΦ dX8_added_48 ?_
        refine ex_iload_n hΦ dX8_added_49 rfl ?_
        refine ex_i2l hΦ dX8_added_50 o7 ?_
        refine ex_lmul hΦ dX8_added_51 ?_
        refine ex_aload_n hΦ dX8_added_52 rfl o1.1 ?_
        refine ex_getf hΦ fl_X8_55 o1 dX8_added_53 ?_
        refine ex_iload_n hΦ dX8_added_56 rfl ?_
        obtain ⟨o12, h⟩ := h
        refine ex_lald' hΦ o12 dX8_added_57 ?_
        refine ex_callSj [(1, ((-(μ10 (μ10 x0 27) x1)) * x3)), (1, (μ10 (μ10 x0 28) x1))] [(1, (μ10 (μ10 x0 28) x1)), (1, ((-(μ10 (μ10 x0 27) x1)) * x3))] hΦ lkS_X8_220 ⟨by decide, by decide⟩ (Nat.le_of_ble_eq_true rfl) rfl (by decide) dX8_added_58 rfl h (fun r13 μ13 h => ?_)
        refine ex_lstore (L' := [some (2, x0), some (0, x1), some (0, x2), some (0, x3), some (0, x4), some (1, r13), none, none, none]) hΦ dX8_added_61 (by decide) rfl ?_
        refine ex_iconst hΦ dX8_added_63 ?_
        refine ex_istore (L' := [some (2, x0), some (0, x1), some (0, x2), some (0, x3), some (0, x4), some (1, r13), none, some (0, 0), none]) hΦ dX8_added_64 (by decide) rfl ?_
        refine ex_iconst hΦ dX8_added_66 ?_
        refine ex_istore (L' := [some (2, x0), some (0, x1), some (0, x2), some (0, x3), some (0, x4), some (1, r13), none, some (0, 0), some (0, 3)]) hΦ dX8_added_67 (by decide) rfl ?_
        exact h
      · have h := h.2 c
        refine ex_ldc hΦ dX8_added_35 qw984 ?_
        exact ex_returni hΦ hR dX8_added_37 h
  · have h := h.2 c
    refine ex_ldc hΦ dX8_added_8 qw1098 ?_
    exact ex_returni hΦ hR dX8_added_10 h
theorem bX8_alike_72 {G : Gm} {Φ : Fr} {S : List Sh} {μ : Mem} {Q : Int → Mem → Prop} (hΦ : St G Φ cX8_alike RX8 3 6 147 0 0) (hR : Rt G Φ (Pi S Q) 0 0 (some .int)) {x0 x1 x2 t0 : Int} (h : So S x0 (.inl 8) ∧ (Ai S (μ x0 27) 1 x2 ∧ (R64 (μ (μ x0 27) x2) ∧ (((μ (μ x0 27) x2) ≤ 0 → R32 t0 ∧ ((t0 ≠ 0 → Ci G mX8_one [(0, 0)] S μ (fun r5 μ5 => Q r5 μ5)) ∧ (t0 = 0 → Ci G mX8_one [(0, 1)] S μ (fun r6 μ6 => Q r6 μ6)))) ∧ (¬ ((μ (μ x0 27) x2) ≤ 0) → R32 t0 ∧ ((t0 ≠ 1 → Ci G mX8_one [(0, 0)] S μ (fun r8 μ8 => Q r8 μ8)) ∧ (t0 = 1 → Ci G mX8_one [(0, 1)] S μ (fun r9 μ9 => Q r9 μ9)))))))) : Ex G Φ 3 72 [some (2, x0), some (0, x1), some (0, x2)] [(0, t0)] S μ 0 0 := by
  obtain ⟨o1, h⟩ := h
  refine ex_aload_n hΦ dX8_alike_72 rfl o1.1 ?_
  refine ex_getf hΦ fl_X8_51 o1 dX8_alike_73 ?_
  refine ex_iload_n hΦ dX8_alike_76 rfl ?_
  obtain ⟨o2, h⟩ := h
  refine ex_lald' hΦ o2 dX8_alike_77 ?_
  refine ex_lconst (x := 0) hΦ dX8_alike_78 (by decide) ?_
  obtain ⟨o3, h⟩ := h
  refine ex_lcmp hΦ dX8_alike_79 o3 ⟨by decide, by decide⟩ ?_
  refine ex_lif_le 87 hΦ dX8_alike_80 (by decide) (fun c => ?_) (fun c => ?_)
  · have h := h.1 c
    refine ex_iconst hΦ dX8_alike_87 ?_
    obtain ⟨o4, h⟩ := h
    refine ex_icmp_ne 95 hΦ dX8_alike_88 (by decide) o4 ⟨by decide, by decide⟩ (fun c => ?_) (fun c => ?_)
    · have h := h.1 c
      refine ex_iconst hΦ dX8_alike_95 ?_
      refine ex_callSi [(0, 0)] [(0, 0)] hΦ lkS_X8_217 ⟨by decide, by decide⟩ (Nat.le_of_ble_eq_true rfl) rfl (by decide) dX8_alike_96 rfl h (fun r5 μ5 h => ?_)
      exact ex_returni hΦ hR dX8_alike_99 h
    · have h := h.2 c
      refine ex_iconst hΦ dX8_alike_91 ?_
      refine ex_goto 96 hΦ dX8_alike_92 (by decide) ?_
      refine ex_callSi [(0, 1)] [(0, 1)] hΦ lkS_X8_217 ⟨by decide, by decide⟩ (Nat.le_of_ble_eq_true rfl) rfl (by decide) dX8_alike_96 rfl h (fun r6 μ6 h => ?_)
      exact ex_returni hΦ hR dX8_alike_99 h
  · have h := h.2 c
    refine ex_iconst hΦ dX8_alike_83 ?_
    refine ex_goto 88 hΦ dX8_alike_84 (by decide) ?_
    obtain ⟨o7, h⟩ := h
    refine ex_icmp_ne 95 hΦ dX8_alike_88 (by decide) o7 ⟨by decide, by decide⟩ (fun c => ?_) (fun c => ?_)
    · have h := h.1 c
      refine ex_iconst hΦ dX8_alike_95 ?_
      refine ex_callSi [(0, 0)] [(0, 0)] hΦ lkS_X8_217 ⟨by decide, by decide⟩ (Nat.le_of_ble_eq_true rfl) rfl (by decide) dX8_alike_96 rfl h (fun r8 μ8 h => ?_)
      exact ex_returni hΦ hR dX8_alike_99 h
    · have h := h.2 c
      refine ex_iconst hΦ dX8_alike_91 ?_
      refine ex_goto 96 hΦ dX8_alike_92 (by decide) ?_
      refine ex_callSi [(0, 1)] [(0, 1)] hΦ lkS_X8_217 ⟨by decide, by decide⟩ (Nat.le_of_ble_eq_true rfl) rfl (by decide) dX8_alike_96 rfl h (fun r9 μ9 h => ?_)
      exact ex_returni hΦ hR dX8_alike_99 h
theorem eX8_alike {G : Gm} {S : List Sh} {μ : Mem} {Q : Int → Mem → Prop} {x0 x1 x2 : Int} (h : ∀ Φ : Fr, St G Φ cX8_alike RX8 3 6 147 0 0 → Rt G Φ (Pi S Q) 0 0 (some .int) → Ex G Φ 3 0 [some (2, x0), some (0, x1), some (0, x2)] [] S μ 0 0) : Ci G mX8_alike [(2, x0), (0, x1), (0, x2)] S μ Q :=
  call_of' (plainFor_of_name (by decide +kernel)) [some (2, x0), some (0, x1), some (0, x2)] rfl (Nat.le_of_ble_eq_true rfl) (fun Φ hΦ hR => h Φ hΦ hR)
theorem bX8_alike_0 {G : Gm} {Φ : Fr} {S : List Sh} {μ : Mem} {Q : Int → Mem → Prop} (hΦ : St G Φ cX8_alike RX8 3 6 147 0 0) (hR : Rt G Φ (Pi S Q) 0 0 (some .int)) {x0 x1 x2 : Int} (h : So S x0 (.inl 8) ∧ (Ci G mX8_isWheel [(2, x0), (0, x1)] S μ (fun r2 μ2 => R32 r2 ∧ ((r2 = 0 → Q (-1000000001) μ2) ∧ (¬ (r2 = 0) → Ci G mX8_isWheel [(2, x0), (0, x2)] S μ2 (fun r4 μ4 => R32 r4 ∧ ((r4 = 0 → Q (-1000000001) μ4) ∧ (¬ (r4 = 0) → R32 x1 ∧ (R32 x2 ∧ ((x1 ≠ x2 → Cv G mX8_ratesNow [(2, x0)] S μ4 (fun μ8 => Ai S (μ8 x0 27) 1 x1 ∧ (R64 (μ8 (μ8 x0 27) x1) ∧ (((μ8 (μ8 x0 27) x1) = 0 → Q (-1000000003) μ8) ∧ (¬ ((μ8 (μ8 x0 27) x1) = 0) → Ai S (μ8 x0 27) 1 x2 ∧ (R64 (μ8 (μ8 x0 27) x2) ∧ (((μ8 (μ8 x0 27) x2) ≠ 0 → ((μ8 (μ8 x0 27) x1) ≤ 0 → Ex G Φ 3 72 [some (2, x0), some (0, x1), some (0, x2)] [(0, 0)] S μ8 0 0) ∧ (¬ ((μ8 (μ8 x0 27) x1) ≤ 0) → Ex G Φ 3 72 [some (2, x0), some (0, x1), some (0, x2)] [(0, 1)] S μ8 0 0)) ∧ ((μ8 (μ8 x0 27) x2) = 0 → Q (-1000000003) μ8)))))))) ∧ (x1 = x2 → Q (-1000000001) μ4))))))))))) : Ex G Φ 3 0 [some (2, x0), some (0, x1), some (0, x2)] [] S μ 0 0 := by
  obtain ⟨o1, h⟩ := h
  refine ex_aload_n hΦ dX8_alike_0 rfl o1.1 ?_
  refine ex_iload_n hΦ dX8_alike_1 rfl ?_
  refine ex_callVi [(0, x1)] [(0, x1), (2, x0)] hΦ lkV_X8_240 ⟨by decide, by decide⟩ (Nat.le_of_ble_eq_true rfl) rfl (by decide) 8 (by decide) rfl o1 dX8_alike_2 rfl h (fun r2 μ2 h => ?_)
  obtain ⟨o3, h⟩ := h
  refine ex_if_eq 21 hΦ dX8_alike_5 (by decide) o3 (fun c => ?_) (fun c => ?_)
  · have h := h.1 c
    refine ex_ldc hΦ dX8_alike_21 qw1098 ?_
    exact ex_returni hΦ hR dX8_alike_23 h
  · have h := h.2 c
    refine ex_aload_n hΦ dX8_alike_8 rfl o1.1 ?_
    refine ex_iload_n hΦ dX8_alike_9 rfl ?_
    refine ex_callVi [(0, x2)] [(0, x2), (2, x0)] hΦ lkV_X8_240 ⟨by decide, by decide⟩ (Nat.le_of_ble_eq_true rfl) rfl (by decide) 8 (by decide) rfl o1 dX8_alike_10 rfl h (fun r4 μ4 h => ?_)
    obtain ⟨o5, h⟩ := h
    refine ex_if_eq 21 hΦ dX8_alike_13 (by decide) o5 (fun c => ?_) (fun c => ?_)
    · have h := h.1 c
      refine ex_ldc hΦ dX8_alike_21 qw1098 ?_
      exact ex_returni hΦ hR dX8_alike_23 h
    · have h := h.2 c
      refine ex_iload_n hΦ dX8_alike_16 rfl ?_
      refine ex_iload_n hΦ dX8_alike_17 rfl ?_
      obtain ⟨o6, h⟩ := h
      obtain ⟨o7, h⟩ := h
      refine ex_icmp_ne 24 hΦ dX8_alike_18 (by decide) o6 o7 (fun c => ?_) (fun c => ?_)
      · have h := h.1 c
        refine ex_aload_n hΦ dX8_alike_24 rfl o1.1 ?_
        refine ex_callVv [] [(2, x0)] hΦ lkV_X8_231 ⟨by decide, by decide⟩ (Nat.le_of_ble_eq_true rfl) rfl (by decide) 8 (by decide) rfl o1 dX8_alike_25 rfl h (fun μ8 h => ?_)
        refine ex_aload_n hΦ dX8_alike_28 rfl o1.1 ?_
        refine ex_getf hΦ fl_X8_51 o1 dX8_alike_29 ?_
        refine ex_iload_n hΦ dX8_alike_32 rfl ?_
        obtain ⟨o9, h⟩ := h
        refine ex_lald' hΦ o9 dX8_alike_33 ?_
        refine ex_lconst (x := 0) hΦ dX8_alike_34 (by decide) ?_
        obtain ⟨o10, h⟩ := h
        refine ex_lcmp hΦ dX8_alike_35 o10 ⟨by decide, by decide⟩ ?_
        refine ex_lif_eq 50 hΦ dX8_alike_36 (by decide) (fun c => ?_) (fun c => ?_)
        · have h := h.1 c
          refine ex_ldcw hΦ dX8_alike_50 qw1125 ?_
          refine ex_goto 99 hΦ dX8_alike_53 (by decide) ?_
          exact ex_returni hΦ hR dX8_alike_99 h
        · have h := h.2 c
          refine ex_aload_n hΦ dX8_alike_39 rfl o1.1 ?_
          refine ex_getf hΦ fl_X8_51 o1 dX8_alike_40 ?_
          refine ex_iload_n hΦ dX8_alike_43 rfl ?_
          obtain ⟨o11, h⟩ := h
          refine ex_lald' hΦ o11 dX8_alike_44 ?_
          refine ex_lconst (x := 0) hΦ dX8_alike_45 (by decide) ?_
          obtain ⟨o12, h⟩ := h
          refine ex_lcmp hΦ dX8_alike_46 o12 ⟨by decide, by decide⟩ ?_
          refine ex_lif_ne 56 hΦ dX8_alike_47 (by decide) (fun c => ?_) (fun c => ?_)
          · have h := h.1 c
            refine ex_aload_n hΦ dX8_alike_56 rfl o1.1 ?_
            refine ex_getf hΦ fl_X8_51 o1 dX8_alike_57 ?_
            refine ex_iload_n hΦ dX8_alike_60 rfl ?_
            refine ex_lald' hΦ o9 dX8_alike_61 ?_
            refine ex_lconst (x := 0) hΦ dX8_alike_62 (by decide) ?_
            refine ex_lcmp hΦ dX8_alike_63 o10 ⟨by decide, by decide⟩ ?_
            refine ex_lif_le 71 hΦ dX8_alike_64 (by decide) (fun c => ?_) (fun c => ?_)
            · have h := h.1 c
              refine ex_iconst hΦ dX8_alike_71 ?_
              exact h
            · have h := h.2 c
              refine ex_iconst hΦ dX8_alike_67 ?_
              refine ex_goto 72 hΦ dX8_alike_68 (by decide) ?_
              exact h
          · have h := h.2 c
            refine ex_ldcw hΦ dX8_alike_50 qw1125 ?_
            refine ex_goto 99 hΦ dX8_alike_53 (by decide) ?_
            exact ex_returni hΦ hR dX8_alike_99 h
      · have h := h.2 c
        refine ex_ldc hΦ dX8_alike_21 qw1098 ?_
        exact ex_returni hΦ hR dX8_alike_23 h
theorem bX8_meshing_4 {G : Gm} {Φ : Fr} {S : List Sh} {μ : Mem} {Q : Int → Mem → Prop} (hΦ : St G Φ cX8_meshing RX8 3 1 21 0 0) (hR : Rt G Φ (Pi S Q) 0 0 (some .int)) {x0 x1 x2 : Int} (h : So S x0 (.inl 8) ∧ (R32 x2 ∧ (R32 (μ x0 3) ∧ (((μ x0 3) ≤ x2 → Q x1 μ) ∧ (¬ ((μ x0 3) ≤ x2) → Ai S (μ x0 15) 0 x2 ∧ (R32 (μ (μ x0 15) x2) ∧ (((μ (μ x0 15) x2) ≠ 0 → Ci G mX8_one [(0, 0)] S μ (fun r6 μ6 => 0 ≤ x2 ∧ (x2 ≤ 31 ∧ Ex G Φ 3 4 [some (2, x0), some (0, (mor x1 (r6 * 2 ^ (Int.toNat x2)))), some (0, (x2 + 1))] [] S μ6 0 0))) ∧ ((μ (μ x0 15) x2) = 0 → Ai S (μ x0 0) 0 10 ∧ (Ci G mX8_has [(0, (μ (μ x0 0) 10)), (0, x2)] S μ (fun r10 μ10 => R32 r10 ∧ ((r10 ≠ 0 → Ci G mX8_one [(0, 0)] S μ10 (fun r12 μ12 => 0 ≤ x2 ∧ (x2 ≤ 31 ∧ Ex G Φ 3 4 [some (2, x0), some (0, (mor x1 (r12 * 2 ^ (Int.toNat x2)))), some (0, (x2 + 1))] [] S μ12 0 0))) ∧ (r10 = 0 → Ci G mX8_one [(0, 1)] S μ10 (fun r15 μ15 => 0 ≤ x2 ∧ (x2 ≤ 31 ∧ Ex G Φ 3 4 [some (2, x0), some (0, (mor x1 (r15 * 2 ^ (Int.toNat x2)))), some (0, (x2 + 1))] [] S μ15 0 0)))))))))))))) : Ex G Φ 3 4 [some (2, x0), some (0, x1), some (0, x2)] [] S μ 0 0 := by
  refine ex_iload_n hΦ dX8_meshing_4 rfl ?_
  obtain ⟨o1, h⟩ := h
  refine ex_aload_n hΦ dX8_meshing_5 rfl o1.1 ?_
  refine ex_getf hΦ fl_X8_180 o1 dX8_meshing_6 ?_
  obtain ⟨o2, h⟩ := h
  obtain ⟨o3, h⟩ := h
  refine ex_icmp_ge 54 hΦ dX8_meshing_9 (by decide) o2 o3 (fun c => ?_) (fun c => ?_)
  · have h := h.1 c
    refine ex_iload_n hΦ dX8_meshing_54 rfl ?_
    exact ex_returni hΦ hR dX8_meshing_55 h
  · have h := h.2 c
    refine ex_iload_n hΦ dX8_meshing_12 rfl ?_
    refine ex_aload_n hΦ dX8_meshing_13 rfl o1.1 ?_
    refine ex_getf hΦ fl_X8_27 o1 dX8_meshing_14 ?_
    refine ex_iload_n hΦ dX8_meshing_17 rfl ?_
    obtain ⟨o4, h⟩ := h
    refine ex_iald' hΦ o4 dX8_meshing_18 ?_
    obtain ⟨o5, h⟩ := h
    refine ex_if_ne 40 hΦ dX8_meshing_19 (by decide) o5 (fun c => ?_) (fun c => ?_)
    · have h := h.1 c
      refine ex_iconst hΦ dX8_meshing_40 ?_
      refine ex_callSi [(0, 0)] [(0, 0), (0, x1)] hΦ lkS_X8_217 ⟨by decide, by decide⟩ (Nat.le_of_ble_eq_true rfl) rfl (by decide) dX8_meshing_41 rfl h (fun r6 μ6 h => ?_)
      refine ex_iload_n hΦ dX8_meshing_44 rfl ?_
      obtain ⟨o7, h⟩ := h
      obtain ⟨o8, h⟩ := h
      refine ex_ishl hΦ dX8_meshing_45 o7 o8 ?_
      refine ex_ior hΦ dX8_meshing_46 ?_
      refine ex_istore_n (L' := [some (2, x0), some (0, (mor x1 (r6 * 2 ^ (Int.toNat x2)))), some (0, x2)]) hΦ dX8_meshing_47 (by decide) rfl ?_
      refine ex_iinc (L' := [some (2, x0), some (0, (mor x1 (r6 * 2 ^ (Int.toNat x2)))), some (0, (x2 + 1))]) hΦ dX8_meshing_48 rfl (by decide) rfl ?_
      refine ex_goto 4 hΦ dX8_meshing_51 (by decide) ?_
      exact h
    · have h := h.2 c
      refine ex_aload_n hΦ dX8_meshing_22 rfl o1.1 ?_
      refine ex_getf hΦ fl_X8_7 o1 dX8_meshing_23 ?_
      refine ex_bipush hΦ dX8_meshing_26 (by decide) ?_
      obtain ⟨o9, h⟩ := h
      refine ex_iald' hΦ o9 dX8_meshing_28 ?_
      refine ex_iload_n hΦ dX8_meshing_29 rfl ?_
      refine ex_callSi [(0, (μ (μ x0 0) 10)), (0, x2)] [(0, x2), (0, (μ (μ x0 0) 10)), (0, x1)] hΦ lkS_X8_192 ⟨by decide, by decide⟩ (Nat.le_of_ble_eq_true rfl) rfl (by decide) dX8_meshing_30 rfl h (fun r10 μ10 h => ?_)
      obtain ⟨o11, h⟩ := h
      refine ex_if_ne 40 hΦ dX8_meshing_33 (by decide) o11 (fun c => ?_) (fun c => ?_)
      · have h := h.1 c
        refine ex_iconst hΦ dX8_meshing_40 ?_
        refine ex_callSi [(0, 0)] [(0, 0), (0, x1)] hΦ lkS_X8_217 ⟨by decide, by decide⟩ (Nat.le_of_ble_eq_true rfl) rfl (by decide) dX8_meshing_41 rfl h (fun r12 μ12 h => ?_)
        refine ex_iload_n hΦ dX8_meshing_44 rfl ?_
        obtain ⟨o13, h⟩ := h
        obtain ⟨o14, h⟩ := h
        refine ex_ishl hΦ dX8_meshing_45 o13 o14 ?_
        refine ex_ior hΦ dX8_meshing_46 ?_
        refine ex_istore_n (L' := [some (2, x0), some (0, (mor x1 (r12 * 2 ^ (Int.toNat x2)))), some (0, x2)]) hΦ dX8_meshing_47 (by decide) rfl ?_
        refine ex_iinc (L' := [some (2, x0), some (0, (mor x1 (r12 * 2 ^ (Int.toNat x2)))), some (0, (x2 + 1))]) hΦ dX8_meshing_48 rfl (by decide) rfl ?_
        refine ex_goto 4 hΦ dX8_meshing_51 (by decide) ?_
        exact h
      · have h := h.2 c
        refine ex_iconst hΦ dX8_meshing_36 ?_
        refine ex_goto 41 hΦ dX8_meshing_37 (by decide) ?_
        refine ex_callSi [(0, 1)] [(0, 1), (0, x1)] hΦ lkS_X8_217 ⟨by decide, by decide⟩ (Nat.le_of_ble_eq_true rfl) rfl (by decide) dX8_meshing_41 rfl h (fun r15 μ15 h => ?_)
        refine ex_iload_n hΦ dX8_meshing_44 rfl ?_
        obtain ⟨o16, h⟩ := h
        obtain ⟨o17, h⟩ := h
        refine ex_ishl hΦ dX8_meshing_45 o16 o17 ?_
        refine ex_ior hΦ dX8_meshing_46 ?_
        refine ex_istore_n (L' := [some (2, x0), some (0, (mor x1 (r15 * 2 ^ (Int.toNat x2)))), some (0, x2)]) hΦ dX8_meshing_47 (by decide) rfl ?_
        refine ex_iinc (L' := [some (2, x0), some (0, (mor x1 (r15 * 2 ^ (Int.toNat x2)))), some (0, (x2 + 1))]) hΦ dX8_meshing_48 rfl (by decide) rfl ?_
        refine ex_goto 4 hΦ dX8_meshing_51 (by decide) ?_
        exact h
theorem eX8_meshing {G : Gm} {S : List Sh} {μ : Mem} {Q : Int → Mem → Prop} {x0 : Int} (h : ∀ Φ : Fr, St G Φ cX8_meshing RX8 3 1 21 0 0 → Rt G Φ (Pi S Q) 0 0 (some .int) → Ex G Φ 3 0 [some (2, x0), none, none] [] S μ 0 0) : Ci G mX8_meshing [(2, x0)] S μ Q :=
  call_of' (plainFor_of_name (by decide +kernel)) [some (2, x0), none, none] rfl (Nat.le_of_ble_eq_true rfl) (fun Φ hΦ hR => h Φ hΦ hR)
theorem bX8_meshing_0 {G : Gm} {Φ : Fr} {S : List Sh} {μ : Mem} {Q : Int → Mem → Prop} (hΦ : St G Φ cX8_meshing RX8 3 1 21 0 0) (hR : Rt G Φ (Pi S Q) 0 0 (some .int)) {x0 : Int} (h : Ex G Φ 3 4 [some (2, x0), some (0, 0), some (0, 0)] [] S μ 0 0) : Ex G Φ 3 0 [some (2, x0), none, none] [] S μ 0 0 := by
  refine ex_iconst hΦ dX8_meshing_0 ?_
  refine ex_istore_n (L' := [some (2, x0), some (0, 0), none]) hΦ dX8_meshing_1 (by decide) rfl ?_
  refine ex_iconst hΦ dX8_meshing_2 ?_
  refine ex_istore_n (L' := [some (2, x0), some (0, 0), some (0, 0)]) hΦ dX8_meshing_3 (by decide) rfl ?_
  exact h
theorem bX8_idlers_48 {G : Gm} {Φ : Fr} {S : List Sh} {μ : Mem} {Q : Int → Mem → Prop} (hΦ : St G Φ cX8_idlers RX8 7 5 127 0 0) (hR : Rt G Φ (Pi S Q) 0 0 (some .int)) {x0 x1 x2 x3 x4 x5 : Int} (h : So S x0 (.inl 8) ∧ (0 ≤ (μ x0 3) ∧ ((μ x0 3) ≤ 31 ∧ (R32 x5 ∧ (R32 (1 * 2 ^ (Int.toNat (μ x0 3))) ∧ (((1 * 2 ^ (Int.toNat (μ x0 3))) ≤ x5 → R32 x4 ∧ ((x4 < 0 → Q x4 μ) ∧ (¬ (x4 < 0) → R32 x3 ∧ ((x3 ≠ 1 → Ci G mX8_ones [(0, x4)] S μ (fun r8 μ8 => Q r8 μ8)) ∧ (x3 = 1 → Q x4 μ))))) ∧ (¬ ((1 * 2 ^ (Int.toNat (μ x0 3))) ≤ x5) → Ci G mX8_meshing [(2, x0)] S μ (fun r9 μ9 => R32 (mand x5 (mxor r9 (-1))) ∧ (((mand x5 (mxor r9 (-1))) ≠ 0 → Ex G Φ 7 48 [some (2, x0), some (0, x1), some (0, x2), some (0, x3), some (0, x4), some (0, (x5 + 1)), none] [] S μ9 0 0) ∧ ((mand x5 (mxor r9 (-1))) = 0 → R32 x4 ∧ ((x4 < 0 → Ex G Φ 7 89 [some (2, x0), some (0, x1), some (0, x2), some (0, x3), some (0, x4), some (0, x5), none] [] S μ9 0 0) ∧ (¬ (x4 < 0) → Ci G mX8_ones [(0, x5)] S μ9 (fun r12 μ12 => Ci G mX8_ones [(0, x4)] S μ12 (fun r13 μ13 => R32 r12 ∧ (R32 r13 ∧ ((r13 ≤ r12 → Ex G Φ 7 48 [some (2, x0), some (0, x1), some (0, x2), some (0, x3), some (0, x4), some (0, (x5 + 1)), none] [] S μ13 0 0) ∧ (¬ (r13 ≤ r12) → Ex G Φ 7 89 [some (2, x0), some (0, x1), some (0, x2), some (0, x3), some (0, x4), some (0, x5), none] [] S μ13 0 0))))))))))))))))) : Ex G Φ 7 48 [some (2, x0), some (0, x1), some (0, x2), some (0, x3), some (0, x4), some (0, x5), none] [] S μ 0 0 := by
  refine ex_iload hΦ dX8_idlers_48 rfl ?_
  refine ex_iconst hΦ dX8_idlers_50 ?_
  obtain ⟨o1, h⟩ := h
  refine ex_aload_n hΦ dX8_idlers_51 rfl o1.1 ?_
  refine ex_getf hΦ fl_X8_180 o1 dX8_idlers_52 ?_
  obtain ⟨o2, h⟩ := h
  obtain ⟨o3, h⟩ := h
  refine ex_ishl hΦ dX8_idlers_55 o2 o3 ?_
  obtain ⟨o4, h⟩ := h
  obtain ⟨o5, h⟩ := h
  refine ex_icmp_ge 193 hΦ dX8_idlers_56 (by decide) o4 o5 (fun c => ?_) (fun c => ?_)
  · have h := h.1 c
    refine ex_iload hΦ dX8_idlers_193 rfl ?_
    obtain ⟨o6, h⟩ := h
    refine ex_if_lt 203 hΦ dX8_idlers_195 (by decide) o6 (fun c => ?_) (fun c => ?_)
    · have h := h.1 c
      refine ex_iload hΦ dX8_idlers_203 rfl ?_
      refine ex_goto 213 hΦ dX8_idlers_205 (by decide) ?_
      exact ex_returni hΦ hR dX8_idlers_213 h
    · have h := h.2 c
      refine ex_iload_n hΦ dX8_idlers_198 rfl ?_
      refine ex_iconst hΦ dX8_idlers_199 ?_
      obtain ⟨o7, h⟩ := h
      refine ex_icmp_ne 208 hΦ dX8_idlers_200 (by decide) o7 ⟨by decide, by decide⟩ (fun c => ?_) (fun c => ?_)
      · have h := h.1 c
        refine ex_iload hΦ dX8_idlers_208 rfl ?_
        refine ex_callSi [(0, x4)] [(0, x4)] hΦ lkS_X8_296 ⟨by decide, by decide⟩ (Nat.le_of_ble_eq_true rfl) rfl (by decide) dX8_idlers_210 rfl h (fun r8 μ8 h => ?_)
        exact ex_returni hΦ hR dX8_idlers_213 h
      · have h := h.2 c
        refine ex_iload hΦ dX8_idlers_203 rfl ?_
        refine ex_goto 213 hΦ dX8_idlers_205 (by decide) ?_
        exact ex_returni hΦ hR dX8_idlers_213 h
  · have h := h.2 c
    refine ex_iload hΦ dX8_idlers_59 rfl ?_
    refine ex_aload_n hΦ dX8_idlers_61 rfl o1.1 ?_
    refine ex_callVi [] [(2, x0), (0, x5)] hΦ lkV_X8_293 ⟨by decide, by decide⟩ (Nat.le_of_ble_eq_true rfl) rfl (by decide) 8 (by decide) rfl o1 dX8_idlers_62 rfl h (fun r9 μ9 h => ?_)
    refine ex_iconst hΦ dX8_idlers_65 ?_
    refine ex_ixor hΦ dX8_idlers_66 ?_
    refine ex_iand hΦ dX8_idlers_67 ?_
    obtain ⟨o10, h⟩ := h
    refine ex_if_ne 187 hΦ dX8_idlers_68 (by decide) o10 (fun c => ?_) (fun c => ?_)
    · have h := h.1 c
      refine ex_iinc (L' := [some (2, x0), some (0, x1), some (0, x2), some (0, x3), some (0, x4), some (0, (x5 + 1)), none]) hΦ dX8_idlers_187 rfl (by decide) rfl ?_
      refine ex_goto 48 hΦ dX8_idlers_190 (by decide) ?_
      exact h
    · have h := h.2 c
      refine ex_iload hΦ dX8_idlers_71 rfl ?_
      obtain ⟨o11, h⟩ := h
      refine ex_if_lt 89 hΦ dX8_idlers_73 (by decide) o11 (fun c => ?_) (fun c => ?_)
      · have h := h.1 c
        exact h
      · have h := h.2 c
        refine ex_iload hΦ dX8_idlers_76 rfl ?_
        refine ex_callSi [(0, x5)] [(0, x5)] hΦ lkS_X8_296 ⟨by decide, by decide⟩ (Nat.le_of_ble_eq_true rfl) rfl (by decide) dX8_idlers_78 rfl h (fun r12 μ12 h => ?_)
        refine ex_iload hΦ dX8_idlers_81 rfl ?_
        refine ex_callSi [(0, x4)] [(0, x4), (0, r12)] hΦ lkS_X8_296 ⟨by decide, by decide⟩ (Nat.le_of_ble_eq_true rfl) rfl (by decide) dX8_idlers_83 rfl h (fun r13 μ13 h => ?_)
        obtain ⟨o14, h⟩ := h
        obtain ⟨o15, h⟩ := h
        refine ex_icmp_ge 187 hΦ dX8_idlers_86 (by decide) o14 o15 (fun c => ?_) (fun c => ?_)
        · have h := h.1 c
          refine ex_iinc (L' := [some (2, x0), some (0, x1), some (0, x2), some (0, x3), some (0, x4), some (0, (x5 + 1)), none]) hΦ dX8_idlers_187 rfl (by decide) rfl ?_
          refine ex_goto 48 hΦ dX8_idlers_190 (by decide) ?_
          exact h
        · have h := h.2 c
          exact h
theorem bX8_idlers_89 {G : Gm} {Φ : Fr} {S : List Sh} {μ : Mem} {Q : Int → Mem → Prop} (hΦ : St G Φ cX8_idlers RX8 7 5 127 0 0) (hR : Rt G Φ (Pi S Q) 0 0 (some .int)) {x0 x1 x2 x3 x4 x5 : Int} (h : So S x0 (.inl 8) ∧ (Ai S (μ x0 0) 0 10 ∧ (Cv G mX8_findRates [(2, x0), (0, (μ (μ x0 0) 10)), (0, x5)] S μ (fun μ3 => R32 (μ3 x0 29) ∧ (((μ3 x0 29) ≠ 0 → Ex G Φ 7 48 [some (2, x0), some (0, x1), some (0, x2), some (0, x3), some (0, x4), some (0, (x5 + 1)), none] [] S μ3 0 0) ∧ ((μ3 x0 29) = 0 → Ai S (μ3 x0 27) 1 x1 ∧ (R64 (μ3 (μ3 x0 27) x1) ∧ (((μ3 (μ3 x0 27) x1) = 0 → Ex G Φ 7 48 [some (2, x0), some (0, x1), some (0, x2), some (0, x3), some (0, x4), some (0, (x5 + 1)), none] [] S μ3 0 0) ∧ (¬ ((μ3 (μ3 x0 27) x1) = 0) → Ai S (μ3 x0 27) 1 x2 ∧ (R64 (μ3 (μ3 x0 27) x2) ∧ (((μ3 (μ3 x0 27) x2) = 0 → Ex G Φ 7 48 [some (2, x0), some (0, x1), some (0, x2), some (0, x3), some (0, x4), some (0, (x5 + 1)), none] [] S μ3 0 0) ∧ (¬ ((μ3 (μ3 x0 27) x2) = 0) → ((μ3 (μ3 x0 27) x1) ≤ 0 → ((μ3 (μ3 x0 27) x2) ≤ 0 → Ex G Φ 7 163 [some (2, x0), some (0, x1), some (0, x2), some (0, x3), some (0, x4), some (0, x5), none] [(0, 0), (0, 0)] S μ3 0 0) ∧ (¬ ((μ3 (μ3 x0 27) x2) ≤ 0) → Ex G Φ 7 163 [some (2, x0), some (0, x1), some (0, x2), some (0, x3), some (0, x4), some (0, x5), none] [(0, 1), (0, 0)] S μ3 0 0)) ∧ (¬ ((μ3 (μ3 x0 27) x1) ≤ 0) → ((μ3 (μ3 x0 27) x2) ≤ 0 → Ex G Φ 7 163 [some (2, x0), some (0, x1), some (0, x2), some (0, x3), some (0, x4), some (0, x5), none] [(0, 0), (0, 1)] S μ3 0 0) ∧ (¬ ((μ3 (μ3 x0 27) x2) ≤ 0) → Ex G Φ 7 163 [some (2, x0), some (0, x1), some (0, x2), some (0, x3), some (0, x4), some (0, x5), none] [(0, 1), (0, 1)] S μ3 0 0)))))))))))))) : Ex G Φ 7 89 [some (2, x0), some (0, x1), some (0, x2), some (0, x3), some (0, x4), some (0, x5), none] [] S μ 0 0 := by
  obtain ⟨o1, h⟩ := h
  refine ex_aload_n hΦ dX8_idlers_89 rfl o1.1 ?_
  refine ex_aload_n hΦ dX8_idlers_90 rfl o1.1 ?_
  refine ex_getf hΦ fl_X8_7 o1 dX8_idlers_91 ?_
  refine ex_bipush hΦ dX8_idlers_94 (by decide) ?_
  obtain ⟨o2, h⟩ := h
  refine ex_iald' hΦ o2 dX8_idlers_96 ?_
  refine ex_iload hΦ dX8_idlers_97 rfl ?_
  refine ex_callVv [(0, (μ (μ x0 0) 10)), (0, x5)] [(0, x5), (0, (μ (μ x0 0) 10)), (2, x0)] hΦ lkV_X8_214 ⟨by decide, by decide⟩ (Nat.le_of_ble_eq_true rfl) rfl (by decide) 8 (by decide) rfl o1 dX8_idlers_99 rfl h (fun μ3 h => ?_)
  refine ex_aload_n hΦ dX8_idlers_102 rfl o1.1 ?_
  refine ex_getf hΦ fl_X8_200 o1 dX8_idlers_103 ?_
  obtain ⟨o4, h⟩ := h
  refine ex_if_ne 170 hΦ dX8_idlers_106 (by decide) o4 (fun c => ?_) (fun c => ?_)
  · have h := h.1 c
    refine ex_iconst hΦ dX8_idlers_170 ?_
    refine ex_istore (L' := [some (2, x0), some (0, x1), some (0, x2), some (0, x3), some (0, x4), some (0, x5), some (0, 0)]) hΦ dX8_idlers_171 (by decide) rfl ?_
    refine ex_iload hΦ dX8_idlers_173 rfl ?_
    refine ex_if_eq 183 hΦ dX8_idlers_175 (by decide) ⟨by decide, by decide⟩ (fun c => ?_) (fun c => absurd (by decide) c)
    refine ex_iload hΦ dX8_idlers_183 rfl ?_
    refine ex_istore (L' := [some (2, x0), some (0, x1), some (0, x2), some (0, x3), some (0, x4), some (0, x5), some (0, 0)]) hΦ dX8_idlers_185 (by decide) rfl ?_
    refine ex_iinc (L' := [some (2, x0), some (0, x1), some (0, x2), some (0, x3), some (0, x4), some (0, (x5 + 1)), some (0, 0)]) hΦ dX8_idlers_187 rfl (by decide) rfl ?_
    refine ex_goto 48 hΦ dX8_idlers_190 (by decide) ?_
    refine ex_forget (L' := [some (2, x0), some (0, x1), some (0, x2), some (0, x3), some (0, x4), some (0, (x5 + 1)), none]) [6] rfl ?_
    exact h
  · have h := h.2 c
    refine ex_aload_n hΦ dX8_idlers_109 rfl o1.1 ?_
    refine ex_getf hΦ fl_X8_51 o1 dX8_idlers_110 ?_
    refine ex_iload_n hΦ dX8_idlers_113 rfl ?_
    obtain ⟨o5, h⟩ := h
    refine ex_lald' hΦ o5 dX8_idlers_114 ?_
    refine ex_lconst (x := 0) hΦ dX8_idlers_115 (by decide) ?_
    obtain ⟨o6, h⟩ := h
    refine ex_lcmp hΦ dX8_idlers_116 o6 ⟨by decide, by decide⟩ ?_
    refine ex_lif_eq 170 hΦ dX8_idlers_117 (by decide) (fun c => ?_) (fun c => ?_)
    · have h := h.1 c
      refine ex_iconst hΦ dX8_idlers_170 ?_
      refine ex_istore (L' := [some (2, x0), some (0, x1), some (0, x2), some (0, x3), some (0, x4), some (0, x5), some (0, 0)]) hΦ dX8_idlers_171 (by decide) rfl ?_
      refine ex_iload hΦ dX8_idlers_173 rfl ?_
      refine ex_if_eq 183 hΦ dX8_idlers_175 (by decide) ⟨by decide, by decide⟩ (fun c => ?_) (fun c => absurd (by decide) c)
      refine ex_iload hΦ dX8_idlers_183 rfl ?_
      refine ex_istore (L' := [some (2, x0), some (0, x1), some (0, x2), some (0, x3), some (0, x4), some (0, x5), some (0, 0)]) hΦ dX8_idlers_185 (by decide) rfl ?_
      refine ex_iinc (L' := [some (2, x0), some (0, x1), some (0, x2), some (0, x3), some (0, x4), some (0, (x5 + 1)), some (0, 0)]) hΦ dX8_idlers_187 rfl (by decide) rfl ?_
      refine ex_goto 48 hΦ dX8_idlers_190 (by decide) ?_
      refine ex_forget (L' := [some (2, x0), some (0, x1), some (0, x2), some (0, x3), some (0, x4), some (0, (x5 + 1)), none]) [6] rfl ?_
      exact h
    · have h := h.2 c
      refine ex_aload_n hΦ dX8_idlers_120 rfl o1.1 ?_
      refine ex_getf hΦ fl_X8_51 o1 dX8_idlers_121 ?_
      refine ex_iload_n hΦ dX8_idlers_124 rfl ?_
      obtain ⟨o7, h⟩ := h
      refine ex_lald' hΦ o7 dX8_idlers_125 ?_
      refine ex_lconst (x := 0) hΦ dX8_idlers_126 (by decide) ?_
      obtain ⟨o8, h⟩ := h
      refine ex_lcmp hΦ dX8_idlers_127 o8 ⟨by decide, by decide⟩ ?_
      refine ex_lif_eq 170 hΦ dX8_idlers_128 (by decide) (fun c => ?_) (fun c => ?_)
      · have h := h.1 c
        refine ex_iconst hΦ dX8_idlers_170 ?_
        refine ex_istore (L' := [some (2, x0), some (0, x1), some (0, x2), some (0, x3), some (0, x4), some (0, x5), some (0, 0)]) hΦ dX8_idlers_171 (by decide) rfl ?_
        refine ex_iload hΦ dX8_idlers_173 rfl ?_
        refine ex_if_eq 183 hΦ dX8_idlers_175 (by decide) ⟨by decide, by decide⟩ (fun c => ?_) (fun c => absurd (by decide) c)
        refine ex_iload hΦ dX8_idlers_183 rfl ?_
        refine ex_istore (L' := [some (2, x0), some (0, x1), some (0, x2), some (0, x3), some (0, x4), some (0, x5), some (0, 0)]) hΦ dX8_idlers_185 (by decide) rfl ?_
        refine ex_iinc (L' := [some (2, x0), some (0, x1), some (0, x2), some (0, x3), some (0, x4), some (0, (x5 + 1)), some (0, 0)]) hΦ dX8_idlers_187 rfl (by decide) rfl ?_
        refine ex_goto 48 hΦ dX8_idlers_190 (by decide) ?_
        refine ex_forget (L' := [some (2, x0), some (0, x1), some (0, x2), some (0, x3), some (0, x4), some (0, (x5 + 1)), none]) [6] rfl ?_
        exact h
      · have h := h.2 c
        refine ex_aload_n hΦ dX8_idlers_131 rfl o1.1 ?_
        refine ex_getf hΦ fl_X8_51 o1 dX8_idlers_132 ?_
        refine ex_iload_n hΦ dX8_idlers_135 rfl ?_
        refine ex_lald' hΦ o5 dX8_idlers_136 ?_
        refine ex_lconst (x := 0) hΦ dX8_idlers_137 (by decide) ?_
        refine ex_lcmp hΦ dX8_idlers_138 o6 ⟨by decide, by decide⟩ ?_
        refine ex_lif_le 146 hΦ dX8_idlers_139 (by decide) (fun c => ?_) (fun c => ?_)
        · have h := h.1 c
          refine ex_iconst hΦ dX8_idlers_146 ?_
          refine ex_aload_n hΦ dX8_idlers_147 rfl o1.1 ?_
          refine ex_getf hΦ fl_X8_51 o1 dX8_idlers_148 ?_
          refine ex_iload_n hΦ dX8_idlers_151 rfl ?_
          refine ex_lald' hΦ o7 dX8_idlers_152 ?_
          refine ex_lconst (x := 0) hΦ dX8_idlers_153 (by decide) ?_
          refine ex_lcmp hΦ dX8_idlers_154 o8 ⟨by decide, by decide⟩ ?_
          refine ex_lif_le 162 hΦ dX8_idlers_155 (by decide) (fun c => ?_) (fun c => ?_)
          · have h := h.1 c
            refine ex_iconst hΦ dX8_idlers_162 ?_
            exact h
          · have h := h.2 c
            refine ex_iconst hΦ dX8_idlers_158 ?_
            refine ex_goto 163 hΦ dX8_idlers_159 (by decide) ?_
            exact h
        · have h := h.2 c
          refine ex_iconst hΦ dX8_idlers_142 ?_
          refine ex_goto 147 hΦ dX8_idlers_143 (by decide) ?_
          refine ex_aload_n hΦ dX8_idlers_147 rfl o1.1 ?_
          refine ex_getf hΦ fl_X8_51 o1 dX8_idlers_148 ?_
          refine ex_iload_n hΦ dX8_idlers_151 rfl ?_
          refine ex_lald' hΦ o7 dX8_idlers_152 ?_
          refine ex_lconst (x := 0) hΦ dX8_idlers_153 (by decide) ?_
          refine ex_lcmp hΦ dX8_idlers_154 o8 ⟨by decide, by decide⟩ ?_
          refine ex_lif_le 162 hΦ dX8_idlers_155 (by decide) (fun c => ?_) (fun c => ?_)
          · have h := h.1 c
            refine ex_iconst hΦ dX8_idlers_162 ?_
            exact h
          · have h := h.2 c
            refine ex_iconst hΦ dX8_idlers_158 ?_
            refine ex_goto 163 hΦ dX8_idlers_159 (by decide) ?_
            exact h
theorem bX8_idlers_163 {G : Gm} {Φ : Fr} {S : List Sh} {μ : Mem} {Q : Int → Mem → Prop} (hΦ : St G Φ cX8_idlers RX8 7 5 127 0 0) (hR : Rt G Φ (Pi S Q) 0 0 (some .int)) {x0 x1 x2 x3 x4 x5 t0 t1 : Int} (h : R32 t0 ∧ (R32 t1 ∧ ((t0 ≠ t1 → Ex G Φ 7 48 [some (2, x0), some (0, x1), some (0, x2), some (0, x3), some (0, x4), some (0, (x5 + 1)), none] [] S μ 0 0) ∧ (t0 = t1 → Ex G Φ 7 48 [some (2, x0), some (0, x1), some (0, x2), some (0, x3), some (0, x5), some (0, (x5 + 1)), none] [] S μ 0 0)))) : Ex G Φ 7 163 [some (2, x0), some (0, x1), some (0, x2), some (0, x3), some (0, x4), some (0, x5), none] [(0, t1), (0, t0)] S μ 0 0 := by
  obtain ⟨o1, h⟩ := h
  obtain ⟨o2, h⟩ := h
  refine ex_icmp_ne 170 hΦ dX8_idlers_163 (by decide) o1 o2 (fun c => ?_) (fun c => ?_)
  · have h := h.1 c
    refine ex_iconst hΦ dX8_idlers_170 ?_
    refine ex_istore (L' := [some (2, x0), some (0, x1), some (0, x2), some (0, x3), some (0, x4), some (0, x5), some (0, 0)]) hΦ dX8_idlers_171 (by decide) rfl ?_
    refine ex_iload hΦ dX8_idlers_173 rfl ?_
    refine ex_if_eq 183 hΦ dX8_idlers_175 (by decide) ⟨by decide, by decide⟩ (fun c => ?_) (fun c => absurd (by decide) c)
    refine ex_iload hΦ dX8_idlers_183 rfl ?_
    refine ex_istore (L' := [some (2, x0), some (0, x1), some (0, x2), some (0, x3), some (0, x4), some (0, x5), some (0, 0)]) hΦ dX8_idlers_185 (by decide) rfl ?_
    refine ex_iinc (L' := [some (2, x0), some (0, x1), some (0, x2), some (0, x3), some (0, x4), some (0, (x5 + 1)), some (0, 0)]) hΦ dX8_idlers_187 rfl (by decide) rfl ?_
    refine ex_goto 48 hΦ dX8_idlers_190 (by decide) ?_
    refine ex_forget (L' := [some (2, x0), some (0, x1), some (0, x2), some (0, x3), some (0, x4), some (0, (x5 + 1)), none]) [6] rfl ?_
    exact h
  · have h := h.2 c
    refine ex_iconst hΦ dX8_idlers_166 ?_
    refine ex_goto 171 hΦ dX8_idlers_167 (by decide) ?_
    refine ex_istore (L' := [some (2, x0), some (0, x1), some (0, x2), some (0, x3), some (0, x4), some (0, x5), some (0, 1)]) hΦ dX8_idlers_171 (by decide) rfl ?_
    refine ex_iload hΦ dX8_idlers_173 rfl ?_
    refine ex_if_eq 183 hΦ dX8_idlers_175 (by decide) ⟨by decide, by decide⟩ (fun c => absurd c (by decide)) (fun c => ?_)
    refine ex_iload hΦ dX8_idlers_178 rfl ?_
    refine ex_goto 185 hΦ dX8_idlers_180 (by decide) ?_
    refine ex_istore (L' := [some (2, x0), some (0, x1), some (0, x2), some (0, x3), some (0, x5), some (0, x5), some (0, 1)]) hΦ dX8_idlers_185 (by decide) rfl ?_
    refine ex_iinc (L' := [some (2, x0), some (0, x1), some (0, x2), some (0, x3), some (0, x5), some (0, (x5 + 1)), some (0, 1)]) hΦ dX8_idlers_187 rfl (by decide) rfl ?_
    refine ex_goto 48 hΦ dX8_idlers_190 (by decide) ?_
    refine ex_forget (L' := [some (2, x0), some (0, x1), some (0, x2), some (0, x3), some (0, x5), some (0, (x5 + 1)), none]) [6] rfl ?_
    exact h
theorem eX8_idlers {G : Gm} {S : List Sh} {μ : Mem} {Q : Int → Mem → Prop} {x0 x1 x2 x3 : Int} (h : ∀ Φ : Fr, St G Φ cX8_idlers RX8 7 5 127 0 0 → Rt G Φ (Pi S Q) 0 0 (some .int) → Ex G Φ 7 0 [some (2, x0), some (0, x1), some (0, x2), some (0, x3), none, none, none] [] S μ 0 0) : Ci G mX8_idlers [(2, x0), (0, x1), (0, x2), (0, x3)] S μ Q :=
  call_of' (plainFor_of_name (by decide +kernel)) [some (2, x0), some (0, x1), some (0, x2), some (0, x3), none, none, none] rfl (Nat.le_of_ble_eq_true rfl) (fun Φ hΦ hR => h Φ hΦ hR)
theorem bX8_idlers_0 {G : Gm} {Φ : Fr} {S : List Sh} {μ : Mem} {Q : Int → Mem → Prop} (hΦ : St G Φ cX8_idlers RX8 7 5 127 0 0) (hR : Rt G Φ (Pi S Q) 0 0 (some .int)) {x0 x1 x2 x3 : Int} (h : So S x0 (.inl 8) ∧ (Ci G mX8_isWheel [(2, x0), (0, x1)] S μ (fun r2 μ2 => R32 r2 ∧ ((r2 = 0 → Q (-1000000001) μ2) ∧ (¬ (r2 = 0) → Ci G mX8_isWheel [(2, x0), (0, x2)] S μ2 (fun r4 μ4 => R32 r4 ∧ ((r4 = 0 → Q (-1000000001) μ4) ∧ (¬ (r4 = 0) → R32 x1 ∧ (R32 x2 ∧ ((x1 ≠ x2 → R32 x3 ∧ (Ci G mX8_in [(1, x3), (1, 0), (1, 1)] S μ4 (fun r9 μ9 => R32 r9 ∧ ((r9 ≠ 0 → ∀ m11 : Mem, m11 = mu μ9 x0 30 0 → (Ex G Φ 7 48 [some (2, x0), some (0, x1), some (0, x2), some (0, x3), some (0, (-1)), some (0, 0), none] [] S m11 0 0)) ∧ (r9 = 0 → Q (-1000000002) μ9))))) ∧ (x1 = x2 → Q (-1000000001) μ4))))))))))) : Ex G Φ 7 0 [some (2, x0), some (0, x1), some (0, x2), some (0, x3), none, none, none] [] S μ 0 0 := by
  obtain ⟨o1, h⟩ := h
  refine ex_aload_n hΦ dX8_idlers_0 rfl o1.1 ?_
  refine ex_iload_n hΦ dX8_idlers_1 rfl ?_
  refine ex_callVi [(0, x1)] [(0, x1), (2, x0)] hΦ lkV_X8_240 ⟨by decide, by decide⟩ (Nat.le_of_ble_eq_true rfl) rfl (by decide) 8 (by decide) rfl o1 dX8_idlers_2 rfl h (fun r2 μ2 h => ?_)
  obtain ⟨o3, h⟩ := h
  refine ex_if_eq 21 hΦ dX8_idlers_5 (by decide) o3 (fun c => ?_) (fun c => ?_)
  · have h := h.1 c
    refine ex_ldc hΦ dX8_idlers_21 qw1098 ?_
    exact ex_returni hΦ hR dX8_idlers_23 h
  · have h := h.2 c
    refine ex_aload_n hΦ dX8_idlers_8 rfl o1.1 ?_
    refine ex_iload_n hΦ dX8_idlers_9 rfl ?_
    refine ex_callVi [(0, x2)] [(0, x2), (2, x0)] hΦ lkV_X8_240 ⟨by decide, by decide⟩ (Nat.le_of_ble_eq_true rfl) rfl (by decide) 8 (by decide) rfl o1 dX8_idlers_10 rfl h (fun r4 μ4 h => ?_)
    obtain ⟨o5, h⟩ := h
    refine ex_if_eq 21 hΦ dX8_idlers_13 (by decide) o5 (fun c => ?_) (fun c => ?_)
    · have h := h.1 c
      refine ex_ldc hΦ dX8_idlers_21 qw1098 ?_
      exact ex_returni hΦ hR dX8_idlers_23 h
    · have h := h.2 c
      refine ex_iload_n hΦ dX8_idlers_16 rfl ?_
      refine ex_iload_n hΦ dX8_idlers_17 rfl ?_
      obtain ⟨o6, h⟩ := h
      obtain ⟨o7, h⟩ := h
      refine ex_icmp_ne 24 hΦ dX8_idlers_18 (by decide) o6 o7 (fun c => ?_) (fun c => ?_)
      · have h := h.1 c
        refine ex_iload_n hΦ dX8_idlers_24 rfl ?_
        obtain ⟨o8, h⟩ := h
        refine ex_i2l hΦ dX8_idlers_25 o8 ?_
        refine ex_lconst (x := 0) hΦ dX8_idlers_26 (by decide) ?_
        refine ex_lconst (x := 1) hΦ dX8_idlers_27 (by decide) ?_
        refine ex_callSi [(1, x3), (1, 0), (1, 1)] [(1, 1), (1, 0), (1, x3)] hΦ lkS_X8_91 ⟨by decide, by decide⟩ (Nat.le_of_ble_eq_true rfl) rfl (by decide) dX8_idlers_28 rfl h (fun r9 μ9 h => ?_)
        obtain ⟨o10, h⟩ := h
        refine ex_if_ne 37 hΦ dX8_idlers_31 (by decide) o10 (fun c => ?_) (fun c => ?_)
        · have h := h.1 c
          refine ex_aload_n hΦ dX8_idlers_37 rfl o1.1 ?_
          refine ex_iconst hΦ dX8_idlers_38 ?_
          obtain ⟨m11, hm11⟩ : ∃ m : Mem, m = mu μ9 x0 30 0 := ⟨_, rfl⟩
          have h := h m11 hm11
          refine ex_putz' hΦ fl_X8_189 o1 rfl rfl (by decide) (by decide) dX8_idlers_39 hm11 ?_
          refine ex_iconst hΦ dX8_idlers_42 ?_
          refine ex_istore (L' := [some (2, x0), some (0, x1), some (0, x2), some (0, x3), some (0, (-1)), none, none]) hΦ dX8_idlers_43 (by decide) rfl ?_
          refine ex_iconst hΦ dX8_idlers_45 ?_
          refine ex_istore (L' := [some (2, x0), some (0, x1), some (0, x2), some (0, x3), some (0, (-1)), some (0, 0), none]) hΦ dX8_idlers_46 (by decide) rfl ?_
          exact h
        · have h := h.2 c
          refine ex_ldc hΦ dX8_idlers_34 qw984 ?_
          exact ex_returni hΦ hR dX8_idlers_36 h
      · have h := h.2 c
        refine ex_ldc hΦ dX8_idlers_21 qw1098 ?_
        exact ex_returni hΦ hR dX8_idlers_23 h
theorem bX8_fewestCut_9 {G : Gm} {Φ : Fr} {S : List Sh} {μ : Mem} {Q : Int → Mem → Prop} (hΦ : St G Φ cX8_fewestCut RX8 4 5 127 0 0) (hR : Rt G Φ (Pi S Q) 0 0 (some .int)) {x0 x1 x2 x3 : Int} (h : So S x0 (.inl 8) ∧ (0 ≤ (μ x0 3) ∧ ((μ x0 3) ≤ 31 ∧ (R32 x3 ∧ (R32 (1 * 2 ^ (Int.toNat (μ x0 3))) ∧ (((1 * 2 ^ (Int.toNat (μ x0 3))) ≤ x3 → Q x2 μ) ∧ (¬ ((1 * 2 ^ (Int.toNat (μ x0 3))) ≤ x3) → Ai S (μ x0 0) 0 10 ∧ (R32 (mand x3 (μ (μ x0 0) 10)) ∧ (((mand x3 (μ (μ x0 0) 10)) ≠ 0 → Ex G Φ 4 9 [some (2, x0), some (0, x1), some (0, x2), some (0, (x3 + 1))] [] S μ 0 0) ∧ ((mand x3 (μ (μ x0 0) 10)) = 0 → R32 x2 ∧ ((x2 < 0 → Ex G Φ 4 46 [some (2, x0), some (0, x1), some (0, x2), some (0, x3)] [] S μ 0 0) ∧ (¬ (x2 < 0) → Ci G mX8_ones [(0, x3)] S μ (fun r9 μ9 => Ci G mX8_ones [(0, x2)] S μ9 (fun r10 μ10 => R32 r9 ∧ (R32 r10 ∧ ((r10 ≤ r9 → Ex G Φ 4 9 [some (2, x0), some (0, x1), some (0, x2), some (0, (x3 + 1))] [] S μ10 0 0) ∧ (¬ (r10 ≤ r9) → Ex G Φ 4 46 [some (2, x0), some (0, x1), some (0, x2), some (0, x3)] [] S μ10 0 0))))))))))))))))) : Ex G Φ 4 9 [some (2, x0), some (0, x1), some (0, x2), some (0, x3)] [] S μ 0 0 := by
  refine ex_iload_n hΦ dX8_fewestCut_9 rfl ?_
  refine ex_iconst hΦ dX8_fewestCut_10 ?_
  obtain ⟨o1, h⟩ := h
  refine ex_aload_n hΦ dX8_fewestCut_11 rfl o1.1 ?_
  refine ex_getf hΦ fl_X8_180 o1 dX8_fewestCut_12 ?_
  obtain ⟨o2, h⟩ := h
  obtain ⟨o3, h⟩ := h
  refine ex_ishl hΦ dX8_fewestCut_15 o2 o3 ?_
  obtain ⟨o4, h⟩ := h
  obtain ⟨o5, h⟩ := h
  refine ex_icmp_ge 88 hΦ dX8_fewestCut_16 (by decide) o4 o5 (fun c => ?_) (fun c => ?_)
  · have h := h.1 c
    refine ex_iload_n hΦ dX8_fewestCut_88 rfl ?_
    exact ex_returni hΦ hR dX8_fewestCut_89 h
  · have h := h.2 c
    refine ex_iload_n hΦ dX8_fewestCut_19 rfl ?_
    refine ex_aload_n hΦ dX8_fewestCut_20 rfl o1.1 ?_
    refine ex_getf hΦ fl_X8_7 o1 dX8_fewestCut_21 ?_
    refine ex_bipush hΦ dX8_fewestCut_24 (by decide) ?_
    obtain ⟨o6, h⟩ := h
    refine ex_iald' hΦ o6 dX8_fewestCut_26 ?_
    refine ex_iand hΦ dX8_fewestCut_27 ?_
    obtain ⟨o7, h⟩ := h
    refine ex_if_ne 82 hΦ dX8_fewestCut_28 (by decide) o7 (fun c => ?_) (fun c => ?_)
    · have h := h.1 c
      refine ex_iinc (L' := [some (2, x0), some (0, x1), some (0, x2), some (0, (x3 + 1))]) hΦ dX8_fewestCut_82 rfl (by decide) rfl ?_
      refine ex_goto 9 hΦ dX8_fewestCut_85 (by decide) ?_
      exact h
    · have h := h.2 c
      refine ex_iload_n hΦ dX8_fewestCut_31 rfl ?_
      obtain ⟨o8, h⟩ := h
      refine ex_if_lt 46 hΦ dX8_fewestCut_32 (by decide) o8 (fun c => ?_) (fun c => ?_)
      · have h := h.1 c
        exact h
      · have h := h.2 c
        refine ex_iload_n hΦ dX8_fewestCut_35 rfl ?_
        refine ex_callSi [(0, x3)] [(0, x3)] hΦ lkS_X8_296 ⟨by decide, by decide⟩ (Nat.le_of_ble_eq_true rfl) rfl (by decide) dX8_fewestCut_36 rfl h (fun r9 μ9 h => ?_)
        refine ex_iload_n hΦ dX8_fewestCut_39 rfl ?_
        refine ex_callSi [(0, x2)] [(0, x2), (0, r9)] hΦ lkS_X8_296 ⟨by decide, by decide⟩ (Nat.le_of_ble_eq_true rfl) rfl (by decide) dX8_fewestCut_40 rfl h (fun r10 μ10 h => ?_)
        obtain ⟨o11, h⟩ := h
        obtain ⟨o12, h⟩ := h
        refine ex_icmp_ge 82 hΦ dX8_fewestCut_43 (by decide) o11 o12 (fun c => ?_) (fun c => ?_)
        · have h := h.1 c
          refine ex_iinc (L' := [some (2, x0), some (0, x1), some (0, x2), some (0, (x3 + 1))]) hΦ dX8_fewestCut_82 rfl (by decide) rfl ?_
          refine ex_goto 9 hΦ dX8_fewestCut_85 (by decide) ?_
          exact h
        · have h := h.2 c
          exact h
theorem bX8_fewestCut_46 {G : Gm} {Φ : Fr} {S : List Sh} {μ : Mem} {Q : Int → Mem → Prop} (hΦ : St G Φ cX8_fewestCut RX8 4 5 127 0 0) (hR : Rt G Φ (Pi S Q) 0 0 (some .int)) {x0 x1 x2 x3 : Int} (h : So S x0 (.inl 8) ∧ (Ai S (μ x0 0) 0 10 ∧ (Cv G mX8_findRates [(2, x0), (0, (mor (μ (μ x0 0) 10) x3)), (0, 0)] S μ (fun μ3 => R32 (μ3 x0 29) ∧ (((μ3 x0 29) ≠ 0 → Ex G Φ 4 9 [some (2, x0), some (0, x1), some (0, x2), some (0, (x3 + 1))] [] S μ3 0 0) ∧ ((μ3 x0 29) = 0 → Ci G mX8_turning [(2, x0)] S μ3 (fun r5 μ5 => R32 (mand r5 x1) ∧ (((mand r5 x1) ≠ 0 → Ex G Φ 4 9 [some (2, x0), some (0, x1), some (0, x2), some (0, (x3 + 1))] [] S μ5 0 0) ∧ ((mand r5 x1) = 0 → Ex G Φ 4 9 [some (2, x0), some (0, x1), some (0, x3), some (0, (x3 + 1))] [] S μ5 0 0))))))))) : Ex G Φ 4 46 [some (2, x0), some (0, x1), some (0, x2), some (0, x3)] [] S μ 0 0 := by
  obtain ⟨o1, h⟩ := h
  refine ex_aload_n hΦ dX8_fewestCut_46 rfl o1.1 ?_
  refine ex_aload_n hΦ dX8_fewestCut_47 rfl o1.1 ?_
  refine ex_getf hΦ fl_X8_7 o1 dX8_fewestCut_48 ?_
  refine ex_bipush hΦ dX8_fewestCut_51 (by decide) ?_
  obtain ⟨o2, h⟩ := h
  refine ex_iald' hΦ o2 dX8_fewestCut_53 ?_
  refine ex_iload_n hΦ dX8_fewestCut_54 rfl ?_
  refine ex_ior hΦ dX8_fewestCut_55 ?_
  refine ex_iconst hΦ dX8_fewestCut_56 ?_
  refine ex_callVv [(0, (mor (μ (μ x0 0) 10) x3)), (0, 0)] [(0, 0), (0, (mor (μ (μ x0 0) 10) x3)), (2, x0)] hΦ lkV_X8_214 ⟨by decide, by decide⟩ (Nat.le_of_ble_eq_true rfl) rfl (by decide) 8 (by decide) rfl o1 dX8_fewestCut_57 rfl h (fun μ3 h => ?_)
  refine ex_aload_n hΦ dX8_fewestCut_60 rfl o1.1 ?_
  refine ex_getf hΦ fl_X8_200 o1 dX8_fewestCut_61 ?_
  obtain ⟨o4, h⟩ := h
  refine ex_if_ne 80 hΦ dX8_fewestCut_64 (by decide) o4 (fun c => ?_) (fun c => ?_)
  · have h := h.1 c
    refine ex_iload_n hΦ dX8_fewestCut_80 rfl ?_
    refine ex_istore_n (L' := [some (2, x0), some (0, x1), some (0, x2), some (0, x3)]) hΦ dX8_fewestCut_81 (by decide) rfl ?_
    refine ex_iinc (L' := [some (2, x0), some (0, x1), some (0, x2), some (0, (x3 + 1))]) hΦ dX8_fewestCut_82 rfl (by decide) rfl ?_
    refine ex_goto 9 hΦ dX8_fewestCut_85 (by decide) ?_
    exact h
  · have h := h.2 c
    refine ex_aload_n hΦ dX8_fewestCut_67 rfl o1.1 ?_
    refine ex_callVi [] [(2, x0)] hΦ lkV_X8_234 ⟨by decide, by decide⟩ (Nat.le_of_ble_eq_true rfl) rfl (by decide) 8 (by decide) rfl o1 dX8_fewestCut_68 rfl h (fun r5 μ5 h => ?_)
    refine ex_iload_n hΦ dX8_fewestCut_71 rfl ?_
    refine ex_iand hΦ dX8_fewestCut_72 ?_
    obtain ⟨o6, h⟩ := h
    refine ex_if_ne 80 hΦ dX8_fewestCut_73 (by decide) o6 (fun c => ?_) (fun c => ?_)
    · have h := h.1 c
      refine ex_iload_n hΦ dX8_fewestCut_80 rfl ?_
      refine ex_istore_n (L' := [some (2, x0), some (0, x1), some (0, x2), some (0, x3)]) hΦ dX8_fewestCut_81 (by decide) rfl ?_
      refine ex_iinc (L' := [some (2, x0), some (0, x1), some (0, x2), some (0, (x3 + 1))]) hΦ dX8_fewestCut_82 rfl (by decide) rfl ?_
      refine ex_goto 9 hΦ dX8_fewestCut_85 (by decide) ?_
      exact h
    · have h := h.2 c
      refine ex_iload_n hΦ dX8_fewestCut_76 rfl ?_
      refine ex_goto 81 hΦ dX8_fewestCut_77 (by decide) ?_
      refine ex_istore_n (L' := [some (2, x0), some (0, x1), some (0, x3), some (0, x3)]) hΦ dX8_fewestCut_81 (by decide) rfl ?_
      refine ex_iinc (L' := [some (2, x0), some (0, x1), some (0, x3), some (0, (x3 + 1))]) hΦ dX8_fewestCut_82 rfl (by decide) rfl ?_
      refine ex_goto 9 hΦ dX8_fewestCut_85 (by decide) ?_
      exact h
theorem eX8_fewestCut {G : Gm} {S : List Sh} {μ : Mem} {Q : Int → Mem → Prop} {x0 x1 : Int} (h : ∀ Φ : Fr, St G Φ cX8_fewestCut RX8 4 5 127 0 0 → Rt G Φ (Pi S Q) 0 0 (some .int) → Ex G Φ 4 0 [some (2, x0), some (0, x1), none, none] [] S μ 0 0) : Ci G mX8_fewestCut [(2, x0), (0, x1)] S μ Q :=
  call_of' (plainFor_of_name (by decide +kernel)) [some (2, x0), some (0, x1), none, none] rfl (Nat.le_of_ble_eq_true rfl) (fun Φ hΦ hR => h Φ hΦ hR)
theorem bX8_fewestCut_0 {G : Gm} {Φ : Fr} {S : List Sh} {μ : Mem} {Q : Int → Mem → Prop} (hΦ : St G Φ cX8_fewestCut RX8 4 5 127 0 0) (hR : Rt G Φ (Pi S Q) 0 0 (some .int)) {x0 x1 : Int} (h : So S x0 (.inl 8) ∧ (∀ m2 : Mem, m2 = mu μ x0 30 0 → (Ex G Φ 4 9 [some (2, x0), some (0, x1), some (0, (-1)), some (0, 0)] [] S m2 0 0))) : Ex G Φ 4 0 [some (2, x0), some (0, x1), none, none] [] S μ 0 0 := by
  obtain ⟨o1, h⟩ := h
  refine ex_aload_n hΦ dX8_fewestCut_0 rfl o1.1 ?_
  refine ex_iconst hΦ dX8_fewestCut_1 ?_
  obtain ⟨m2, hm2⟩ : ∃ m : Mem, m = mu μ x0 30 0 := ⟨_, rfl⟩
  have h := h m2 hm2
  refine ex_putz' hΦ fl_X8_189 o1 rfl rfl (by decide) (by decide) dX8_fewestCut_2 hm2 ?_
  refine ex_iconst hΦ dX8_fewestCut_5 ?_
  refine ex_istore_n (L' := [some (2, x0), some (0, x1), some (0, (-1)), none]) hΦ dX8_fewestCut_6 (by decide) rfl ?_
  refine ex_iconst hΦ dX8_fewestCut_7 ?_
  refine ex_istore_n (L' := [some (2, x0), some (0, x1), some (0, (-1)), some (0, 0)]) hΦ dX8_fewestCut_8 (by decide) rfl ?_
  exact h
theorem eX8_free {G : Gm} {S : List Sh} {μ : Mem} {Q : Int → Mem → Prop} {x0 x1 : Int} (h : ∀ Φ : Fr, St G Φ cX8_free RX8 3 6 150 0 0 → Rt G Φ (Pi S Q) 0 0 (some .int) → Ex G Φ 3 0 [some (2, x0), some (0, x1), none] [] S μ 0 0) : Ci G mX8_free [(2, x0), (0, x1)] S μ Q :=
  call_of' (plainFor_of_name (by decide +kernel)) [some (2, x0), some (0, x1), none] rfl (Nat.le_of_ble_eq_true rfl) (fun Φ hΦ hR => h Φ hΦ hR)
theorem bX8_free_0 {G : Gm} {Φ : Fr} {S : List Sh} {μ : Mem} {Q : Int → Mem → Prop} (hΦ : St G Φ cX8_free RX8 3 6 150 0 0) (hR : Rt G Φ (Pi S Q) 0 0 (some .int)) {x0 x1 : Int} (h : R32 x1 ∧ (Ci G mX8_in [(1, x1), (1, 0), (1, 1)] S μ (fun r2 μ2 => R32 r2 ∧ ((r2 ≠ 0 → So S x0 (.inl 8) ∧ (Ci G mX8_fewestCut [(2, x0), (0, 0)] S μ2 (fun r5 μ5 => (x1 ≠ 1 → Ci G mX8_ones [(0, r5)] S μ5 (fun r6 μ6 => Q r6 μ6)) ∧ (x1 = 1 → Q r5 μ5)))) ∧ (r2 = 0 → Q (-1000000002) μ2))))) : Ex G Φ 3 0 [some (2, x0), some (0, x1), none] [] S μ 0 0 := by
  refine ex_iload_n hΦ dX8_free_0 rfl ?_
  obtain ⟨o1, h⟩ := h
  refine ex_i2l hΦ dX8_free_1 o1 ?_
  refine ex_lconst (x := 0) hΦ dX8_free_2 (by decide) ?_
  refine ex_lconst (x := 1) hΦ dX8_free_3 (by decide) ?_
  refine ex_callSi [(1, x1), (1, 0), (1, 1)] [(1, 1), (1, 0), (1, x1)] hΦ lkS_X8_91 ⟨by decide, by decide⟩ (Nat.le_of_ble_eq_true rfl) rfl (by decide) dX8_free_4 rfl h (fun r2 μ2 h => ?_)
  obtain ⟨o3, h⟩ := h
  refine ex_if_ne 13 hΦ dX8_free_7 (by decide) o3 (fun c => ?_) (fun c => ?_)
  · have h := h.1 c
    obtain ⟨o4, h⟩ := h
    refine ex_aload_n hΦ dX8_free_13 rfl o4.1 ?_
    refine ex_iconst hΦ dX8_free_14 ?_
    refine ex_callVi [(0, 0)] [(0, 0), (2, x0)] hΦ lkV_X8_299 ⟨by decide, by decide⟩ (Nat.le_of_ble_eq_true rfl) rfl (by decide) 8 (by decide) rfl o4 dX8_free_15 rfl h (fun r5 μ5 h => ?_)
    refine ex_istore_n (L' := [some (2, x0), some (0, x1), some (0, r5)]) hΦ dX8_free_18 (by decide) rfl ?_
    refine ex_iload_n hΦ dX8_free_19 rfl ?_
    refine ex_iconst hΦ dX8_free_20 ?_
    refine ex_icmp_ne 28 hΦ dX8_free_21 (by decide) o1 ⟨by decide, by decide⟩ (fun c => ?_) (fun c => ?_)
    · have h := h.1 c
      refine ex_iload_n hΦ dX8_free_28 rfl ?_
      refine ex_callSi [(0, r5)] [(0, r5)] hΦ lkS_X8_296 ⟨by decide, by decide⟩ (Nat.le_of_ble_eq_true rfl) rfl (by decide) dX8_free_29 rfl h (fun r6 μ6 h => ?_)
      exact ex_returni hΦ hR dX8_free_32 h
    · have h := h.2 c
      refine ex_iload_n hΦ dX8_free_24 rfl ?_
      refine ex_goto 32 hΦ dX8_free_25 (by decide) ?_
      exact ex_returni hΦ hR dX8_free_32 h
  · have h := h.2 c
    refine ex_ldc hΦ dX8_free_10 qw984 ?_
    exact ex_returni hΦ hR dX8_free_12 h
theorem eX8_rest {G : Gm} {S : List Sh} {μ : Mem} {Q : Int → Mem → Prop} {x0 x1 x2 : Int} (h : ∀ Φ : Fr, St G Φ cX8_rest RX8 4 6 150 0 0 → Rt G Φ (Pi S Q) 0 0 (some .int) → Ex G Φ 4 0 [some (2, x0), some (0, x1), some (0, x2), none] [] S μ 0 0) : Ci G mX8_rest [(2, x0), (0, x1), (0, x2)] S μ Q :=
  call_of' (plainFor_of_name (by decide +kernel)) [some (2, x0), some (0, x1), some (0, x2), none] rfl (Nat.le_of_ble_eq_true rfl) (fun Φ hΦ hR => h Φ hΦ hR)
theorem bX8_rest_0 {G : Gm} {Φ : Fr} {S : List Sh} {μ : Mem} {Q : Int → Mem → Prop} (hΦ : St G Φ cX8_rest RX8 4 6 150 0 0) (hR : Rt G Φ (Pi S Q) 0 0 (some .int)) {x0 x1 x2 : Int} (h : R32 x1 ∧ (So S x0 (.inl 8) ∧ (0 ≤ (μ x0 2) ∧ ((μ x0 2) ≤ 31 ∧ (R32 ((1 * 2 ^ (Int.toNat (μ x0 2))) - 1) ∧ (Ci G mX8_in [(1, x1), (1, 0), (1, ((1 * 2 ^ (Int.toNat (μ x0 2))) - 1))] S μ (fun r6 μ6 => R32 r6 ∧ ((r6 ≠ 0 → R32 x2 ∧ (Ci G mX8_in [(1, x2), (1, 0), (1, 1)] S μ6 (fun r9 μ9 => R32 r9 ∧ ((r9 ≠ 0 → Ci G mX8_fewestCut [(2, x0), (0, x1)] S μ9 (fun r11 μ11 => R32 r11 ∧ ((r11 < 0 → Q r11 μ11) ∧ (¬ (r11 < 0) → (x2 ≠ 1 → Ci G mX8_ones [(0, r11)] S μ11 (fun r13 μ13 => Q r13 μ13)) ∧ (x2 = 1 → Q r11 μ11))))) ∧ (r9 = 0 → Q (-1000000002) μ9))))) ∧ (r6 = 0 → Q (-1000000001) μ6))))))))) : Ex G Φ 4 0 [some (2, x0), some (0, x1), some (0, x2), none] [] S μ 0 0 := by
  refine ex_iload_n hΦ dX8_rest_0 rfl ?_
  obtain ⟨o1, h⟩ := h
  refine ex_i2l hΦ dX8_rest_1 o1 ?_
  refine ex_lconst (x := 0) hΦ dX8_rest_2 (by decide) ?_
  refine ex_iconst hΦ dX8_rest_3 ?_
  obtain ⟨o2, h⟩ := h
  refine ex_aload_n hΦ dX8_rest_4 rfl o2.1 ?_
  refine ex_getf hΦ fl_X8_177 o2 dX8_rest_5 ?_
  obtain ⟨o3, h⟩ := h
  obtain ⟨o4, h⟩ := h
  refine ex_ishl hΦ dX8_rest_8 o3 o4 ?_
  refine ex_iconst hΦ dX8_rest_9 ?_
  refine ex_isub hΦ dX8_rest_10 ?_
  obtain ⟨o5, h⟩ := h
  refine ex_i2l hΦ dX8_rest_11 o5 ?_
  refine ex_callSi [(1, x1), (1, 0), (1, ((1 * 2 ^ (Int.toNat (μ x0 2))) - 1))] [(1, ((1 * 2 ^ (Int.toNat (μ x0 2))) - 1)), (1, 0), (1, x1)] hΦ lkS_X8_91 ⟨by decide, by decide⟩ (Nat.le_of_ble_eq_true rfl) rfl (by decide) dX8_rest_12 rfl h (fun r6 μ6 h => ?_)
  obtain ⟨o7, h⟩ := h
  refine ex_if_ne 21 hΦ dX8_rest_15 (by decide) o7 (fun c => ?_) (fun c => ?_)
  · have h := h.1 c
    refine ex_iload_n hΦ dX8_rest_21 rfl ?_
    obtain ⟨o8, h⟩ := h
    refine ex_i2l hΦ dX8_rest_22 o8 ?_
    refine ex_lconst (x := 0) hΦ dX8_rest_23 (by decide) ?_
    refine ex_lconst (x := 1) hΦ dX8_rest_24 (by decide) ?_
    refine ex_callSi [(1, x2), (1, 0), (1, 1)] [(1, 1), (1, 0), (1, x2)] hΦ lkS_X8_91 ⟨by decide, by decide⟩ (Nat.le_of_ble_eq_true rfl) rfl (by decide) dX8_rest_25 rfl h (fun r9 μ9 h => ?_)
    obtain ⟨o10, h⟩ := h
    refine ex_if_ne 34 hΦ dX8_rest_28 (by decide) o10 (fun c => ?_) (fun c => ?_)
    · have h := h.1 c
      refine ex_aload_n hΦ dX8_rest_34 rfl o2.1 ?_
      refine ex_iload_n hΦ dX8_rest_35 rfl ?_
      refine ex_callVi [(0, x1)] [(0, x1), (2, x0)] hΦ lkV_X8_299 ⟨by decide, by decide⟩ (Nat.le_of_ble_eq_true rfl) rfl (by decide) 8 (by decide) rfl o2 dX8_rest_36 rfl h (fun r11 μ11 h => ?_)
      refine ex_istore_n (L' := [some (2, x0), some (0, x1), some (0, x2), some (0, r11)]) hΦ dX8_rest_39 (by decide) rfl ?_
      refine ex_iload_n hΦ dX8_rest_40 rfl ?_
      obtain ⟨o12, h⟩ := h
      refine ex_if_lt 49 hΦ dX8_rest_41 (by decide) o12 (fun c => ?_) (fun c => ?_)
      · have h := h.1 c
        refine ex_iload_n hΦ dX8_rest_49 rfl ?_
        refine ex_goto 57 hΦ dX8_rest_50 (by decide) ?_
        exact ex_returni hΦ hR dX8_rest_57 h
      · have h := h.2 c
        refine ex_iload_n hΦ dX8_rest_44 rfl ?_
        refine ex_iconst hΦ dX8_rest_45 ?_
        refine ex_icmp_ne 53 hΦ dX8_rest_46 (by decide) o8 ⟨by decide, by decide⟩ (fun c => ?_) (fun c => ?_)
        · have h := h.1 c
          refine ex_iload_n hΦ dX8_rest_53 rfl ?_
          refine ex_callSi [(0, r11)] [(0, r11)] hΦ lkS_X8_296 ⟨by decide, by decide⟩ (Nat.le_of_ble_eq_true rfl) rfl (by decide) dX8_rest_54 rfl h (fun r13 μ13 h => ?_)
          exact ex_returni hΦ hR dX8_rest_57 h
        · have h := h.2 c
          refine ex_iload_n hΦ dX8_rest_49 rfl ?_
          refine ex_goto 57 hΦ dX8_rest_50 (by decide) ?_
          exact ex_returni hΦ hR dX8_rest_57 h
    · have h := h.2 c
      refine ex_ldc hΦ dX8_rest_31 qw984 ?_
      exact ex_returni hΦ hR dX8_rest_33 h
  · have h := h.2 c
    refine ex_ldc hΦ dX8_rest_18 qw1098 ?_
    exact ex_returni hΦ hR dX8_rest_20 h
theorem eX8_wear {G : Gm} {S : List Sh} {μ : Mem} {Q : Int → Mem → Prop} {x0 x1 x2 : Int} (h : ∀ Φ : Fr, St G Φ cX8_wear RX8 8 6 147 0 0 → Rt G Φ (Pi S Q) 0 0 (some .int) → Ex G Φ 8 0 [some (2, x0), some (0, x1), some (0, x2), none, none, none, none, none] [] S μ 0 0) : Ci G mX8_wear [(2, x0), (0, x1), (0, x2)] S μ Q :=
  call_of' (plainFor_of_name (by decide +kernel)) [some (2, x0), some (0, x1), some (0, x2), none, none, none, none, none] rfl (Nat.le_of_ble_eq_true rfl) (fun Φ hΦ hR => h Φ hΦ hR)
theorem bX8_wear_0 {G : Gm} {Φ : Fr} {S : List Sh} {μ : Mem} {Q : Int → Mem → Prop} (hΦ : St G Φ cX8_wear RX8 8 6 147 0 0) (hR : Rt G Φ (Pi S Q) 0 0 (some .int)) {x0 x1 x2 : Int} (h : So S x0 (.inl 8) ∧ (Ci G mX8_isLink [(2, x0), (0, x1)] S μ (fun r2 μ2 => R32 r2 ∧ ((r2 ≠ 0 → R32 x2 ∧ (Ci G mX8_in [(1, x2), (1, 0), (1, 1)] S μ2 (fun r5 μ5 => R32 r5 ∧ ((r5 ≠ 0 → Ai S (μ5 x0 15) 0 x1 ∧ (R32 (μ5 (μ5 x0 15) x1) ∧ (((μ5 (μ5 x0 15) x1) = 0 → Ai S (μ5 x0 16) 0 x1 ∧ (Ai S (μ5 x0 13) 0 (μ5 (μ5 x0 16) x1) ∧ (R32 (μ5 (μ5 x0 13) (μ5 (μ5 x0 16) x1)) ∧ (Ai S (μ5 x0 17) 0 x1 ∧ (Ai S (μ5 x0 13) 0 (μ5 (μ5 x0 17) x1) ∧ (R32 (μ5 (μ5 x0 13) (μ5 (μ5 x0 17) x1)) ∧ (Cj G mX8_common [(1, (μ5 (μ5 x0 13) (μ5 (μ5 x0 16) x1))), (1, (μ5 (μ5 x0 13) (μ5 (μ5 x0 17) x1)))] S μ5 (fun r15 μ15 => (x2 ≠ 0 → Cv G mX8_ratesNow [(2, x0)] S μ15 (fun μ16 => Ai S (μ16 x0 16) 0 x1 ∧ (Ai S (μ16 x0 27) 1 (μ16 (μ16 x0 16) x1) ∧ (Cj G mX8_size [(1, (μ16 (μ16 x0 27) (μ16 (μ16 x0 16) x1)))] S μ16 (fun r19 μ19 => Ai S (μ19 x0 0) 0 10 ∧ (Ci G mX8_has [(0, (μ19 (μ19 x0 0) 10)), (0, x1)] S μ19 (fun r21 μ21 => R32 r21 ∧ ((r21 ≠ 0 → Q (-1) μ21) ∧ (r21 = 0 → R64 r19 ∧ ((r19 ≠ 0 → Ai S (μ21 x0 16) 0 x1 ∧ (Ai S (μ21 x0 13) 0 (μ21 (μ21 x0 16) x1) ∧ (R32 (μ21 (μ21 x0 13) (μ21 (μ21 x0 16) x1)) ∧ (R32 r15 ∧ (R64 (μ21 (μ21 x0 13) (μ21 (μ21 x0 16) x1)) ∧ (R64 r15 ∧ (r15 ≠ 0 ∧ (Ai S (μ21 x0 17) 0 x1 ∧ (Ai S (μ21 x0 13) 0 (μ21 (μ21 x0 17) x1) ∧ (R32 (μ21 (μ21 x0 13) (μ21 (μ21 x0 17) x1)) ∧ (Ai S (μ21 x0 28) 1 (μ21 (μ21 x0 16) x1) ∧ (R64 (((((Int.tdiv (μ21 (μ21 x0 13) (μ21 (μ21 x0 16) x1)) r15) * (μ21 (μ21 x0 13) (μ21 (μ21 x0 17) x1))) * (μ21 (μ21 x0 28) (μ21 (μ21 x0 16) x1))) + r19) - 1) ∧ (r19 ≠ 0 ∧ Q (Int.tdiv (((((Int.tdiv (μ21 (μ21 x0 13) (μ21 (μ21 x0 16) x1)) r15) * (μ21 (μ21 x0 13) (μ21 (μ21 x0 17) x1))) * (μ21 (μ21 x0 28) (μ21 (μ21 x0 16) x1))) + r19) - 1) r19) μ21))))))))))))) ∧ (r19 = 0 → Q (-1) μ21))))))))))) ∧ (x2 = 0 → Ai S (μ15 x0 17) 0 x1 ∧ (Ai S (μ15 x0 13) 0 (μ15 (μ15 x0 17) x1) ∧ (R32 (μ15 (μ15 x0 13) (μ15 (μ15 x0 17) x1)) ∧ (R32 r15 ∧ (r15 ≠ 0 ∧ Q (Int.tdiv (μ15 (μ15 x0 13) (μ15 (μ15 x0 17) x1)) r15) μ15))))))))))))) ∧ (¬ ((μ5 (μ5 x0 15) x1) = 0) → Q (-1000000003) μ5)))) ∧ (r5 = 0 → Q (-1000000002) μ5))))) ∧ (r2 = 0 → Q (-1000000001) μ2))))) : Ex G Φ 8 0 [some (2, x0), some (0, x1), some (0, x2), none, none, none, none, none] [] S μ 0 0 := by
  obtain ⟨o1, h⟩ := h
  refine ex_aload_n hΦ dX8_wear_0 rfl o1.1 ?_
  refine ex_iload_n hΦ dX8_wear_1 rfl ?_
  refine ex_callVi [(0, x1)] [(0, x1), (2, x0)] hΦ lkV_X8_245 ⟨by decide, by decide⟩ (Nat.le_of_ble_eq_true rfl) rfl (by decide) 8 (by decide) rfl o1 dX8_wear_2 rfl h (fun r2 μ2 h => ?_)
  obtain ⟨o3, h⟩ := h
  refine ex_if_ne 11 hΦ dX8_wear_5 (by decide) o3 (fun c => ?_) (fun c => ?_)
  · have h := h.1 c
    refine ex_iload_n hΦ dX8_wear_11 rfl ?_
    obtain ⟨o4, h⟩ := h
    refine ex_i2l hΦ dX8_wear_12 o4 ?_
    refine ex_lconst (x := 0) hΦ dX8_wear_13 (by decide) ?_
    refine ex_lconst (x := 1) hΦ dX8_wear_14 (by decide) ?_
    refine ex_callSi [(1, x2), (1, 0), (1, 1)] [(1, 1), (1, 0), (1, x2)] hΦ lkS_X8_91 ⟨by decide, by decide⟩ (Nat.le_of_ble_eq_true rfl) rfl (by decide) dX8_wear_15 rfl h (fun r5 μ5 h => ?_)
    obtain ⟨o6, h⟩ := h
    refine ex_if_ne 24 hΦ dX8_wear_18 (by decide) o6 (fun c => ?_) (fun c => ?_)
    · have h := h.1 c
      refine ex_aload_n hΦ dX8_wear_24 rfl o1.1 ?_
      refine ex_getf hΦ fl_X8_27 o1 dX8_wear_25 ?_
      refine ex_iload_n hΦ dX8_wear_28 rfl ?_
      obtain ⟨o7, h⟩ := h
      refine ex_iald' hΦ o7 dX8_wear_29 ?_
      obtain ⟨o8, h⟩ := h
      refine ex_if_eq 37 hΦ dX8_wear_30 (by decide) o8 (fun c => ?_) (fun c => ?_)
      · have h := h.1 c
        refine ex_aload_n hΦ dX8_wear_37 rfl o1.1 ?_
        refine ex_getf hΦ fl_X8_21 o1 dX8_wear_38 ?_
        refine ex_aload_n hΦ dX8_wear_41 rfl o1.1 ?_
        refine ex_getf hΦ fl_X8_30 o1 dX8_wear_42 ?_
        refine ex_iload_n hΦ dX8_wear_45 rfl ?_
        obtain ⟨o9, h⟩ := h
        refine ex_iald' hΦ o9 dX8_wear_46 ?_
        obtain ⟨o10, h⟩ := h
        refine ex_iald' hΦ o10 dX8_wear_47 ?_
        obtain ⟨o11, h⟩ := h
        refine ex_i2l hΦ dX8_wear_48 o11 ?_
        refine ex_aload_n hΦ dX8_wear_49 rfl o1.1 ?_
        refine ex_getf hΦ fl_X8_21 o1 dX8_wear_50 ?_
        refine ex_aload_n hΦ dX8_wear_53 rfl o1.1 ?_
        refine ex_getf hΦ fl_X8_33 o1 dX8_wear_54 ?_
        refine ex_iload_n hΦ dX8_wear_57 rfl ?_
        obtain ⟨o12, h⟩ := h
        refine ex_iald' hΦ o12 dX8_wear_58 ?_
        obtain ⟨o13, h⟩ := h
        refine ex_iald' hΦ o13 dX8_wear_59 ?_
        obtain ⟨o14, h⟩ := h
        refine ex_i2l hΦ dX8_wear_60 o14 ?_
        refine ex_callSj [(1, (μ5 (μ5 x0 13) (μ5 (μ5 x0 16) x1))), (1, (μ5 (μ5 x0 13) (μ5 (μ5 x0 17) x1)))] [(1, (μ5 (μ5 x0 13) (μ5 (μ5 x0 17) x1))), (1, (μ5 (μ5 x0 13) (μ5 (μ5 x0 16) x1)))] hΦ lkS_X8_196 ⟨by decide, by decide⟩ (Nat.le_of_ble_eq_true rfl) rfl (by decide) dX8_wear_61 rfl h (fun r15 μ15 h => ?_)
        refine ex_l2i hΦ dX8_wear_64 ?_
        refine ex_istore_n (L' := [some (2, x0), some (0, x1), some (0, x2), some (0, r15), none, none, none, none]) hΦ dX8_wear_65 (by decide) rfl ?_
        refine ex_iload_n hΦ dX8_wear_66 rfl ?_
        refine ex_if_ne 84 hΦ dX8_wear_67 (by decide) o4 (fun c => ?_) (fun c => ?_)
        · have h := h.1 c
          refine ex_aload_n hΦ dX8_wear_84 rfl o1.1 ?_
          refine ex_callVv [] [(2, x0)] hΦ lkV_X8_231 ⟨by decide, by decide⟩ (Nat.le_of_ble_eq_true rfl) rfl (by decide) 8 (by decide) rfl o1 dX8_wear_85 rfl h (fun μ16 h => ?_)
          refine ex_aload_n hΦ dX8_wear_88 rfl o1.1 ?_
          refine ex_getf hΦ fl_X8_51 o1 dX8_wear_89 ?_
          refine ex_aload_n hΦ dX8_wear_92 rfl o1.1 ?_
          refine ex_getf hΦ fl_X8_30 o1 dX8_wear_93 ?_
          refine ex_iload_n hΦ dX8_wear_96 rfl ?_
          obtain ⟨o17, h⟩ := h
          refine ex_iald' hΦ o17 dX8_wear_97 ?_
          obtain ⟨o18, h⟩ := h
          refine ex_lald' hΦ o18 dX8_wear_98 ?_
          refine ex_callSj [(1, (μ16 (μ16 x0 27) (μ16 (μ16 x0 16) x1)))] [(1, (μ16 (μ16 x0 27) (μ16 (μ16 x0 16) x1)))] hΦ lkS_X8_85 ⟨by decide, by decide⟩ (Nat.le_of_ble_eq_true rfl) rfl (by decide) dX8_wear_99 rfl h (fun r19 μ19 h => ?_)
          refine ex_lstore (L' := [some (2, x0), some (0, x1), some (0, x2), some (0, r15), some (1, r19), none, none, none]) hΦ dX8_wear_102 (by decide) rfl ?_
          refine ex_aload_n hΦ dX8_wear_104 rfl o1.1 ?_
          refine ex_getf hΦ fl_X8_7 o1 dX8_wear_105 ?_
          refine ex_bipush hΦ dX8_wear_108 (by decide) ?_
          obtain ⟨o20, h⟩ := h
          refine ex_iald' hΦ o20 dX8_wear_110 ?_
          refine ex_iload_n hΦ dX8_wear_111 rfl ?_
          refine ex_callSi [(0, (μ19 (μ19 x0 0) 10)), (0, x1)] [(0, x1), (0, (μ19 (μ19 x0 0) 10))] hΦ lkS_X8_192 ⟨by decide, by decide⟩ (Nat.le_of_ble_eq_true rfl) rfl (by decide) dX8_wear_112 rfl h (fun r21 μ21 h => ?_)
          obtain ⟨o22, h⟩ := h
          refine ex_if_ne 125 hΦ dX8_wear_115 (by decide) o22 (fun c => ?_) (fun c => ?_)
          · have h := h.1 c
            refine ex_iconst hΦ dX8_wear_125 ?_
            exact ex_returni hΦ hR dX8_wear_126 h
          · have h := h.2 c
            refine ex_lload hΦ dX8_wear_118 rfl ?_
            refine ex_lconst (x := 0) hΦ dX8_wear_120 (by decide) ?_
            obtain ⟨o23, h⟩ := h
            refine ex_lcmp hΦ dX8_wear_121 o23 ⟨by decide, by decide⟩ ?_
            refine ex_lif_ne 127 hΦ dX8_wear_122 (by decide) (fun c => ?_) (fun c => ?_)
            · have h := h.1 c
              refine ex_aload_n hΦ dX8_wear_127 rfl o1.1 ?_
              refine ex_getf hΦ fl_X8_21 o1 dX8_wear_128 ?_
              refine ex_aload_n hΦ dX8_wear_131 rfl o1.1 ?_
              refine ex_getf hΦ fl_X8_30 o1 dX8_wear_132 ?_
              refine ex_iload_n hΦ dX8_wear_135 rfl ?_
              obtain ⟨o24, h⟩ := h
              refine ex_iald' hΦ o24 dX8_wear_136 ?_
              obtain ⟨o25, h⟩ := h
              refine ex_iald' hΦ o25 dX8_wear_137 ?_
              obtain ⟨o26, h⟩ := h
              refine ex_i2l hΦ dX8_wear_138 o26 ?_
              refine ex_iload_n hΦ dX8_wear_139 rfl ?_
              obtain ⟨o27, h⟩ := h
              refine ex_i2l hΦ dX8_wear_140 o27 ?_
              obtain ⟨o28, h⟩ := h
              obtain ⟨o29, h⟩ := h
              obtain ⟨o30, h⟩ := h
              refine ex_ldiv hΦ dX8_wear_141 o28 o29 o30 ?_
              refine ex_aload_n hΦ dX8_wear_142 rfl o1.1 ?_
              refine ex_getf hΦ fl_X8_21 o1 dX8_wear_143 ?_
              refine ex_aload_n hΦ dX8_wear_146 rfl o1.1 ?_
              refine ex_getf hΦ fl_X8_33 o1 dX8_wear_147 ?_
              refine ex_iload_n hΦ dX8_wear_150 rfl ?_
              obtain ⟨o31, h⟩ := h
              refine ex_iald' hΦ o31 dX8_wear_151 ?_
              obtain ⟨o32, h⟩ := h
              refine ex_iald' hΦ o32 dX8_wear_152 ?_
              obtain ⟨o33, h⟩ := h
              refine ex_i2l hΦ dX8_wear_153 o33 ?_
              refine ex_lmul hΦ dX8_wear_154 ?_
              refine ex_aload_n hΦ dX8_wear_155 rfl o1.1 ?_
              refine ex_getf hΦ fl_X8_55 o1 dX8_wear_156 ?_
              refine ex_aload_n hΦ dX8_wear_159 rfl o1.1 ?_
              refine ex_getf hΦ fl_X8_30 o1 dX8_wear_160 ?_
              refine ex_iload_n hΦ dX8_wear_163 rfl ?_
              refine ex_iald' hΦ o24 dX8_wear_164 ?_
              obtain ⟨o34, h⟩ := h
              refine ex_lald' hΦ o34 dX8_wear_165 ?_
              refine ex_lmul hΦ dX8_wear_166 ?_
              refine ex_lstore (L' := [some (2, x0), some (0, x1), some (0, x2), some (0, r15), some (1, r19), none, some (1, (((Int.tdiv (μ21 (μ21 x0 13) (μ21 (μ21 x0 16) x1)) r15) * (μ21 (μ21 x0 13) (μ21 (μ21 x0 17) x1))) * (μ21 (μ21 x0 28) (μ21 (μ21 x0 16) x1)))), none]) hΦ dX8_wear_167 (by decide) rfl ?_
              refine ex_lload hΦ dX8_wear_169 rfl ?_
              refine ex_lload hΦ dX8_wear_171 rfl ?_
              refine ex_ladd hΦ dX8_wear_173 ?_
              refine ex_lconst (x := 1) hΦ dX8_wear_174 (by decide) ?_
              refine ex_lsub hΦ dX8_wear_175 ?_
              refine ex_lload hΦ dX8_wear_176 rfl ?_
              obtain ⟨o35, h⟩ := h
              obtain ⟨o36, h⟩ := h
              refine ex_ldiv hΦ dX8_wear_178 o35 o23 o36 ?_
              refine ex_l2i hΦ dX8_wear_179 ?_
              exact ex_returni hΦ hR dX8_wear_180 h
            · have h := h.2 c
              refine ex_iconst hΦ dX8_wear_125 ?_
              exact ex_returni hΦ hR dX8_wear_126 h
        · have h := h.2 c
          refine ex_aload_n hΦ dX8_wear_70 rfl o1.1 ?_
          refine ex_getf hΦ fl_X8_21 o1 dX8_wear_71 ?_
          refine ex_aload_n hΦ dX8_wear_74 rfl o1.1 ?_
          refine ex_getf hΦ fl_X8_33 o1 dX8_wear_75 ?_
          refine ex_iload_n hΦ dX8_wear_78 rfl ?_
          obtain ⟨o37, h⟩ := h
          refine ex_iald' hΦ o37 dX8_wear_79 ?_
          obtain ⟨o38, h⟩ := h
          refine ex_iald' hΦ o38 dX8_wear_80 ?_
          refine ex_iload_n hΦ dX8_wear_81 rfl ?_
          obtain ⟨o39, h⟩ := h
          obtain ⟨o40, h⟩ := h
          obtain ⟨o41, h⟩ := h
          refine ex_idiv hΦ dX8_wear_82 o39 o40 o41 ?_
          exact ex_returni hΦ hR dX8_wear_83 h
      · have h := h.2 c
        refine ex_ldcw hΦ dX8_wear_33 qw1125 ?_
        exact ex_returni hΦ hR dX8_wear_36 h
    · have h := h.2 c
      refine ex_ldc hΦ dX8_wear_21 qw984 ?_
      exact ex_returni hΦ hR dX8_wear_23 h
  · have h := h.2 c
    refine ex_ldc hΦ dX8_wear_8 qw1098 ?_
    exact ex_returni hΦ hR dX8_wear_10 h
theorem bX8_findFar_2 {G : Gm} {Φ : Fr} {S : List Sh} {μ : Mem} {Q : Mem → Prop} (hΦ : St G Φ cX8_findFar RX8 5 1 21 0 0) (hR : Rt G Φ (Pv S Q) 0 0 none) {x0 x1 : Int} (h : R32 x1 ∧ ((8 ≤ x1 → Ex G Φ 5 36 [some (2, x0), some (0, 0), none, none, none] [] S μ 0 0) ∧ (¬ (8 ≤ x1) → So S x0 (.inl 8) ∧ (R32 (μ x0 5) ∧ ((x1 ≠ (μ x0 5) → Ai S (μ x0 32) 0 x1 ∧ (∀ m5 : Mem, m5 = mu μ (μ x0 32) x1 99 → (Ex G Φ 5 2 [some (2, x0), some (0, (x1 + 1)), none, none, none] [] S m5 0 0))) ∧ (x1 = (μ x0 5) → Ai S (μ x0 32) 0 x1 ∧ (∀ m7 : Mem, m7 = mu μ (μ x0 32) x1 0 → (Ex G Φ 5 2 [some (2, x0), some (0, (x1 + 1)), none, none, none] [] S m7 0 0)))))))) : Ex G Φ 5 2 [some (2, x0), some (0, x1), none, none, none] [] S μ 0 0 := by
  refine ex_iload_n hΦ dX8_findFar_2 rfl ?_
  refine ex_bipush hΦ dX8_findFar_3 (by decide) ?_
  obtain ⟨o1, h⟩ := h
  refine ex_icmp_ge 34 hΦ dX8_findFar_5 (by decide) o1 ⟨by decide, by decide⟩ (fun c => ?_) (fun c => ?_)
  · have h := h.1 c
    refine ex_iconst hΦ dX8_findFar_34 ?_
    refine ex_istore_n (L' := [some (2, x0), some (0, 0), none, none, none]) hΦ dX8_findFar_35 (by decide) rfl ?_
    exact h
  · have h := h.2 c
    obtain ⟨o2, h⟩ := h
    refine ex_aload_n hΦ dX8_findFar_8 rfl o2.1 ?_
    refine ex_getf hΦ fl_X8_58 o2 dX8_findFar_9 ?_
    refine ex_iload_n hΦ dX8_findFar_12 rfl ?_
    refine ex_iload_n hΦ dX8_findFar_13 rfl ?_
    refine ex_aload_n hΦ dX8_findFar_14 rfl o2.1 ?_
    refine ex_getf hΦ fl_X8_186 o2 dX8_findFar_15 ?_
    obtain ⟨o3, h⟩ := h
    refine ex_icmp_ne 25 hΦ dX8_findFar_18 (by decide) o1 o3 (fun c => ?_) (fun c => ?_)
    · have h := h.1 c
      refine ex_bipush hΦ dX8_findFar_25 (by decide) ?_
      obtain ⟨o4, h⟩ := h
      obtain ⟨m5, hm5⟩ : ∃ m : Mem, m = mu μ (μ x0 32) x1 99 := ⟨_, rfl⟩
      have h := h m5 hm5
      refine ex_iast'' hΦ o4 dX8_findFar_27 hm5 ?_
      refine ex_iinc (L' := [some (2, x0), some (0, (x1 + 1)), none, none, none]) hΦ dX8_findFar_28 rfl (by decide) rfl ?_
      refine ex_goto 2 hΦ dX8_findFar_31 (by decide) ?_
      exact h
    · have h := h.2 c
      refine ex_iconst hΦ dX8_findFar_21 ?_
      refine ex_goto 27 hΦ dX8_findFar_22 (by decide) ?_
      obtain ⟨o6, h⟩ := h
      obtain ⟨m7, hm7⟩ : ∃ m : Mem, m = mu μ (μ x0 32) x1 0 := ⟨_, rfl⟩
      have h := h m7 hm7
      refine ex_iast'' hΦ o6 dX8_findFar_27 hm7 ?_
      refine ex_iinc (L' := [some (2, x0), some (0, (x1 + 1)), none, none, none]) hΦ dX8_findFar_28 rfl (by decide) rfl ?_
      refine ex_goto 2 hΦ dX8_findFar_31 (by decide) ?_
      exact h
theorem bX8_findFar_36 {G : Gm} {Φ : Fr} {S : List Sh} {μ : Mem} {Q : Mem → Prop} (hΦ : St G Φ cX8_findFar RX8 5 1 21 0 0) (hR : Rt G Φ (Pv S Q) 0 0 none) {x0 x1 : Int} (h : R32 x1 ∧ ((8 ≤ x1 → Q μ) ∧ (¬ (8 ≤ x1) → Ex G Φ 5 44 [some (2, x0), some (0, x1), some (0, 0), none, none] [] S μ 0 0))) : Ex G Φ 5 36 [some (2, x0), some (0, x1), none, none, none] [] S μ 0 0 := by
  refine ex_iload_n hΦ dX8_findFar_36 rfl ?_
  refine ex_bipush hΦ dX8_findFar_37 (by decide) ?_
  obtain ⟨o1, h⟩ := h
  refine ex_icmp_ge 215 hΦ dX8_findFar_39 (by decide) o1 ⟨by decide, by decide⟩ (fun c => ?_) (fun c => ?_)
  · have h := h.1 c
    exact ex_returnv hΦ hR dX8_findFar_215 h
  · have h := h.2 c
    refine ex_iconst hΦ dX8_findFar_42 ?_
    refine ex_istore_n (L' := [some (2, x0), some (0, x1), some (0, 0), none, none]) hΦ dX8_findFar_43 (by decide) rfl ?_
    exact h
theorem bX8_findFar_44 {G : Gm} {Φ : Fr} {S : List Sh} {μ : Mem} {Q : Mem → Prop} (hΦ : St G Φ cX8_findFar RX8 5 1 21 0 0) (hR : Rt G Φ (Pv S Q) 0 0 none) {x0 x1 x2 : Int} (h : So S x0 (.inl 8) ∧ (R32 x2 ∧ (R32 (μ x0 3) ∧ (((μ x0 3) ≤ x2 → Ex G Φ 5 36 [some (2, x0), some (0, (x1 + 1)), none, none, none] [] S μ 0 0) ∧ (¬ ((μ x0 3) ≤ x2) → Ai S (μ x0 0) 0 10 ∧ (Ci G mX8_has [(0, (μ (μ x0 0) 10)), (0, x2)] S μ (fun r5 μ5 => R32 r5 ∧ ((r5 = 0 → Ai S (μ5 x0 16) 0 x2 ∧ (Ai S (μ5 x0 32) 0 (μ5 (μ5 x0 16) x2) ∧ Ex G Φ 5 84 [some (2, x0), some (0, x1), some (0, x2), none, none] [(0, ((μ5 (μ5 x0 32) (μ5 (μ5 x0 16) x2)) + 1))] S μ5 0 0)) ∧ (¬ (r5 = 0) → Ex G Φ 5 84 [some (2, x0), some (0, x1), some (0, x2), none, none] [(0, 99)] S μ5 0 0))))))))) : Ex G Φ 5 44 [some (2, x0), some (0, x1), some (0, x2), none, none] [] S μ 0 0 := by
  refine ex_iload_n hΦ dX8_findFar_44 rfl ?_
  obtain ⟨o1, h⟩ := h
  refine ex_aload_n hΦ dX8_findFar_45 rfl o1.1 ?_
  refine ex_getf hΦ fl_X8_180 o1 dX8_findFar_46 ?_
  obtain ⟨o2, h⟩ := h
  obtain ⟨o3, h⟩ := h
  refine ex_icmp_ge 209 hΦ dX8_findFar_49 (by decide) o2 o3 (fun c => ?_) (fun c => ?_)
  · have h := h.1 c
    refine ex_iinc (L' := [some (2, x0), some (0, (x1 + 1)), some (0, x2), none, none]) hΦ dX8_findFar_209 rfl (by decide) rfl ?_
    refine ex_goto 36 hΦ dX8_findFar_212 (by decide) ?_
    refine ex_forget (L' := [some (2, x0), some (0, (x1 + 1)), none, none, none]) [2] rfl ?_
    exact h
  · have h := h.2 c
    refine ex_aload_n hΦ dX8_findFar_52 rfl o1.1 ?_
    refine ex_getf hΦ fl_X8_7 o1 dX8_findFar_53 ?_
    refine ex_bipush hΦ dX8_findFar_56 (by decide) ?_
    obtain ⟨o4, h⟩ := h
    refine ex_iald' hΦ o4 dX8_findFar_58 ?_
    refine ex_iload_n hΦ dX8_findFar_59 rfl ?_
    refine ex_callSi [(0, (μ (μ x0 0) 10)), (0, x2)] [(0, x2), (0, (μ (μ x0 0) 10))] hΦ lkS_X8_192 ⟨by decide, by decide⟩ (Nat.le_of_ble_eq_true rfl) rfl (by decide) dX8_findFar_60 rfl h (fun r5 μ5 h => ?_)
    obtain ⟨o6, h⟩ := h
    refine ex_if_eq 71 hΦ dX8_findFar_63 (by decide) o6 (fun c => ?_) (fun c => ?_)
    · have h := h.1 c
      refine ex_aload_n hΦ dX8_findFar_71 rfl o1.1 ?_
      refine ex_getf hΦ fl_X8_58 o1 dX8_findFar_72 ?_
      refine ex_aload_n hΦ dX8_findFar_75 rfl o1.1 ?_
      refine ex_getf hΦ fl_X8_30 o1 dX8_findFar_76 ?_
      refine ex_iload_n hΦ dX8_findFar_79 rfl ?_
      obtain ⟨o7, h⟩ := h
      refine ex_iald' hΦ o7 dX8_findFar_80 ?_
      obtain ⟨o8, h⟩ := h
      refine ex_iald' hΦ o8 dX8_findFar_81 ?_
      refine ex_iconst hΦ dX8_findFar_82 ?_
      refine ex_iadd hΦ dX8_findFar_83 ?_
      exact h
    · have h := h.2 c
      refine ex_bipush hΦ dX8_findFar_66 (by decide) ?_
      refine ex_goto 84 hΦ dX8_findFar_68 (by decide) ?_
      exact h
theorem bX8_findFar_84 {G : Gm} {Φ : Fr} {S : List Sh} {μ : Mem} {Q : Mem → Prop} (hΦ : St G Φ cX8_findFar RX8 5 1 21 0 0) (hR : Rt G Φ (Pv S Q) 0 0 none) {x0 x1 x2 t0 : Int} (h : So S x0 (.inl 8) ∧ (Ai S (μ x0 0) 0 10 ∧ (Ci G mX8_has [(0, (μ (μ x0 0) 10)), (0, x2)] S μ (fun r3 μ3 => R32 r3 ∧ ((r3 = 0 → Ai S (μ3 x0 17) 0 x2 ∧ (Ai S (μ3 x0 32) 0 (μ3 (μ3 x0 17) x2) ∧ Ex G Φ 5 117 [some (2, x0), some (0, x1), some (0, x2), some (0, t0), none] [(0, ((μ3 (μ3 x0 32) (μ3 (μ3 x0 17) x2)) + 1))] S μ3 0 0)) ∧ (¬ (r3 = 0) → Ex G Φ 5 117 [some (2, x0), some (0, x1), some (0, x2), some (0, t0), none] [(0, 99)] S μ3 0 0)))))) : Ex G Φ 5 84 [some (2, x0), some (0, x1), some (0, x2), none, none] [(0, t0)] S μ 0 0 := by
  refine ex_istore_n (L' := [some (2, x0), some (0, x1), some (0, x2), some (0, t0), none]) hΦ dX8_findFar_84 (by decide) rfl ?_
  obtain ⟨o1, h⟩ := h
  refine ex_aload_n hΦ dX8_findFar_85 rfl o1.1 ?_
  refine ex_getf hΦ fl_X8_7 o1 dX8_findFar_86 ?_
  refine ex_bipush hΦ dX8_findFar_89 (by decide) ?_
  obtain ⟨o2, h⟩ := h
  refine ex_iald' hΦ o2 dX8_findFar_91 ?_
  refine ex_iload_n hΦ dX8_findFar_92 rfl ?_
  refine ex_callSi [(0, (μ (μ x0 0) 10)), (0, x2)] [(0, x2), (0, (μ (μ x0 0) 10))] hΦ lkS_X8_192 ⟨by decide, by decide⟩ (Nat.le_of_ble_eq_true rfl) rfl (by decide) dX8_findFar_93 rfl h (fun r3 μ3 h => ?_)
  obtain ⟨o4, h⟩ := h
  refine ex_if_eq 104 hΦ dX8_findFar_96 (by decide) o4 (fun c => ?_) (fun c => ?_)
  · have h := h.1 c
    refine ex_aload_n hΦ dX8_findFar_104 rfl o1.1 ?_
    refine ex_getf hΦ fl_X8_58 o1 dX8_findFar_105 ?_
    refine ex_aload_n hΦ dX8_findFar_108 rfl o1.1 ?_
    refine ex_getf hΦ fl_X8_33 o1 dX8_findFar_109 ?_
    refine ex_iload_n hΦ dX8_findFar_112 rfl ?_
    obtain ⟨o5, h⟩ := h
    refine ex_iald' hΦ o5 dX8_findFar_113 ?_
    obtain ⟨o6, h⟩ := h
    refine ex_iald' hΦ o6 dX8_findFar_114 ?_
    refine ex_iconst hΦ dX8_findFar_115 ?_
    refine ex_iadd hΦ dX8_findFar_116 ?_
    exact h
  · have h := h.2 c
    refine ex_bipush hΦ dX8_findFar_99 (by decide) ?_
    refine ex_goto 117 hΦ dX8_findFar_101 (by decide) ?_
    exact h
theorem bX8_findFar_117 {G : Gm} {Φ : Fr} {S : List Sh} {μ : Mem} {Q : Mem → Prop} (hΦ : St G Φ cX8_findFar RX8 5 1 21 0 0) (hR : Rt G Φ (Pv S Q) 0 0 none) {x0 x1 x2 x3 t0 : Int} (h : So S x0 (.inl 8) ∧ (Ai S (μ x0 17) 0 x2 ∧ (Ai S (μ x0 32) 0 (μ (μ x0 17) x2) ∧ (R32 x3 ∧ (R32 (μ (μ x0 32) (μ (μ x0 17) x2)) ∧ (((μ (μ x0 32) (μ (μ x0 17) x2)) ≤ x3 → Ex G Φ 5 159 [some (2, x0), some (0, x1), some (0, x2), some (0, x3), some (0, t0)] [(0, (μ (μ x0 32) (μ (μ x0 17) x2))), (0, (μ (μ x0 17) x2)), (2, (μ x0 32))] S μ 0 0) ∧ (¬ ((μ (μ x0 32) (μ (μ x0 17) x2)) ≤ x3) → Ex G Φ 5 159 [some (2, x0), some (0, x1), some (0, x2), some (0, x3), some (0, t0)] [(0, x3), (0, (μ (μ x0 17) x2)), (2, (μ x0 32))] S μ 0 0))))))) : Ex G Φ 5 117 [some (2, x0), some (0, x1), some (0, x2), some (0, x3), none] [(0, t0)] S μ 0 0 := by
  refine ex_istore (L' := [some (2, x0), some (0, x1), some (0, x2), some (0, x3), some (0, t0)]) hΦ dX8_findFar_117 (by decide) rfl ?_
  obtain ⟨o1, h⟩ := h
  refine ex_aload_n hΦ dX8_findFar_119 rfl o1.1 ?_
  refine ex_getf hΦ fl_X8_58 o1 dX8_findFar_120 ?_
  refine ex_aload_n hΦ dX8_findFar_123 rfl o1.1 ?_
  refine ex_getf hΦ fl_X8_33 o1 dX8_findFar_124 ?_
  refine ex_iload_n hΦ dX8_findFar_127 rfl ?_
  obtain ⟨o2, h⟩ := h
  refine ex_iald' hΦ o2 dX8_findFar_128 ?_
  refine ex_iload_n hΦ dX8_findFar_129 rfl ?_
  refine ex_aload_n hΦ dX8_findFar_130 rfl o1.1 ?_
  refine ex_getf hΦ fl_X8_58 o1 dX8_findFar_131 ?_
  refine ex_aload_n hΦ dX8_findFar_134 rfl o1.1 ?_
  refine ex_getf hΦ fl_X8_33 o1 dX8_findFar_135 ?_
  refine ex_iload_n hΦ dX8_findFar_138 rfl ?_
  refine ex_iald' hΦ o2 dX8_findFar_139 ?_
  obtain ⟨o3, h⟩ := h
  refine ex_iald' hΦ o3 dX8_findFar_140 ?_
  obtain ⟨o4, h⟩ := h
  obtain ⟨o5, h⟩ := h
  refine ex_icmp_ge 148 hΦ dX8_findFar_141 (by decide) o4 o5 (fun c => ?_) (fun c => ?_)
  · have h := h.1 c
    refine ex_aload_n hΦ dX8_findFar_148 rfl o1.1 ?_
    refine ex_getf hΦ fl_X8_58 o1 dX8_findFar_149 ?_
    refine ex_aload_n hΦ dX8_findFar_152 rfl o1.1 ?_
    refine ex_getf hΦ fl_X8_33 o1 dX8_findFar_153 ?_
    refine ex_iload_n hΦ dX8_findFar_156 rfl ?_
    refine ex_iald' hΦ o2 dX8_findFar_157 ?_
    refine ex_iald' hΦ o3 dX8_findFar_158 ?_
    exact h
  · have h := h.2 c
    refine ex_iload_n hΦ dX8_findFar_144 rfl ?_
    refine ex_goto 159 hΦ dX8_findFar_145 (by decide) ?_
    exact h
theorem bX8_findFar_159 {G : Gm} {Φ : Fr} {S : List Sh} {μ : Mem} {Q : Mem → Prop} (hΦ : St G Φ cX8_findFar RX8 5 1 21 0 0) (hR : Rt G Φ (Pv S Q) 0 0 none) {x0 x1 x2 x3 x4 t0 t1 t2 : Int} (h : Ai S t0 0 t1 ∧ (∀ m2 : Mem, m2 = mu μ t0 t1 t2 → (So S x0 (.inl 8) ∧ (Ai S (m2 x0 16) 0 x2 ∧ (Ai S (m2 x0 32) 0 (m2 (m2 x0 16) x2) ∧ (R32 x4 ∧ (R32 (m2 (m2 x0 32) (m2 (m2 x0 16) x2)) ∧ (((m2 (m2 x0 32) (m2 (m2 x0 16) x2)) ≤ x4 → ∀ m8 : Mem, m8 = mu m2 (m2 x0 32) (m2 (m2 x0 16) x2) (m2 (m2 x0 32) (m2 (m2 x0 16) x2)) → (Ex G Φ 5 44 [some (2, x0), some (0, x1), some (0, (x2 + 1)), none, none] [] S m8 0 0)) ∧ (¬ ((m2 (m2 x0 32) (m2 (m2 x0 16) x2)) ≤ x4) → ∀ m9 : Mem, m9 = mu m2 (m2 x0 32) (m2 (m2 x0 16) x2) x4 → (Ex G Φ 5 44 [some (2, x0), some (0, x1), some (0, (x2 + 1)), none, none] [] S m9 0 0)))))))))) : Ex G Φ 5 159 [some (2, x0), some (0, x1), some (0, x2), some (0, x3), some (0, x4)] [(0, t2), (0, t1), (2, t0)] S μ 0 0 := by
  obtain ⟨o1, h⟩ := h
  obtain ⟨m2, hm2⟩ : ∃ m : Mem, m = mu μ t0 t1 t2 := ⟨_, rfl⟩
  have h := h m2 hm2
  refine ex_iast'' hΦ o1 dX8_findFar_159 hm2 ?_
  obtain ⟨o3, h⟩ := h
  refine ex_aload_n hΦ dX8_findFar_160 rfl o3.1 ?_
  refine ex_getf hΦ fl_X8_58 o3 dX8_findFar_161 ?_
  refine ex_aload_n hΦ dX8_findFar_164 rfl o3.1 ?_
  refine ex_getf hΦ fl_X8_30 o3 dX8_findFar_165 ?_
  refine ex_iload_n hΦ dX8_findFar_168 rfl ?_
  obtain ⟨o4, h⟩ := h
  refine ex_iald' hΦ o4 dX8_findFar_169 ?_
  refine ex_iload hΦ dX8_findFar_170 rfl ?_
  refine ex_aload_n hΦ dX8_findFar_172 rfl o3.1 ?_
  refine ex_getf hΦ fl_X8_58 o3 dX8_findFar_173 ?_
  refine ex_aload_n hΦ dX8_findFar_176 rfl o3.1 ?_
  refine ex_getf hΦ fl_X8_30 o3 dX8_findFar_177 ?_
  refine ex_iload_n hΦ dX8_findFar_180 rfl ?_
  refine ex_iald' hΦ o4 dX8_findFar_181 ?_
  obtain ⟨o5, h⟩ := h
  refine ex_iald' hΦ o5 dX8_findFar_182 ?_
  obtain ⟨o6, h⟩ := h
  obtain ⟨o7, h⟩ := h
  refine ex_icmp_ge 191 hΦ dX8_findFar_183 (by decide) o6 o7 (fun c => ?_) (fun c => ?_)
  · have h := h.1 c
    refine ex_aload_n hΦ dX8_findFar_191 rfl o3.1 ?_
    refine ex_getf hΦ fl_X8_58 o3 dX8_findFar_192 ?_
    refine ex_aload_n hΦ dX8_findFar_195 rfl o3.1 ?_
    refine ex_getf hΦ fl_X8_30 o3 dX8_findFar_196 ?_
    refine ex_iload_n hΦ dX8_findFar_199 rfl ?_
    refine ex_iald' hΦ o4 dX8_findFar_200 ?_
    refine ex_iald' hΦ o5 dX8_findFar_201 ?_
    obtain ⟨m8, hm8⟩ : ∃ m : Mem, m = mu m2 (m2 x0 32) (m2 (m2 x0 16) x2) (m2 (m2 x0 32) (m2 (m2 x0 16) x2)) := ⟨_, rfl⟩
    have h := h m8 hm8
    refine ex_iast'' hΦ o5 dX8_findFar_202 hm8 ?_
    refine ex_iinc (L' := [some (2, x0), some (0, x1), some (0, (x2 + 1)), some (0, x3), some (0, x4)]) hΦ dX8_findFar_203 rfl (by decide) rfl ?_
    refine ex_goto 44 hΦ dX8_findFar_206 (by decide) ?_
    refine ex_forget (L' := [some (2, x0), some (0, x1), some (0, (x2 + 1)), none, none]) [3, 4] rfl ?_
    exact h
  · have h := h.2 c
    refine ex_iload hΦ dX8_findFar_186 rfl ?_
    refine ex_goto 202 hΦ dX8_findFar_188 (by decide) ?_
    obtain ⟨m9, hm9⟩ : ∃ m : Mem, m = mu m2 (m2 x0 32) (m2 (m2 x0 16) x2) x4 := ⟨_, rfl⟩
    have h := h m9 hm9
    refine ex_iast'' hΦ o5 dX8_findFar_202 hm9 ?_
    refine ex_iinc (L' := [some (2, x0), some (0, x1), some (0, (x2 + 1)), some (0, x3), some (0, x4)]) hΦ dX8_findFar_203 rfl (by decide) rfl ?_
    refine ex_goto 44 hΦ dX8_findFar_206 (by decide) ?_
    refine ex_forget (L' := [some (2, x0), some (0, x1), some (0, (x2 + 1)), none, none]) [3, 4] rfl ?_
    exact h
theorem eX8_findFar {G : Gm} {S : List Sh} {μ : Mem} {Q : Mem → Prop} {x0 : Int} (h : ∀ Φ : Fr, St G Φ cX8_findFar RX8 5 1 21 0 0 → Rt G Φ (Pv S Q) 0 0 none → Ex G Φ 5 0 [some (2, x0), none, none, none, none] [] S μ 0 0) : Cv G mX8_findFar [(2, x0)] S μ Q :=
  call_of' (plainFor_of_name (by decide +kernel)) [some (2, x0), none, none, none, none] rfl (Nat.le_of_ble_eq_true rfl) (fun Φ hΦ hR => h Φ hΦ hR)
theorem bX8_findFar_0 {G : Gm} {Φ : Fr} {S : List Sh} {μ : Mem} {Q : Mem → Prop} (hΦ : St G Φ cX8_findFar RX8 5 1 21 0 0) (hR : Rt G Φ (Pv S Q) 0 0 none) {x0 : Int} (h : Ex G Φ 5 2 [some (2, x0), some (0, 0), none, none, none] [] S μ 0 0) : Ex G Φ 5 0 [some (2, x0), none, none, none, none] [] S μ 0 0 := by
  refine ex_iconst hΦ dX8_findFar_0 ?_
  refine ex_istore_n (L' := [some (2, x0), some (0, 0), none, none, none]) hΦ dX8_findFar_1 (by decide) rfl ?_
  exact h
theorem bX8_findRows_6 {G : Gm} {Φ : Fr} {S : List Sh} {μ : Mem} {Q : Mem → Prop} (hΦ : St G Φ cX8_findRows RX8 8 2 45 0 0) (hR : Rt G Φ (Pv S Q) 0 0 none) {x0 x1 : Int} (h : R32 x1 ∧ ((8 ≤ x1 → Ex G Φ 8 41 [some (2, x0), some (0, 1), none, none, none, none, none, none] [] S μ 0 0) ∧ (¬ (8 ≤ x1) → So S x0 (.inl 8) ∧ (R32 (μ x0 5) ∧ ((x1 ≠ (μ x0 5) → Ai S (μ x0 33) 1 x1 ∧ (∀ m5 : Mem, m5 = mu μ (μ x0 33) x1 (-1) → (Ex G Φ 8 6 [some (2, x0), some (0, (x1 + 1)), none, none, none, none, none, none] [] S m5 0 0))) ∧ (x1 = (μ x0 5) → Ai S (μ x0 33) 1 x1 ∧ (∀ m7 : Mem, m7 = mu μ (μ x0 33) x1 0 → (Ex G Φ 8 6 [some (2, x0), some (0, (x1 + 1)), none, none, none, none, none, none] [] S m7 0 0)))))))) : Ex G Φ 8 6 [some (2, x0), some (0, x1), none, none, none, none, none, none] [] S μ 0 0 := by
  refine ex_iload_n hΦ dX8_findRows_6 rfl ?_
  refine ex_bipush hΦ dX8_findRows_7 (by decide) ?_
  obtain ⟨o1, h⟩ := h
  refine ex_icmp_ge 39 hΦ dX8_findRows_9 (by decide) o1 ⟨by decide, by decide⟩ (fun c => ?_) (fun c => ?_)
  · have h := h.1 c
    refine ex_iconst hΦ dX8_findRows_39 ?_
    refine ex_istore_n (L' := [some (2, x0), some (0, 1), none, none, none, none, none, none]) hΦ dX8_findRows_40 (by decide) rfl ?_
    exact h
  · have h := h.2 c
    obtain ⟨o2, h⟩ := h
    refine ex_aload_n hΦ dX8_findRows_12 rfl o2.1 ?_
    refine ex_getf hΦ fl_X8_61 o2 dX8_findRows_13 ?_
    refine ex_iload_n hΦ dX8_findRows_16 rfl ?_
    refine ex_iload_n hΦ dX8_findRows_17 rfl ?_
    refine ex_aload_n hΦ dX8_findRows_18 rfl o2.1 ?_
    refine ex_getf hΦ fl_X8_186 o2 dX8_findRows_19 ?_
    obtain ⟨o3, h⟩ := h
    refine ex_icmp_ne 29 hΦ dX8_findRows_22 (by decide) o1 o3 (fun c => ?_) (fun c => ?_)
    · have h := h.1 c
      refine ex_ldc2 hΦ dX8_findRows_29 qw1236 ?_
      obtain ⟨o4, h⟩ := h
      obtain ⟨m5, hm5⟩ : ∃ m : Mem, m = mu μ (μ x0 33) x1 (-1) := ⟨_, rfl⟩
      have h := h m5 hm5
      refine ex_last'' hΦ o4 dX8_findRows_32 hm5 ?_
      refine ex_iinc (L' := [some (2, x0), some (0, (x1 + 1)), none, none, none, none, none, none]) hΦ dX8_findRows_33 rfl (by decide) rfl ?_
      refine ex_goto 6 hΦ dX8_findRows_36 (by decide) ?_
      exact h
    · have h := h.2 c
      refine ex_lconst (x := 0) hΦ dX8_findRows_25 (by decide) ?_
      refine ex_goto 32 hΦ dX8_findRows_26 (by decide) ?_
      obtain ⟨o6, h⟩ := h
      obtain ⟨m7, hm7⟩ : ∃ m : Mem, m = mu μ (μ x0 33) x1 0 := ⟨_, rfl⟩
      have h := h m7 hm7
      refine ex_last'' hΦ o6 dX8_findRows_32 hm7 ?_
      refine ex_iinc (L' := [some (2, x0), some (0, (x1 + 1)), none, none, none, none, none, none]) hΦ dX8_findRows_33 rfl (by decide) rfl ?_
      refine ex_goto 6 hΦ dX8_findRows_36 (by decide) ?_
      exact h
theorem bX8_findRows_41 {G : Gm} {Φ : Fr} {S : List Sh} {μ : Mem} {Q : Mem → Prop} (hΦ : St G Φ cX8_findRows RX8 8 2 45 0 0) (hR : Rt G Φ (Pv S Q) 0 0 none) {x0 x1 : Int} (h : R32 x1 ∧ ((8 ≤ x1 → Q μ) ∧ (¬ (8 ≤ x1) → Ex G Φ 8 49 [some (2, x0), some (0, x1), some (0, 0), none, none, none, none, none] [] S μ 0 0))) : Ex G Φ 8 41 [some (2, x0), some (0, x1), none, none, none, none, none, none] [] S μ 0 0 := by
  refine ex_iload_n hΦ dX8_findRows_41 rfl ?_
  refine ex_bipush hΦ dX8_findRows_42 (by decide) ?_
  obtain ⟨o1, h⟩ := h
  refine ex_icmp_ge 247 hΦ dX8_findRows_44 (by decide) o1 ⟨by decide, by decide⟩ (fun c => ?_) (fun c => ?_)
  · have h := h.1 c
    exact ex_returnv hΦ hR dX8_findRows_247 h
  · have h := h.2 c
    refine ex_iconst hΦ dX8_findRows_47 ?_
    refine ex_istore_n (L' := [some (2, x0), some (0, x1), some (0, 0), none, none, none, none, none]) hΦ dX8_findRows_48 (by decide) rfl ?_
    exact h
theorem bX8_findRows_49 {G : Gm} {Φ : Fr} {S : List Sh} {μ : Mem} {Q : Mem → Prop} (hΦ : St G Φ cX8_findRows RX8 8 2 45 0 0) (hR : Rt G Φ (Pv S Q) 0 0 none) {x0 x1 x2 : Int} (h : So S x0 (.inl 8) ∧ (R32 x2 ∧ (R32 (μ x0 2) ∧ (((μ x0 2) ≤ x2 → Ex G Φ 8 41 [some (2, x0), some (0, (x1 + 1)), none, none, none, none, none, none] [] S μ 0 0) ∧ (¬ ((μ x0 2) ≤ x2) → Ex G Φ 8 59 [some (2, x0), some (0, x1), some (0, x2), some (0, 0), none, none, none, none] [] S μ 0 0))))) : Ex G Φ 8 49 [some (2, x0), some (0, x1), some (0, x2), none, none, none, none, none] [] S μ 0 0 := by
  refine ex_iload_n hΦ dX8_findRows_49 rfl ?_
  obtain ⟨o1, h⟩ := h
  refine ex_aload_n hΦ dX8_findRows_50 rfl o1.1 ?_
  refine ex_getf hΦ fl_X8_177 o1 dX8_findRows_51 ?_
  obtain ⟨o2, h⟩ := h
  obtain ⟨o3, h⟩ := h
  refine ex_icmp_ge 241 hΦ dX8_findRows_54 (by decide) o2 o3 (fun c => ?_) (fun c => ?_)
  · have h := h.1 c
    refine ex_iinc (L' := [some (2, x0), some (0, (x1 + 1)), some (0, x2), none, none, none, none, none]) hΦ dX8_findRows_241 rfl (by decide) rfl ?_
    refine ex_goto 41 hΦ dX8_findRows_244 (by decide) ?_
    refine ex_forget (L' := [some (2, x0), some (0, (x1 + 1)), none, none, none, none, none, none]) [2] rfl ?_
    exact h
  · have h := h.2 c
    refine ex_iconst hΦ dX8_findRows_57 ?_
    refine ex_istore_n (L' := [some (2, x0), some (0, x1), some (0, x2), some (0, 0), none, none, none, none]) hΦ dX8_findRows_58 (by decide) rfl ?_
    exact h
theorem bX8_findRows_59 {G : Gm} {Φ : Fr} {S : List Sh} {μ : Mem} {Q : Mem → Prop} (hΦ : St G Φ cX8_findRows RX8 8 2 45 0 0) (hR : Rt G Φ (Pv S Q) 0 0 none) {x0 x1 x2 x3 : Int} (h : So S x0 (.inl 8) ∧ (R32 x3 ∧ (R32 (μ x0 3) ∧ (((μ x0 3) ≤ x3 → Ex G Φ 8 49 [some (2, x0), some (0, x1), some (0, (x2 + 1)), none, none, none, none, none] [] S μ 0 0) ∧ (¬ ((μ x0 3) ≤ x3) → Ai S (μ x0 32) 0 x2 ∧ (R32 (μ (μ x0 32) x2) ∧ (R32 x1 ∧ (((μ (μ x0 32) x2) ≠ x1 → Ex G Φ 8 49 [some (2, x0), some (0, x1), some (0, (x2 + 1)), none, none, none, none, none] [] S μ 0 0) ∧ ((μ (μ x0 32) x2) = x1 → Ai S (μ x0 16) 0 x3 ∧ (R32 (μ (μ x0 16) x3) ∧ (R32 x2 ∧ (((μ (μ x0 16) x3) ≠ x2 → Ai S (μ x0 17) 0 x3 ∧ (R32 (μ (μ x0 17) x3) ∧ (((μ (μ x0 17) x3) ≠ x2 → Ex G Φ 8 116 [some (2, x0), some (0, x1), some (0, x2), some (0, x3), none, none, none, none] [(0, (-1))] S μ 0 0) ∧ ((μ (μ x0 17) x3) = x2 → Ex G Φ 8 116 [some (2, x0), some (0, x1), some (0, x2), some (0, x3), none, none, none, none] [(0, (μ (μ x0 16) x3))] S μ 0 0)))) ∧ ((μ (μ x0 16) x3) = x2 → Ai S (μ x0 17) 0 x3 ∧ Ex G Φ 8 116 [some (2, x0), some (0, x1), some (0, x2), some (0, x3), none, none, none, none] [(0, (μ (μ x0 17) x3))] S μ 0 0))))))))))))) : Ex G Φ 8 59 [some (2, x0), some (0, x1), some (0, x2), some (0, x3), none, none, none, none] [] S μ 0 0 := by
  refine ex_iload_n hΦ dX8_findRows_59 rfl ?_
  obtain ⟨o1, h⟩ := h
  refine ex_aload_n hΦ dX8_findRows_60 rfl o1.1 ?_
  refine ex_getf hΦ fl_X8_180 o1 dX8_findRows_61 ?_
  obtain ⟨o2, h⟩ := h
  obtain ⟨o3, h⟩ := h
  refine ex_icmp_ge 235 hΦ dX8_findRows_64 (by decide) o2 o3 (fun c => ?_) (fun c => ?_)
  · have h := h.1 c
    refine ex_iinc (L' := [some (2, x0), some (0, x1), some (0, (x2 + 1)), some (0, x3), none, none, none, none]) hΦ dX8_findRows_235 rfl (by decide) rfl ?_
    refine ex_goto 49 hΦ dX8_findRows_238 (by decide) ?_
    refine ex_forget (L' := [some (2, x0), some (0, x1), some (0, (x2 + 1)), none, none, none, none, none]) [3] rfl ?_
    exact h
  · have h := h.2 c
    refine ex_aload_n hΦ dX8_findRows_67 rfl o1.1 ?_
    refine ex_getf hΦ fl_X8_58 o1 dX8_findRows_68 ?_
    refine ex_iload_n hΦ dX8_findRows_71 rfl ?_
    obtain ⟨o4, h⟩ := h
    refine ex_iald' hΦ o4 dX8_findRows_72 ?_
    refine ex_iload_n hΦ dX8_findRows_73 rfl ?_
    obtain ⟨o5, h⟩ := h
    obtain ⟨o6, h⟩ := h
    refine ex_icmp_ne 235 hΦ dX8_findRows_74 (by decide) o5 o6 (fun c => ?_) (fun c => ?_)
    · have h := h.1 c
      refine ex_iinc (L' := [some (2, x0), some (0, x1), some (0, (x2 + 1)), some (0, x3), none, none, none, none]) hΦ dX8_findRows_235 rfl (by decide) rfl ?_
      refine ex_goto 49 hΦ dX8_findRows_238 (by decide) ?_
      refine ex_forget (L' := [some (2, x0), some (0, x1), some (0, (x2 + 1)), none, none, none, none, none]) [3] rfl ?_
      exact h
    · have h := h.2 c
      refine ex_aload_n hΦ dX8_findRows_77 rfl o1.1 ?_
      refine ex_getf hΦ fl_X8_30 o1 dX8_findRows_78 ?_
      refine ex_iload_n hΦ dX8_findRows_81 rfl ?_
      obtain ⟨o7, h⟩ := h
      refine ex_iald' hΦ o7 dX8_findRows_82 ?_
      refine ex_iload_n hΦ dX8_findRows_83 rfl ?_
      obtain ⟨o8, h⟩ := h
      obtain ⟨o9, h⟩ := h
      refine ex_icmp_ne 96 hΦ dX8_findRows_84 (by decide) o8 o9 (fun c => ?_) (fun c => ?_)
      · have h := h.1 c
        refine ex_aload_n hΦ dX8_findRows_96 rfl o1.1 ?_
        refine ex_getf hΦ fl_X8_33 o1 dX8_findRows_97 ?_
        refine ex_iload_n hΦ dX8_findRows_100 rfl ?_
        obtain ⟨o10, h⟩ := h
        refine ex_iald' hΦ o10 dX8_findRows_101 ?_
        refine ex_iload_n hΦ dX8_findRows_102 rfl ?_
        obtain ⟨o11, h⟩ := h
        refine ex_icmp_ne 115 hΦ dX8_findRows_103 (by decide) o11 o9 (fun c => ?_) (fun c => ?_)
        · have h := h.1 c
          refine ex_iconst hΦ dX8_findRows_115 ?_
          exact h
        · have h := h.2 c
          refine ex_aload_n hΦ dX8_findRows_106 rfl o1.1 ?_
          refine ex_getf hΦ fl_X8_30 o1 dX8_findRows_107 ?_
          refine ex_iload_n hΦ dX8_findRows_110 rfl ?_
          refine ex_iald' hΦ o7 dX8_findRows_111 ?_
          refine ex_goto 116 hΦ dX8_findRows_112 (by decide) ?_
          exact h
      · have h := h.2 c
        refine ex_aload_n hΦ dX8_findRows_87 rfl o1.1 ?_
        refine ex_getf hΦ fl_X8_33 o1 dX8_findRows_88 ?_
        refine ex_iload_n hΦ dX8_findRows_91 rfl ?_
        obtain ⟨o12, h⟩ := h
        refine ex_iald' hΦ o12 dX8_findRows_92 ?_
        refine ex_goto 116 hΦ dX8_findRows_93 (by decide) ?_
        exact h
theorem bX8_findRows_116 {G : Gm} {Φ : Fr} {S : List Sh} {μ : Mem} {Q : Mem → Prop} (hΦ : St G Φ cX8_findRows RX8 8 2 45 0 0) (hR : Rt G Φ (Pv S Q) 0 0 none) {x0 x1 x2 x3 t0 : Int} (h : R32 t0 ∧ ((t0 < 0 → Ex G Φ 8 154 [some (2, x0), some (0, x1), some (0, x2), some (0, x3), some (0, t0), none, none, none] [] S μ 0 0) ∧ (¬ (t0 < 0) → So S x0 (.inl 8) ∧ (Ai S (μ x0 0) 0 10 ∧ (Ci G mX8_has [(0, (μ (μ x0 0) 10)), (0, x3)] S μ (fun r4 μ4 => R32 r4 ∧ ((r4 ≠ 0 → Ex G Φ 8 154 [some (2, x0), some (0, x1), some (0, x2), some (0, x3), some (0, t0), none, none, none] [] S μ4 0 0) ∧ (r4 = 0 → Ai S (μ4 x0 32) 0 t0 ∧ (R32 (μ4 (μ4 x0 32) t0) ∧ (R32 (x1 - 1) ∧ (((μ4 (μ4 x0 32) t0) ≠ (x1 - 1) → Ex G Φ 8 154 [some (2, x0), some (0, x1), some (0, x2), some (0, x3), some (0, t0), none, none, none] [] S μ4 0 0) ∧ ((μ4 (μ4 x0 32) t0) = (x1 - 1) → Ai S (μ4 x0 33) 1 t0 ∧ (R32 x3 ∧ Ex G Φ 8 182 [some (2, x0), some (0, x1), some (0, x2), some (0, x3), some (0, t0), some (0, 1), none, none] [(1, ((11 * (μ4 (μ4 x0 33) t0)) + x3))] S μ4 0 0))))))))))))) : Ex G Φ 8 116 [some (2, x0), some (0, x1), some (0, x2), some (0, x3), none, none, none, none] [(0, t0)] S μ 0 0 := by
  refine ex_istore (L' := [some (2, x0), some (0, x1), some (0, x2), some (0, x3), some (0, t0), none, none, none]) hΦ dX8_findRows_116 (by decide) rfl ?_
  refine ex_iload hΦ dX8_findRows_118 rfl ?_
  obtain ⟨o1, h⟩ := h
  refine ex_if_lt 154 hΦ dX8_findRows_120 (by decide) o1 (fun c => ?_) (fun c => ?_)
  · have h := h.1 c
    exact h
  · have h := h.2 c
    obtain ⟨o2, h⟩ := h
    refine ex_aload_n hΦ dX8_findRows_123 rfl o2.1 ?_
    refine ex_getf hΦ fl_X8_7 o2 dX8_findRows_124 ?_
    refine ex_bipush hΦ dX8_findRows_127 (by decide) ?_
    obtain ⟨o3, h⟩ := h
    refine ex_iald' hΦ o3 dX8_findRows_129 ?_
    refine ex_iload_n hΦ dX8_findRows_130 rfl ?_
    refine ex_callSi [(0, (μ (μ x0 0) 10)), (0, x3)] [(0, x3), (0, (μ (μ x0 0) 10))] hΦ lkS_X8_192 ⟨by decide, by decide⟩ (Nat.le_of_ble_eq_true rfl) rfl (by decide) dX8_findRows_131 rfl h (fun r4 μ4 h => ?_)
    obtain ⟨o5, h⟩ := h
    refine ex_if_ne 154 hΦ dX8_findRows_134 (by decide) o5 (fun c => ?_) (fun c => ?_)
    · have h := h.1 c
      exact h
    · have h := h.2 c
      refine ex_aload_n hΦ dX8_findRows_137 rfl o2.1 ?_
      refine ex_getf hΦ fl_X8_58 o2 dX8_findRows_138 ?_
      refine ex_iload hΦ dX8_findRows_141 rfl ?_
      obtain ⟨o6, h⟩ := h
      refine ex_iald' hΦ o6 dX8_findRows_143 ?_
      refine ex_iload_n hΦ dX8_findRows_144 rfl ?_
      refine ex_iconst hΦ dX8_findRows_145 ?_
      refine ex_isub hΦ dX8_findRows_146 ?_
      obtain ⟨o7, h⟩ := h
      obtain ⟨o8, h⟩ := h
      refine ex_icmp_ne 154 hΦ dX8_findRows_147 (by decide) o7 o8 (fun c => ?_) (fun c => ?_)
      · have h := h.1 c
        exact h
      · have h := h.2 c
        refine ex_iconst hΦ dX8_findRows_150 ?_
        refine ex_goto 155 hΦ dX8_findRows_151 (by decide) ?_
        refine ex_istore (L' := [some (2, x0), some (0, x1), some (0, x2), some (0, x3), some (0, t0), some (0, 1), none, none]) hΦ dX8_findRows_155 (by decide) rfl ?_
        refine ex_iload hΦ dX8_findRows_157 rfl ?_
        refine ex_if_eq 179 hΦ dX8_findRows_159 (by decide) ⟨by decide, by decide⟩ (fun c => absurd c (by decide)) (fun c => ?_)
        refine ex_ldc2 hΦ dX8_findRows_162 qw1237 ?_
        refine ex_aload_n hΦ dX8_findRows_165 rfl o2.1 ?_
        refine ex_getf hΦ fl_X8_61 o2 dX8_findRows_166 ?_
        refine ex_iload hΦ dX8_findRows_169 rfl ?_
        obtain ⟨o9, h⟩ := h
        refine ex_lald' hΦ o9 dX8_findRows_171 ?_
        refine ex_lmul hΦ dX8_findRows_172 ?_
        refine ex_iload_n hΦ dX8_findRows_173 rfl ?_
        obtain ⟨o10, h⟩ := h
        refine ex_i2l hΦ dX8_findRows_174 o10 ?_
        refine ex_ladd hΦ dX8_findRows_175 ?_
        refine ex_goto 182 hΦ dX8_findRows_176 (by decide) ?_
        exact h
theorem bX8_findRows_154 {G : Gm} {Φ : Fr} {S : List Sh} {μ : Mem} {Q : Mem → Prop} (hΦ : St G Φ cX8_findRows RX8 8 2 45 0 0) (hR : Rt G Φ (Pv S Q) 0 0 none) {x0 x1 x2 x3 x4 : Int} (h : Ex G Φ 8 182 [some (2, x0), some (0, x1), some (0, x2), some (0, x3), some (0, x4), some (0, 0), none, none] [(1, (-1))] S μ 0 0) : Ex G Φ 8 154 [some (2, x0), some (0, x1), some (0, x2), some (0, x3), some (0, x4), none, none, none] [] S μ 0 0 := by
  refine ex_iconst hΦ dX8_findRows_154 ?_
  refine ex_istore (L' := [some (2, x0), some (0, x1), some (0, x2), some (0, x3), some (0, x4), some (0, 0), none, none]) hΦ dX8_findRows_155 (by decide) rfl ?_
  refine ex_iload hΦ dX8_findRows_157 rfl ?_
  refine ex_if_eq 179 hΦ dX8_findRows_159 (by decide) ⟨by decide, by decide⟩ (fun c => ?_) (fun c => absurd (by decide) c)
  refine ex_ldc2 hΦ dX8_findRows_179 qw1236 ?_
  exact h
theorem bX8_findRows_182 {G : Gm} {Φ : Fr} {S : List Sh} {μ : Mem} {Q : Mem → Prop} (hΦ : St G Φ cX8_findRows RX8 8 2 45 0 0) (hR : Rt G Φ (Pv S Q) 0 0 none) {x0 x1 x2 x3 x4 x5 t0 : Int} (h : So S x0 (.inl 8) ∧ (R32 x5 ∧ ((x5 = 0 → Ai S (μ x0 33) 1 x2 ∧ (∀ m4 : Mem, m4 = mu μ (μ x0 33) x2 (μ (μ x0 33) x2) → (Ex G Φ 8 59 [some (2, x0), some (0, x1), some (0, x2), some (0, (x3 + 1)), none, none, none, none] [] S m4 0 0))) ∧ (¬ (x5 = 0) → Ai S (μ x0 33) 1 x2 ∧ (R64 (μ (μ x0 33) x2) ∧ (((μ (μ x0 33) x2) < 0 → ∀ m7 : Mem, m7 = mu μ (μ x0 33) x2 t0 → (Ex G Φ 8 59 [some (2, x0), some (0, x1), some (0, x2), some (0, (x3 + 1)), none, none, none, none] [] S m7 0 0)) ∧ (¬ ((μ (μ x0 33) x2) < 0) → R64 t0 ∧ (((μ (μ x0 33) x2) ≤ t0 → ∀ m9 : Mem, m9 = mu μ (μ x0 33) x2 (μ (μ x0 33) x2) → (Ex G Φ 8 59 [some (2, x0), some (0, x1), some (0, x2), some (0, (x3 + 1)), none, none, none, none] [] S m9 0 0)) ∧ (¬ ((μ (μ x0 33) x2) ≤ t0) → ∀ m10 : Mem, m10 = mu μ (μ x0 33) x2 t0 → (Ex G Φ 8 59 [some (2, x0), some (0, x1), some (0, x2), some (0, (x3 + 1)), none, none, none, none] [] S m10 0 0)))))))))) : Ex G Φ 8 182 [some (2, x0), some (0, x1), some (0, x2), some (0, x3), some (0, x4), some (0, x5), none, none] [(1, t0)] S μ 0 0 := by
  refine ex_lstore (L' := [some (2, x0), some (0, x1), some (0, x2), some (0, x3), some (0, x4), some (0, x5), some (1, t0), none]) hΦ dX8_findRows_182 (by decide) rfl ?_
  obtain ⟨o1, h⟩ := h
  refine ex_aload_n hΦ dX8_findRows_184 rfl o1.1 ?_
  refine ex_getf hΦ fl_X8_61 o1 dX8_findRows_185 ?_
  refine ex_iload_n hΦ dX8_findRows_188 rfl ?_
  refine ex_iload hΦ dX8_findRows_189 rfl ?_
  obtain ⟨o2, h⟩ := h
  refine ex_if_eq 222 hΦ dX8_findRows_191 (by decide) o2 (fun c => ?_) (fun c => ?_)
  · have h := h.1 c
    refine ex_aload_n hΦ dX8_findRows_222 rfl o1.1 ?_
    refine ex_getf hΦ fl_X8_61 o1 dX8_findRows_223 ?_
    refine ex_iload_n hΦ dX8_findRows_226 rfl ?_
    obtain ⟨o3, h⟩ := h
    refine ex_lald' hΦ o3 dX8_findRows_227 ?_
    obtain ⟨m4, hm4⟩ : ∃ m : Mem, m = mu μ (μ x0 33) x2 (μ (μ x0 33) x2) := ⟨_, rfl⟩
    have h := h m4 hm4
    refine ex_last'' hΦ o3 dX8_findRows_228 hm4 ?_
    refine ex_iinc (L' := [some (2, x0), some (0, x1), some (0, x2), some (0, (x3 + 1)), some (0, x4), some (0, x5), some (1, t0), none]) hΦ dX8_findRows_229 rfl (by decide) rfl ?_
    refine ex_goto 59 hΦ dX8_findRows_232 (by decide) ?_
    refine ex_forget (L' := [some (2, x0), some (0, x1), some (0, x2), some (0, (x3 + 1)), none, none, none, none]) [4, 5, 6] rfl ?_
    exact h
  · have h := h.2 c
    refine ex_aload_n hΦ dX8_findRows_194 rfl o1.1 ?_
    refine ex_getf hΦ fl_X8_61 o1 dX8_findRows_195 ?_
    refine ex_iload_n hΦ dX8_findRows_198 rfl ?_
    obtain ⟨o5, h⟩ := h
    refine ex_lald' hΦ o5 dX8_findRows_199 ?_
    refine ex_lconst (x := 0) hΦ dX8_findRows_200 (by decide) ?_
    obtain ⟨o6, h⟩ := h
    refine ex_lcmp hΦ dX8_findRows_201 o6 ⟨by decide, by decide⟩ ?_
    refine ex_lif_lt 217 hΦ dX8_findRows_202 (by decide) (fun c => ?_) (fun c => ?_)
    · have h := h.1 c
      refine ex_lload hΦ dX8_findRows_217 rfl ?_
      refine ex_goto 228 hΦ dX8_findRows_219 (by decide) ?_
      obtain ⟨m7, hm7⟩ : ∃ m : Mem, m = mu μ (μ x0 33) x2 t0 := ⟨_, rfl⟩
      have h := h m7 hm7
      refine ex_last'' hΦ o5 dX8_findRows_228 hm7 ?_
      refine ex_iinc (L' := [some (2, x0), some (0, x1), some (0, x2), some (0, (x3 + 1)), some (0, x4), some (0, x5), some (1, t0), none]) hΦ dX8_findRows_229 rfl (by decide) rfl ?_
      refine ex_goto 59 hΦ dX8_findRows_232 (by decide) ?_
      refine ex_forget (L' := [some (2, x0), some (0, x1), some (0, x2), some (0, (x3 + 1)), none, none, none, none]) [4, 5, 6] rfl ?_
      exact h
    · have h := h.2 c
      refine ex_lload hΦ dX8_findRows_205 rfl ?_
      refine ex_aload_n hΦ dX8_findRows_207 rfl o1.1 ?_
      refine ex_getf hΦ fl_X8_61 o1 dX8_findRows_208 ?_
      refine ex_iload_n hΦ dX8_findRows_211 rfl ?_
      refine ex_lald' hΦ o5 dX8_findRows_212 ?_
      obtain ⟨o8, h⟩ := h
      refine ex_lcmp hΦ dX8_findRows_213 o8 o6 ?_
      refine ex_lif_ge 222 hΦ dX8_findRows_214 (by decide) (fun c => ?_) (fun c => ?_)
      · have h := h.1 c
        refine ex_aload_n hΦ dX8_findRows_222 rfl o1.1 ?_
        refine ex_getf hΦ fl_X8_61 o1 dX8_findRows_223 ?_
        refine ex_iload_n hΦ dX8_findRows_226 rfl ?_
        refine ex_lald' hΦ o5 dX8_findRows_227 ?_
        obtain ⟨m9, hm9⟩ : ∃ m : Mem, m = mu μ (μ x0 33) x2 (μ (μ x0 33) x2) := ⟨_, rfl⟩
        have h := h m9 hm9
        refine ex_last'' hΦ o5 dX8_findRows_228 hm9 ?_
        refine ex_iinc (L' := [some (2, x0), some (0, x1), some (0, x2), some (0, (x3 + 1)), some (0, x4), some (0, x5), some (1, t0), none]) hΦ dX8_findRows_229 rfl (by decide) rfl ?_
        refine ex_goto 59 hΦ dX8_findRows_232 (by decide) ?_
        refine ex_forget (L' := [some (2, x0), some (0, x1), some (0, x2), some (0, (x3 + 1)), none, none, none, none]) [4, 5, 6] rfl ?_
        exact h
      · have h := h.2 c
        refine ex_lload hΦ dX8_findRows_217 rfl ?_
        refine ex_goto 228 hΦ dX8_findRows_219 (by decide) ?_
        obtain ⟨m10, hm10⟩ : ∃ m : Mem, m = mu μ (μ x0 33) x2 t0 := ⟨_, rfl⟩
        have h := h m10 hm10
        refine ex_last'' hΦ o5 dX8_findRows_228 hm10 ?_
        refine ex_iinc (L' := [some (2, x0), some (0, x1), some (0, x2), some (0, (x3 + 1)), some (0, x4), some (0, x5), some (1, t0), none]) hΦ dX8_findRows_229 rfl (by decide) rfl ?_
        refine ex_goto 59 hΦ dX8_findRows_232 (by decide) ?_
        refine ex_forget (L' := [some (2, x0), some (0, x1), some (0, x2), some (0, (x3 + 1)), none, none, none, none]) [4, 5, 6] rfl ?_
        exact h
theorem eX8_findRows {G : Gm} {S : List Sh} {μ : Mem} {Q : Mem → Prop} {x0 : Int} (h : ∀ Φ : Fr, St G Φ cX8_findRows RX8 8 2 45 0 0 → Rt G Φ (Pv S Q) 0 0 none → Ex G Φ 8 0 [some (2, x0), none, none, none, none, none, none, none] [] S μ 0 0) : Cv G mX8_findRows [(2, x0)] S μ Q :=
  call_of' (plainFor_of_name (by decide +kernel)) [some (2, x0), none, none, none, none, none, none, none] rfl (Nat.le_of_ble_eq_true rfl) (fun Φ hΦ hR => h Φ hΦ hR)
theorem bX8_findRows_0 {G : Gm} {Φ : Fr} {S : List Sh} {μ : Mem} {Q : Mem → Prop} (hΦ : St G Φ cX8_findRows RX8 8 2 45 0 0) (hR : Rt G Φ (Pv S Q) 0 0 none) {x0 : Int} (h : So S x0 (.inl 8) ∧ Cv G mX8_findFar [(2, x0)] S μ (fun μ2 => Ex G Φ 8 6 [some (2, x0), some (0, 0), none, none, none, none, none, none] [] S μ2 0 0)) : Ex G Φ 8 0 [some (2, x0), none, none, none, none, none, none, none] [] S μ 0 0 := by
  obtain ⟨o1, h⟩ := h
  refine ex_aload_n hΦ dX8_findRows_0 rfl o1.1 ?_
  refine ex_callVv [] [(2, x0)] hΦ lkV_X8_302 ⟨by decide, by decide⟩ (Nat.le_of_ble_eq_true rfl) rfl (by decide) 8 (by decide) rfl o1 dX8_findRows_1 rfl h (fun μ2 h => ?_)
  refine ex_iconst hΦ dX8_findRows_4 ?_
  refine ex_istore_n (L' := [some (2, x0), some (0, 0), none, none, none, none, none, none]) hΦ dX8_findRows_5 (by decide) rfl ?_
  exact h
theorem bX8_figure_8 {G : Gm} {Φ : Fr} {S : List Sh} {μ : Mem} {Q : Int → Mem → Prop} (hΦ : St G Φ cX8_figure RX8 7 0 0 0 0) (hR : Rt G Φ (Pi S Q) 0 0 (some .int)) {x0 x2 x3 x4 x6 : Int} (h : R32 x6 ∧ (R32 x2 ∧ ((x6 ≤ x2 → R64 x4 ∧ Q (Int.tmod x4 11) μ) ∧ (¬ (x6 ≤ x2) → R64 x4 ∧ Ex G Φ 7 8 [some (1, x0), none, some (0, x2), some (0, x3), some (1, (Int.tdiv x4 11)), none, some (0, (x6 + (-1)))] [] S μ 0 0)))) : Ex G Φ 7 8 [some (1, x0), none, some (0, x2), some (0, x3), some (1, x4), none, some (0, x6)] [] S μ 0 0 := by
  refine ex_iload hΦ dX8_figure_8 rfl ?_
  refine ex_iload_n hΦ dX8_figure_10 rfl ?_
  obtain ⟨o1, h⟩ := h
  obtain ⟨o2, h⟩ := h
  refine ex_icmp_le 28 hΦ dX8_figure_11 (by decide) o1 o2 (fun c => ?_) (fun c => ?_)
  · have h := h.1 c
    refine ex_lload hΦ dX8_figure_28 rfl ?_
    refine ex_ldc2 hΦ dX8_figure_30 qw1237 ?_
    obtain ⟨o3, h⟩ := h
    refine ex_lrem hΦ dX8_figure_33 o3 ⟨by decide, by decide⟩ (by decide) ?_
    refine ex_l2i hΦ dX8_figure_34 ?_
    exact ex_returni hΦ hR dX8_figure_35 h
  · have h := h.2 c
    refine ex_lload hΦ dX8_figure_14 rfl ?_
    refine ex_ldc2 hΦ dX8_figure_16 qw1237 ?_
    obtain ⟨o4, h⟩ := h
    refine ex_ldiv hΦ dX8_figure_19 o4 ⟨by decide, by decide⟩ (by decide) ?_
    refine ex_lstore (L' := [some (1, x0), none, some (0, x2), some (0, x3), some (1, (Int.tdiv x4 11)), none, some (0, x6)]) hΦ dX8_figure_20 (by decide) rfl ?_
    refine ex_iinc (L' := [some (1, x0), none, some (0, x2), some (0, x3), some (1, (Int.tdiv x4 11)), none, some (0, (x6 + (-1)))]) hΦ dX8_figure_22 rfl (by decide) rfl ?_
    refine ex_goto 8 hΦ dX8_figure_25 (by decide) ?_
    exact h
theorem eX8_figure {G : Gm} {S : List Sh} {μ : Mem} {Q : Int → Mem → Prop} {x0 x2 x3 : Int} (h : ∀ Φ : Fr, St G Φ cX8_figure RX8 7 0 0 0 0 → Rt G Φ (Pi S Q) 0 0 (some .int) → Ex G Φ 7 0 [some (1, x0), none, some (0, x2), some (0, x3), none, none, none] [] S μ 0 0) : Ci G mX8_figure [(1, x0), (0, x2), (0, x3)] S μ Q :=
  call_of' (plainFor_of_name (by decide +kernel)) [some (1, x0), none, some (0, x2), some (0, x3), none, none, none] rfl (Nat.le_of_ble_eq_true rfl) (fun Φ hΦ hR => h Φ hΦ hR)
theorem bX8_figure_0 {G : Gm} {Φ : Fr} {S : List Sh} {μ : Mem} {Q : Int → Mem → Prop} (hΦ : St G Φ cX8_figure RX8 7 0 0 0 0) (hR : Rt G Φ (Pi S Q) 0 0 (some .int)) {x0 x2 x3 : Int} (h : Ex G Φ 7 8 [some (1, x0), none, some (0, x2), some (0, x3), some (1, x0), none, some (0, (x3 - 1))] [] S μ 0 0) : Ex G Φ 7 0 [some (1, x0), none, some (0, x2), some (0, x3), none, none, none] [] S μ 0 0 := by
  refine ex_lload_n hΦ dX8_figure_0 rfl ?_
  refine ex_lstore (L' := [some (1, x0), none, some (0, x2), some (0, x3), some (1, x0), none, none]) hΦ dX8_figure_1 (by decide) rfl ?_
  refine ex_iload_n hΦ dX8_figure_3 rfl ?_
  refine ex_iconst hΦ dX8_figure_4 ?_
  refine ex_isub hΦ dX8_figure_5 ?_
  refine ex_istore (L' := [some (1, x0), none, some (0, x2), some (0, x3), some (1, x0), none, some (0, (x3 - 1))]) hΦ dX8_figure_6 (by decide) rfl ?_
  exact h
theorem bX8_slips_54 {G : Gm} {Φ : Fr} {S : List Sh} {μ : Mem} {Q : Int → Mem → Prop} (hΦ : St G Φ cX8_slips RX8 8 6 147 0 0) (hR : Rt G Φ (Pi S Q) 0 0 (some .int)) {x0 x1 x2 x3 x5 : Int} (h : So S x0 (.inl 8) ∧ (Ai S (μ x0 32) 0 x1 ∧ (R32 x5 ∧ (R32 (μ (μ x0 32) x1) ∧ (((μ (μ x0 32) x1) ≤ x5 → Q x3 μ) ∧ (¬ ((μ (μ x0 32) x1) ≤ x5) → Ai S (μ x0 33) 1 x1 ∧ Ci G mX8_figure [(1, (μ (μ x0 33) x1)), (0, x5), (0, (μ (μ x0 32) x1))] S μ (fun r6 μ6 => Ex G Φ 8 87 [some (2, x0), some (0, x1), some (0, x2), some (1, x3), none, some (0, x5), some (0, r6), some (0, 0)] [] S μ6 0 0))))))) : Ex G Φ 8 54 [some (2, x0), some (0, x1), some (0, x2), some (1, x3), none, some (0, x5), none, none] [] S μ 0 0 := by
  refine ex_iload hΦ dX8_slips_54 rfl ?_
  obtain ⟨o1, h⟩ := h
  refine ex_aload_n hΦ dX8_slips_56 rfl o1.1 ?_
  refine ex_getf hΦ fl_X8_58 o1 dX8_slips_57 ?_
  refine ex_iload_n hΦ dX8_slips_60 rfl ?_
  obtain ⟨o2, h⟩ := h
  refine ex_iald' hΦ o2 dX8_slips_61 ?_
  obtain ⟨o3, h⟩ := h
  obtain ⟨o4, h⟩ := h
  refine ex_icmp_ge 124 hΦ dX8_slips_62 (by decide) o3 o4 (fun c => ?_) (fun c => ?_)
  · have h := h.1 c
    refine ex_lload_n hΦ dX8_slips_124 rfl ?_
    refine ex_l2i hΦ dX8_slips_125 ?_
    exact ex_returni hΦ hR dX8_slips_126 h
  · have h := h.2 c
    refine ex_aload_n hΦ dX8_slips_65 rfl o1.1 ?_
    refine ex_getf hΦ fl_X8_61 o1 dX8_slips_66 ?_
    refine ex_iload_n hΦ dX8_slips_69 rfl ?_
    obtain ⟨o5, h⟩ := h
    refine ex_lald' hΦ o5 dX8_slips_70 ?_
    refine ex_iload hΦ dX8_slips_71 rfl ?_
    refine ex_aload_n hΦ dX8_slips_73 rfl o1.1 ?_
    refine ex_getf hΦ fl_X8_58 o1 dX8_slips_74 ?_
    refine ex_iload_n hΦ dX8_slips_77 rfl ?_
    refine ex_iald' hΦ o2 dX8_slips_78 ?_
    refine ex_callSi [(1, (μ (μ x0 33) x1)), (0, x5), (0, (μ (μ x0 32) x1))] [(0, (μ (μ x0 32) x1)), (0, x5), (1, (μ (μ x0 33) x1))] hΦ lkS_X8_314 ⟨by decide, by decide⟩ (Nat.le_of_ble_eq_true rfl) rfl (by decide) dX8_slips_79 rfl h (fun r6 μ6 h => ?_)
    refine ex_istore (L' := [some (2, x0), some (0, x1), some (0, x2), some (1, x3), none, some (0, x5), some (0, r6), none]) hΦ dX8_slips_82 (by decide) rfl ?_
    refine ex_iconst hΦ dX8_slips_84 ?_
    refine ex_istore (L' := [some (2, x0), some (0, x1), some (0, x2), some (1, x3), none, some (0, x5), some (0, r6), some (0, 0)]) hΦ dX8_slips_85 (by decide) rfl ?_
    exact h
theorem bX8_slips_87 {G : Gm} {Φ : Fr} {S : List Sh} {μ : Mem} {Q : Int → Mem → Prop} (hΦ : St G Φ cX8_slips RX8 8 6 147 0 0) (hR : Rt G Φ (Pi S Q) 0 0 (some .int)) {x0 x1 x2 x3 x5 x6 x7 : Int} (h : R32 x7 ∧ (R32 x2 ∧ ((x2 ≤ x7 → Ex G Φ 8 54 [some (2, x0), some (0, x1), some (0, x2), some (1, x3), none, some (0, (x5 + 1)), none, none] [] S μ 0 0) ∧ (¬ (x2 ≤ x7) → So S x0 (.inl 8) ∧ (Ai S (μ x0 18) 0 x6 ∧ (R32 (1000 - (μ (μ x0 18) x6)) ∧ (R64 (x3 * (1000 - (μ (μ x0 18) x6))) ∧ Ex G Φ 8 87 [some (2, x0), some (0, x1), some (0, x2), some (1, (Int.tdiv (x3 * (1000 - (μ (μ x0 18) x6))) 1000)), none, some (0, x5), some (0, x6), some (0, (x7 + 1))] [] S μ 0 0))))))) : Ex G Φ 8 87 [some (2, x0), some (0, x1), some (0, x2), some (1, x3), none, some (0, x5), some (0, x6), some (0, x7)] [] S μ 0 0 := by
  refine ex_iload hΦ dX8_slips_87 rfl ?_
  refine ex_iload_n hΦ dX8_slips_89 rfl ?_
  obtain ⟨o1, h⟩ := h
  obtain ⟨o2, h⟩ := h
  refine ex_icmp_ge 118 hΦ dX8_slips_90 (by decide) o1 o2 (fun c => ?_) (fun c => ?_)
  · have h := h.1 c
    refine ex_iinc (L' := [some (2, x0), some (0, x1), some (0, x2), some (1, x3), none, some (0, (x5 + 1)), some (0, x6), some (0, x7)]) hΦ dX8_slips_118 rfl (by decide) rfl ?_
    refine ex_goto 54 hΦ dX8_slips_121 (by decide) ?_
    refine ex_forget (L' := [some (2, x0), some (0, x1), some (0, x2), some (1, x3), none, some (0, (x5 + 1)), none, none]) [6, 7] rfl ?_
    exact h
  · have h := h.2 c
    refine ex_lload_n hΦ dX8_slips_93 rfl ?_
    refine ex_sipush hΦ dX8_slips_94 (by decide) ?_
    obtain ⟨o3, h⟩ := h
    refine ex_aload_n hΦ dX8_slips_97 rfl o3.1 ?_
    refine ex_getf hΦ fl_X8_36 o3 dX8_slips_98 ?_
    refine ex_iload hΦ dX8_slips_101 rfl ?_
    obtain ⟨o4, h⟩ := h
    refine ex_iald' hΦ o4 dX8_slips_103 ?_
    refine ex_isub hΦ dX8_slips_104 ?_
    obtain ⟨o5, h⟩ := h
    refine ex_i2l hΦ dX8_slips_105 o5 ?_
    refine ex_lmul hΦ dX8_slips_106 ?_
    refine ex_ldc2 hΦ dX8_slips_107 qw1242 ?_
    obtain ⟨o6, h⟩ := h
    refine ex_ldiv hΦ dX8_slips_110 o6 ⟨by decide, by decide⟩ (by decide) ?_
    refine ex_lstore_n (L' := [some (2, x0), some (0, x1), some (0, x2), some (1, (Int.tdiv (x3 * (1000 - (μ (μ x0 18) x6))) 1000)), none, some (0, x5), some (0, x6), some (0, x7)]) hΦ dX8_slips_111 (by decide) rfl ?_
    refine ex_iinc (L' := [some (2, x0), some (0, x1), some (0, x2), some (1, (Int.tdiv (x3 * (1000 - (μ (μ x0 18) x6))) 1000)), none, some (0, x5), some (0, x6), some (0, (x7 + 1))]) hΦ dX8_slips_112 rfl (by decide) rfl ?_
    refine ex_goto 87 hΦ dX8_slips_115 (by decide) ?_
    exact h
theorem eX8_slips {G : Gm} {S : List Sh} {μ : Mem} {Q : Int → Mem → Prop} {x0 x1 x2 : Int} (h : ∀ Φ : Fr, St G Φ cX8_slips RX8 8 6 147 0 0 → Rt G Φ (Pi S Q) 0 0 (some .int) → Ex G Φ 8 0 [some (2, x0), some (0, x1), some (0, x2), none, none, none, none, none] [] S μ 0 0) : Ci G mX8_slips [(2, x0), (0, x1), (0, x2)] S μ Q :=
  call_of' (plainFor_of_name (by decide +kernel)) [some (2, x0), some (0, x1), some (0, x2), none, none, none, none, none] rfl (Nat.le_of_ble_eq_true rfl) (fun Φ hΦ hR => h Φ hΦ hR)
theorem bX8_slips_0 {G : Gm} {Φ : Fr} {S : List Sh} {μ : Mem} {Q : Int → Mem → Prop} (hΦ : St G Φ cX8_slips RX8 8 6 147 0 0) (hR : Rt G Φ (Pi S Q) 0 0 (some .int)) {x0 x1 x2 : Int} (h : So S x0 (.inl 8) ∧ (Ci G mX8_isWheel [(2, x0), (0, x1)] S μ (fun r2 μ2 => R32 r2 ∧ ((r2 ≠ 0 → R32 x2 ∧ (Ci G mX8_in [(1, x2), (1, 0), (1, 99)] S μ2 (fun r5 μ5 => R32 r5 ∧ ((r5 ≠ 0 → Cv G mX8_ratesNow [(2, x0)] S μ5 (fun μ7 => Ai S (μ7 x0 27) 1 x1 ∧ (R64 (μ7 (μ7 x0 27) x1) ∧ (((μ7 (μ7 x0 27) x1) ≠ 0 → Cv G mX8_findRows [(2, x0)] S μ7 (fun μ10 => Ex G Φ 8 54 [some (2, x0), some (0, x1), some (0, x2), some (1, 1000000000), none, some (0, 0), none, none] [] S μ10 0 0)) ∧ ((μ7 (μ7 x0 27) x1) = 0 → Q 0 μ7))))) ∧ (r5 = 0 → Q (-1000000002) μ5))))) ∧ (r2 = 0 → Q (-1000000001) μ2))))) : Ex G Φ 8 0 [some (2, x0), some (0, x1), some (0, x2), none, none, none, none, none] [] S μ 0 0 := by
  obtain ⟨o1, h⟩ := h
  refine ex_aload_n hΦ dX8_slips_0 rfl o1.1 ?_
  refine ex_iload_n hΦ dX8_slips_1 rfl ?_
  refine ex_callVi [(0, x1)] [(0, x1), (2, x0)] hΦ lkV_X8_240 ⟨by decide, by decide⟩ (Nat.le_of_ble_eq_true rfl) rfl (by decide) 8 (by decide) rfl o1 dX8_slips_2 rfl h (fun r2 μ2 h => ?_)
  obtain ⟨o3, h⟩ := h
  refine ex_if_ne 11 hΦ dX8_slips_5 (by decide) o3 (fun c => ?_) (fun c => ?_)
  · have h := h.1 c
    refine ex_iload_n hΦ dX8_slips_11 rfl ?_
    obtain ⟨o4, h⟩ := h
    refine ex_i2l hΦ dX8_slips_12 o4 ?_
    refine ex_lconst (x := 0) hΦ dX8_slips_13 (by decide) ?_
    refine ex_ldc2 hΦ dX8_slips_14 qw1148 ?_
    refine ex_callSi [(1, x2), (1, 0), (1, 99)] [(1, 99), (1, 0), (1, x2)] hΦ lkS_X8_91 ⟨by decide, by decide⟩ (Nat.le_of_ble_eq_true rfl) rfl (by decide) dX8_slips_17 rfl h (fun r5 μ5 h => ?_)
    obtain ⟨o6, h⟩ := h
    refine ex_if_ne 26 hΦ dX8_slips_20 (by decide) o6 (fun c => ?_) (fun c => ?_)
    · have h := h.1 c
      refine ex_aload_n hΦ dX8_slips_26 rfl o1.1 ?_
      refine ex_callVv [] [(2, x0)] hΦ lkV_X8_231 ⟨by decide, by decide⟩ (Nat.le_of_ble_eq_true rfl) rfl (by decide) 8 (by decide) rfl o1 dX8_slips_27 rfl h (fun μ7 h => ?_)
      refine ex_aload_n hΦ dX8_slips_30 rfl o1.1 ?_
      refine ex_getf hΦ fl_X8_51 o1 dX8_slips_31 ?_
      refine ex_iload_n hΦ dX8_slips_34 rfl ?_
      obtain ⟨o8, h⟩ := h
      refine ex_lald' hΦ o8 dX8_slips_35 ?_
      refine ex_lconst (x := 0) hΦ dX8_slips_36 (by decide) ?_
      obtain ⟨o9, h⟩ := h
      refine ex_lcmp hΦ dX8_slips_37 o9 ⟨by decide, by decide⟩ ?_
      refine ex_lif_ne 43 hΦ dX8_slips_38 (by decide) (fun c => ?_) (fun c => ?_)
      · have h := h.1 c
        refine ex_aload_n hΦ dX8_slips_43 rfl o1.1 ?_
        refine ex_callVv [] [(2, x0)] hΦ lkV_X8_309 ⟨by decide, by decide⟩ (Nat.le_of_ble_eq_true rfl) rfl (by decide) 8 (by decide) rfl o1 dX8_slips_44 rfl h (fun μ10 h => ?_)
        refine ex_ldc2 hΦ dX8_slips_47 qw1238 ?_
        refine ex_lstore_n (L' := [some (2, x0), some (0, x1), some (0, x2), some (1, 1000000000), none, none, none, none]) hΦ dX8_slips_50 (by decide) rfl ?_
        refine ex_iconst hΦ dX8_slips_51 ?_
        refine ex_istore (L' := [some (2, x0), some (0, x1), some (0, x2), some (1, 1000000000), none, some (0, 0), none, none]) hΦ dX8_slips_52 (by decide) rfl ?_
        exact h
      · have h := h.2 c
        refine ex_iconst hΦ dX8_slips_41 ?_
        exact ex_returni hΦ hR dX8_slips_42 h
    · have h := h.2 c
      refine ex_ldc hΦ dX8_slips_23 qw984 ?_
      exact ex_returni hΦ hR dX8_slips_25 h
  · have h := h.2 c
    refine ex_ldc hΦ dX8_slips_8 qw1098 ?_
    exact ex_returni hΦ hR dX8_slips_10 h
theorem eX8_gives {G : Gm} {S : List Sh} {μ : Mem} {Q : Int → Mem → Prop} {x0 x1 x2 x3 x4 x5 : Int} (h : ∀ Φ : Fr, St G Φ cX8_gives RX8 6 5 127 0 0 → Rt G Φ (Pi S Q) 0 0 (some .boolean) → Ex G Φ 6 0 [some (2, x0), some (0, x1), some (0, x2), some (0, x3), some (0, x4), some (0, x5)] [] S μ 0 0) : Ci G mX8_gives [(2, x0), (0, x1), (0, x2), (0, x3), (0, x4), (0, x5)] S μ Q :=
  call_of' (plainFor_of_name (by decide +kernel)) [some (2, x0), some (0, x1), some (0, x2), some (0, x3), some (0, x4), some (0, x5)] rfl (Nat.le_of_ble_eq_true rfl) (fun Φ hΦ hR => h Φ hΦ hR)
theorem bX8_gives_0 {G : Gm} {Φ : Fr} {S : List Sh} {μ : Mem} {Q : Int → Mem → Prop} (hΦ : St G Φ cX8_gives RX8 6 5 127 0 0) (hR : Rt G Φ (Pi S Q) 0 0 (some .boolean)) {x0 x1 x2 x3 x4 x5 : Int} (h : So S x0 (.inl 8) ∧ (∀ m2 : Mem, m2 = mu μ x0 30 1 → (Ai S (m2 x0 15) 0 20 ∧ (∀ m4 : Mem, m4 = mu m2 (m2 x0 15) 20 x3 → (Ai S (m4 x0 16) 0 20 ∧ (∀ m6 : Mem, m6 = mu m4 (m4 x0 16) 20 x1 → (Ai S (m6 x0 17) 0 20 ∧ (∀ m8 : Mem, m8 = mu m6 (m6 x0 17) 20 x2 → (Ai S (m8 x0 0) 0 10 ∧ (Cv G mX8_findRates [(2, x0), (0, (m8 (m8 x0 0) 10)), (0, 0)] S m8 (fun μ10 => ∀ m11 : Mem, m11 = mu μ10 x0 30 0 → (R32 (m11 x0 29) ∧ (((m11 x0 29) ≠ 0 → Q 0 m11) ∧ ((m11 x0 29) = 0 → Ai S (m11 x0 27) 1 x4 ∧ (R32 x5 ∧ (R64 (m11 (m11 x0 27) x4) ∧ (R64 x5 ∧ (((m11 (m11 x0 27) x4) ≠ x5 → Q 0 m11) ∧ ((m11 (m11 x0 27) x4) = x5 → Ai S (m11 x0 28) 1 x4 ∧ (R64 (m11 (m11 x0 28) x4) ∧ (((m11 (m11 x0 28) x4) ≠ 1 → Q 0 m11) ∧ ((m11 (m11 x0 28) x4) = 1 → Q 1 m11)))))))))))))))))))))) : Ex G Φ 6 0 [some (2, x0), some (0, x1), some (0, x2), some (0, x3), some (0, x4), some (0, x5)] [] S μ 0 0 := by
  obtain ⟨o1, h⟩ := h
  refine ex_aload_n hΦ dX8_gives_0 rfl o1.1 ?_
  refine ex_iconst hΦ dX8_gives_1 ?_
  obtain ⟨m2, hm2⟩ : ∃ m : Mem, m = mu μ x0 30 1 := ⟨_, rfl⟩
  have h := h m2 hm2
  refine ex_putz' hΦ fl_X8_189 o1 rfl rfl (by decide) (by decide) dX8_gives_2 hm2 ?_
  refine ex_aload_n hΦ dX8_gives_5 rfl o1.1 ?_
  refine ex_getf hΦ fl_X8_27 o1 dX8_gives_6 ?_
  refine ex_bipush hΦ dX8_gives_9 (by decide) ?_
  refine ex_iload_n hΦ dX8_gives_11 rfl ?_
  obtain ⟨o3, h⟩ := h
  obtain ⟨m4, hm4⟩ : ∃ m : Mem, m = mu m2 (m2 x0 15) 20 x3 := ⟨_, rfl⟩
  have h := h m4 hm4
  refine ex_iast'' hΦ o3 dX8_gives_12 hm4 ?_
  refine ex_aload_n hΦ dX8_gives_13 rfl o1.1 ?_
  refine ex_getf hΦ fl_X8_30 o1 dX8_gives_14 ?_
  refine ex_bipush hΦ dX8_gives_17 (by decide) ?_
  refine ex_iload_n hΦ dX8_gives_19 rfl ?_
  obtain ⟨o5, h⟩ := h
  obtain ⟨m6, hm6⟩ : ∃ m : Mem, m = mu m4 (m4 x0 16) 20 x1 := ⟨_, rfl⟩
  have h := h m6 hm6
  refine ex_iast'' hΦ o5 dX8_gives_20 hm6 ?_
  refine ex_aload_n hΦ dX8_gives_21 rfl o1.1 ?_
  refine ex_getf hΦ fl_X8_33 o1 dX8_gives_22 ?_
  refine ex_bipush hΦ dX8_gives_25 (by decide) ?_
  refine ex_iload_n hΦ dX8_gives_27 rfl ?_
  obtain ⟨o7, h⟩ := h
  obtain ⟨m8, hm8⟩ : ∃ m : Mem, m = mu m6 (m6 x0 17) 20 x2 := ⟨_, rfl⟩
  have h := h m8 hm8
  refine ex_iast'' hΦ o7 dX8_gives_28 hm8 ?_
  refine ex_aload_n hΦ dX8_gives_29 rfl o1.1 ?_
  refine ex_aload_n hΦ dX8_gives_30 rfl o1.1 ?_
  refine ex_getf hΦ fl_X8_7 o1 dX8_gives_31 ?_
  refine ex_bipush hΦ dX8_gives_34 (by decide) ?_
  obtain ⟨o9, h⟩ := h
  refine ex_iald' hΦ o9 dX8_gives_36 ?_
  refine ex_iconst hΦ dX8_gives_37 ?_
  refine ex_callVv [(0, (m8 (m8 x0 0) 10)), (0, 0)] [(0, 0), (0, (m8 (m8 x0 0) 10)), (2, x0)] hΦ lkV_X8_214 ⟨by decide, by decide⟩ (Nat.le_of_ble_eq_true rfl) rfl (by decide) 8 (by decide) rfl o1 dX8_gives_38 rfl h (fun μ10 h => ?_)
  refine ex_aload_n hΦ dX8_gives_41 rfl o1.1 ?_
  refine ex_iconst hΦ dX8_gives_42 ?_
  obtain ⟨m11, hm11⟩ : ∃ m : Mem, m = mu μ10 x0 30 0 := ⟨_, rfl⟩
  have h := h m11 hm11
  refine ex_putz' hΦ fl_X8_189 o1 rfl rfl (by decide) (by decide) dX8_gives_43 hm11 ?_
  refine ex_aload_n hΦ dX8_gives_46 rfl o1.1 ?_
  refine ex_getf hΦ fl_X8_200 o1 dX8_gives_47 ?_
  obtain ⟨o12, h⟩ := h
  refine ex_if_ne 83 hΦ dX8_gives_50 (by decide) o12 (fun c => ?_) (fun c => ?_)
  · have h := h.1 c
    refine ex_iconst hΦ dX8_gives_83 ?_
    exact ex_returnz hΦ hR (by decide) (by decide) dX8_gives_84 h
  · have h := h.2 c
    refine ex_aload_n hΦ dX8_gives_53 rfl o1.1 ?_
    refine ex_getf hΦ fl_X8_51 o1 dX8_gives_54 ?_
    refine ex_iload hΦ dX8_gives_57 rfl ?_
    obtain ⟨o13, h⟩ := h
    refine ex_lald' hΦ o13 dX8_gives_59 ?_
    refine ex_iload hΦ dX8_gives_60 rfl ?_
    obtain ⟨o14, h⟩ := h
    refine ex_i2l hΦ dX8_gives_62 o14 ?_
    obtain ⟨o15, h⟩ := h
    obtain ⟨o16, h⟩ := h
    refine ex_lcmp hΦ dX8_gives_63 o15 o16 ?_
    refine ex_lif_ne 83 hΦ dX8_gives_64 (by decide) (fun c => ?_) (fun c => ?_)
    · have h := h.1 c
      refine ex_iconst hΦ dX8_gives_83 ?_
      exact ex_returnz hΦ hR (by decide) (by decide) dX8_gives_84 h
    · have h := h.2 c
      refine ex_aload_n hΦ dX8_gives_67 rfl o1.1 ?_
      refine ex_getf hΦ fl_X8_55 o1 dX8_gives_68 ?_
      refine ex_iload hΦ dX8_gives_71 rfl ?_
      obtain ⟨o17, h⟩ := h
      refine ex_lald' hΦ o17 dX8_gives_73 ?_
      refine ex_lconst (x := 1) hΦ dX8_gives_74 (by decide) ?_
      obtain ⟨o18, h⟩ := h
      refine ex_lcmp hΦ dX8_gives_75 o18 ⟨by decide, by decide⟩ ?_
      refine ex_lif_ne 83 hΦ dX8_gives_76 (by decide) (fun c => ?_) (fun c => ?_)
      · have h := h.1 c
        refine ex_iconst hΦ dX8_gives_83 ?_
        exact ex_returnz hΦ hR (by decide) (by decide) dX8_gives_84 h
      · have h := h.2 c
        refine ex_iconst hΦ dX8_gives_79 ?_
        refine ex_goto 84 hΦ dX8_gives_80 (by decide) ?_
        exact ex_returnz hΦ hR (by decide) (by decide) dX8_gives_84 h
theorem bX8_hidden_73 {G : Gm} {Φ : Fr} {S : List Sh} {μ : Mem} {Q : Int → Mem → Prop} (hΦ : St G Φ cX8_hidden RX8 9 6 152 0 0) (hR : Rt G Φ (Pi S Q) 0 0 (some .int)) {x0 x1 x2 x3 x4 x5 x6 x7 : Int} (h : So S x0 (.inl 8) ∧ (R32 x7 ∧ (R32 (μ x0 2) ∧ (((μ x0 2) ≤ x7 → R32 x4 ∧ ((x4 ≠ (-1) → Q (-1) μ) ∧ (x4 = (-1) → Q x6 μ))) ∧ (¬ ((μ x0 2) ≤ x7) → Ex G Φ 9 88 [some (2, x0), some (0, x1), some (0, x2), some (0, x3), some (0, x4), some (0, x5), some (0, x6), some (0, x7), some (0, (x7 + 1))] [] S μ 0 0))))) : Ex G Φ 9 73 [some (2, x0), some (0, x1), some (0, x2), some (0, x3), some (0, x4), some (0, x5), some (0, x6), some (0, x7), none] [] S μ 0 0 := by
  refine ex_iload hΦ dX8_hidden_73 rfl ?_
  obtain ⟨o1, h⟩ := h
  refine ex_aload_n hΦ dX8_hidden_75 rfl o1.1 ?_
  refine ex_getf hΦ fl_X8_177 o1 dX8_hidden_76 ?_
  obtain ⟨o2, h⟩ := h
  obtain ⟨o3, h⟩ := h
  refine ex_icmp_ge 159 hΦ dX8_hidden_79 (by decide) o2 o3 (fun c => ?_) (fun c => ?_)
  · have h := h.1 c
    refine ex_iload hΦ dX8_hidden_159 rfl ?_
    refine ex_iconst hΦ dX8_hidden_161 ?_
    obtain ⟨o4, h⟩ := h
    refine ex_icmp_ne 170 hΦ dX8_hidden_162 (by decide) o4 ⟨by decide, by decide⟩ (fun c => ?_) (fun c => ?_)
    · have h := h.1 c
      refine ex_iconst hΦ dX8_hidden_170 ?_
      exact ex_returni hΦ hR dX8_hidden_171 h
    · have h := h.2 c
      refine ex_iload hΦ dX8_hidden_165 rfl ?_
      refine ex_goto 171 hΦ dX8_hidden_167 (by decide) ?_
      exact ex_returni hΦ hR dX8_hidden_171 h
  · have h := h.2 c
    refine ex_iload hΦ dX8_hidden_82 rfl ?_
    refine ex_iconst hΦ dX8_hidden_84 ?_
    refine ex_iadd hΦ dX8_hidden_85 ?_
    refine ex_istore (L' := [some (2, x0), some (0, x1), some (0, x2), some (0, x3), some (0, x4), some (0, x5), some (0, x6), some (0, x7), some (0, (x7 + 1))]) hΦ dX8_hidden_86 (by decide) rfl ?_
    exact h
theorem bX8_hidden_88 {G : Gm} {Φ : Fr} {S : List Sh} {μ : Mem} {Q : Int → Mem → Prop} (hΦ : St G Φ cX8_hidden RX8 9 6 152 0 0) (hR : Rt G Φ (Pi S Q) 0 0 (some .int)) {x0 x1 x2 x3 x4 x5 x6 x7 x8 : Int} (h : So S x0 (.inl 8) ∧ (R32 x8 ∧ (R32 (μ x0 2) ∧ (((μ x0 2) ≤ x8 → Ex G Φ 9 73 [some (2, x0), some (0, x1), some (0, x2), some (0, x3), some (0, x4), some (0, x5), some (0, x6), some (0, (x7 + 1)), none] [] S μ 0 0) ∧ (¬ ((μ x0 2) ≤ x8) → Ci G mX8_has [(0, x5), (0, x7)] S μ (fun r4 μ4 => Ci G mX8_has [(0, x5), (0, x8)] S μ4 (fun r5 μ5 => R32 r4 ∧ (R32 r5 ∧ ((r4 = r5 → Ex G Φ 9 88 [some (2, x0), some (0, x1), some (0, x2), some (0, x3), some (0, x4), some (0, x5), some (0, x6), some (0, x7), some (0, (x8 + 1))] [] S μ5 0 0) ∧ (¬ (r4 = r5) → Ci G mX8_gives [(2, x0), (0, x7), (0, x8), (0, x2), (0, x1), (0, x3)] S μ5 (fun r8 μ8 => R32 r8 ∧ ((r8 = 0 → Ex G Φ 9 88 [some (2, x0), some (0, x1), some (0, x2), some (0, x3), some (0, x4), some (0, x5), some (0, x6), some (0, x7), some (0, (x8 + 1))] [] S μ8 0 0) ∧ (¬ (r8 = 0) → R32 x6 ∧ (R32 x4 ∧ ((x6 ≠ x4 → Ex G Φ 9 88 [some (2, x0), some (0, x1), some (0, x2), some (0, x3), some (0, x4), some (0, x5), some (0, (x6 + 1)), some (0, x7), some (0, (x8 + 1))] [] S μ8 0 0) ∧ (x6 = x4 → Q ((100 * x7) + x8) μ8)))))))))))))))) : Ex G Φ 9 88 [some (2, x0), some (0, x1), some (0, x2), some (0, x3), some (0, x4), some (0, x5), some (0, x6), some (0, x7), some (0, x8)] [] S μ 0 0 := by
  refine ex_iload hΦ dX8_hidden_88 rfl ?_
  obtain ⟨o1, h⟩ := h
  refine ex_aload_n hΦ dX8_hidden_90 rfl o1.1 ?_
  refine ex_getf hΦ fl_X8_177 o1 dX8_hidden_91 ?_
  obtain ⟨o2, h⟩ := h
  obtain ⟨o3, h⟩ := h
  refine ex_icmp_ge 153 hΦ dX8_hidden_94 (by decide) o2 o3 (fun c => ?_) (fun c => ?_)
  · have h := h.1 c
    refine ex_iinc (L' := [some (2, x0), some (0, x1), some (0, x2), some (0, x3), some (0, x4), some (0, x5), some (0, x6), some (0, (x7 + 1)), some (0, x8)]) hΦ dX8_hidden_153 rfl (by decide) rfl ?_
    refine ex_goto 73 hΦ dX8_hidden_156 (by decide) ?_
    refine ex_forget (L' := [some (2, x0), some (0, x1), some (0, x2), some (0, x3), some (0, x4), some (0, x5), some (0, x6), some (0, (x7 + 1)), none]) [8] rfl ?_
    exact h
  · have h := h.2 c
    refine ex_iload hΦ dX8_hidden_97 rfl ?_
    refine ex_iload hΦ dX8_hidden_99 rfl ?_
    refine ex_callSi [(0, x5), (0, x7)] [(0, x7), (0, x5)] hΦ lkS_X8_192 ⟨by decide, by decide⟩ (Nat.le_of_ble_eq_true rfl) rfl (by decide) dX8_hidden_101 rfl h (fun r4 μ4 h => ?_)
    refine ex_iload hΦ dX8_hidden_104 rfl ?_
    refine ex_iload hΦ dX8_hidden_106 rfl ?_
    refine ex_callSi [(0, x5), (0, x8)] [(0, x8), (0, x5), (0, r4)] hΦ lkS_X8_192 ⟨by decide, by decide⟩ (Nat.le_of_ble_eq_true rfl) rfl (by decide) dX8_hidden_108 rfl h (fun r5 μ5 h => ?_)
    obtain ⟨o6, h⟩ := h
    obtain ⟨o7, h⟩ := h
    refine ex_icmp_eq 147 hΦ dX8_hidden_111 (by decide) o6 o7 (fun c => ?_) (fun c => ?_)
    · have h := h.1 c
      refine ex_iinc (L' := [some (2, x0), some (0, x1), some (0, x2), some (0, x3), some (0, x4), some (0, x5), some (0, x6), some (0, x7), some (0, (x8 + 1))]) hΦ dX8_hidden_147 rfl (by decide) rfl ?_
      refine ex_goto 88 hΦ dX8_hidden_150 (by decide) ?_
      exact h
    · have h := h.2 c
      refine ex_aload_n hΦ dX8_hidden_114 rfl o1.1 ?_
      refine ex_iload hΦ dX8_hidden_115 rfl ?_
      refine ex_iload hΦ dX8_hidden_117 rfl ?_
      refine ex_iload_n hΦ dX8_hidden_119 rfl ?_
      refine ex_iload_n hΦ dX8_hidden_120 rfl ?_
      refine ex_iload_n hΦ dX8_hidden_121 rfl ?_
      refine ex_callVi [(0, x7), (0, x8), (0, x2), (0, x1), (0, x3)] [(0, x3), (0, x1), (0, x2), (0, x8), (0, x7), (2, x0)] hΦ lkV_X8_324 ⟨by decide, by decide⟩ (Nat.le_of_ble_eq_true rfl) rfl (by decide) 8 (by decide) rfl o1 dX8_hidden_122 rfl h (fun r8 μ8 h => ?_)
      obtain ⟨o9, h⟩ := h
      refine ex_if_eq 147 hΦ dX8_hidden_125 (by decide) o9 (fun c => ?_) (fun c => ?_)
      · have h := h.1 c
        refine ex_iinc (L' := [some (2, x0), some (0, x1), some (0, x2), some (0, x3), some (0, x4), some (0, x5), some (0, x6), some (0, x7), some (0, (x8 + 1))]) hΦ dX8_hidden_147 rfl (by decide) rfl ?_
        refine ex_goto 88 hΦ dX8_hidden_150 (by decide) ?_
        exact h
      · have h := h.2 c
        refine ex_iload hΦ dX8_hidden_128 rfl ?_
        refine ex_iload hΦ dX8_hidden_130 rfl ?_
        obtain ⟨o10, h⟩ := h
        obtain ⟨o11, h⟩ := h
        refine ex_icmp_ne 144 hΦ dX8_hidden_132 (by decide) o10 o11 (fun c => ?_) (fun c => ?_)
        · have h := h.1 c
          refine ex_iinc (L' := [some (2, x0), some (0, x1), some (0, x2), some (0, x3), some (0, x4), some (0, x5), some (0, (x6 + 1)), some (0, x7), some (0, x8)]) hΦ dX8_hidden_144 rfl (by decide) rfl ?_
          refine ex_iinc (L' := [some (2, x0), some (0, x1), some (0, x2), some (0, x3), some (0, x4), some (0, x5), some (0, (x6 + 1)), some (0, x7), some (0, (x8 + 1))]) hΦ dX8_hidden_147 rfl (by decide) rfl ?_
          refine ex_goto 88 hΦ dX8_hidden_150 (by decide) ?_
          exact h
        · have h := h.2 c
          refine ex_bipush hΦ dX8_hidden_135 (by decide) ?_
          refine ex_iload hΦ dX8_hidden_137 rfl ?_
          refine ex_imul hΦ dX8_hidden_139 ?_
          refine ex_iload hΦ dX8_hidden_140 rfl ?_
          refine ex_iadd hΦ dX8_hidden_142 ?_
          exact ex_returni hΦ hR dX8_hidden_143 h
theorem eX8_hidden {G : Gm} {S : List Sh} {μ : Mem} {Q : Int → Mem → Prop} {x0 x1 x2 x3 x4 : Int} (h : ∀ Φ : Fr, St G Φ cX8_hidden RX8 9 6 152 0 0 → Rt G Φ (Pi S Q) 0 0 (some .int) → Ex G Φ 9 0 [some (2, x0), some (0, x1), some (0, x2), some (0, x3), some (0, x4), none, none, none, none] [] S μ 0 0) : Ci G mX8_hidden [(2, x0), (0, x1), (0, x2), (0, x3), (0, x4)] S μ Q :=
  call_of' (plainFor_of_name (by decide +kernel)) [some (2, x0), some (0, x1), some (0, x2), some (0, x3), some (0, x4), none, none, none, none] rfl (Nat.le_of_ble_eq_true rfl) (fun Φ hΦ hR => h Φ hΦ hR)
theorem bX8_hidden_0 {G : Gm} {Φ : Fr} {S : List Sh} {μ : Mem} {Q : Int → Mem → Prop} (hΦ : St G Φ cX8_hidden RX8 9 6 152 0 0) (hR : Rt G Φ (Pi S Q) 0 0 (some .int)) {x0 x1 x2 x3 x4 : Int} (h : So S x0 (.inl 8) ∧ (Ci G mX8_isWheel [(2, x0), (0, x1)] S μ (fun r2 μ2 => R32 r2 ∧ ((r2 ≠ 0 → R32 x2 ∧ (Ci G mX8_in [(1, x2), (1, 0), (1, 2)] S μ2 (fun r5 μ5 => R32 r5 ∧ ((r5 = 0 → Q (-1000000002) μ5) ∧ (¬ (r5 = 0) → R32 x3 ∧ (Ci G mX8_in [(1, x3), (1, (-30)), (1, 30)] S μ5 (fun r8 μ8 => R32 r8 ∧ ((r8 = 0 → Q (-1000000002) μ8) ∧ (¬ (r8 = 0) → (x3 ≠ 0 → Cv G mX8_ratesNow [(2, x0)] S μ8 (fun μ10 => Ci G mX8_turning [(2, x0)] S μ10 (fun r11 μ11 => Ci G mX8_has [(0, r11), (0, x1)] S μ11 (fun r12 μ12 => R32 r12 ∧ ((r12 = 0 → Ex G Φ 9 73 [some (2, x0), some (0, x1), some (0, x2), some (0, x3), some (0, x4), some (0, r11), some (0, 0), some (0, 0), none] [] S μ12 0 0) ∧ (¬ (r12 = 0) → Q (-1000000003) μ12)))))) ∧ (x3 = 0 → Q (-1000000002) μ8)))))))))) ∧ (r2 = 0 → Q (-1000000001) μ2))))) : Ex G Φ 9 0 [some (2, x0), some (0, x1), some (0, x2), some (0, x3), some (0, x4), none, none, none, none] [] S μ 0 0 := by
  obtain ⟨o1, h⟩ := h
  refine ex_aload_n hΦ dX8_hidden_0 rfl o1.1 ?_
  refine ex_iload_n hΦ dX8_hidden_1 rfl ?_
  refine ex_callVi [(0, x1)] [(0, x1), (2, x0)] hΦ lkV_X8_240 ⟨by decide, by decide⟩ (Nat.le_of_ble_eq_true rfl) rfl (by decide) 8 (by decide) rfl o1 dX8_hidden_2 rfl h (fun r2 μ2 h => ?_)
  obtain ⟨o3, h⟩ := h
  refine ex_if_ne 11 hΦ dX8_hidden_5 (by decide) o3 (fun c => ?_) (fun c => ?_)
  · have h := h.1 c
    refine ex_iload_n hΦ dX8_hidden_11 rfl ?_
    obtain ⟨o4, h⟩ := h
    refine ex_i2l hΦ dX8_hidden_12 o4 ?_
    refine ex_lconst (x := 0) hΦ dX8_hidden_13 (by decide) ?_
    refine ex_ldc2 hΦ dX8_hidden_14 qw1247 ?_
    refine ex_callSi [(1, x2), (1, 0), (1, 2)] [(1, 2), (1, 0), (1, x2)] hΦ lkS_X8_91 ⟨by decide, by decide⟩ (Nat.le_of_ble_eq_true rfl) rfl (by decide) dX8_hidden_17 rfl h (fun r5 μ5 h => ?_)
    obtain ⟨o6, h⟩ := h
    refine ex_if_eq 41 hΦ dX8_hidden_20 (by decide) o6 (fun c => ?_) (fun c => ?_)
    · have h := h.1 c
      refine ex_ldc hΦ dX8_hidden_41 qw984 ?_
      exact ex_returni hΦ hR dX8_hidden_43 h
    · have h := h.2 c
      refine ex_iload_n hΦ dX8_hidden_23 rfl ?_
      obtain ⟨o7, h⟩ := h
      refine ex_i2l hΦ dX8_hidden_24 o7 ?_
      refine ex_ldc2 hΦ dX8_hidden_25 qw1248 ?_
      refine ex_ldc2 hΦ dX8_hidden_28 qw1169 ?_
      refine ex_callSi [(1, x3), (1, (-30)), (1, 30)] [(1, 30), (1, (-30)), (1, x3)] hΦ lkS_X8_91 ⟨by decide, by decide⟩ (Nat.le_of_ble_eq_true rfl) rfl (by decide) dX8_hidden_31 rfl h (fun r8 μ8 h => ?_)
      obtain ⟨o9, h⟩ := h
      refine ex_if_eq 41 hΦ dX8_hidden_34 (by decide) o9 (fun c => ?_) (fun c => ?_)
      · have h := h.1 c
        refine ex_ldc hΦ dX8_hidden_41 qw984 ?_
        exact ex_returni hΦ hR dX8_hidden_43 h
      · have h := h.2 c
        refine ex_iload_n hΦ dX8_hidden_37 rfl ?_
        refine ex_if_ne 44 hΦ dX8_hidden_38 (by decide) o7 (fun c => ?_) (fun c => ?_)
        · have h := h.1 c
          refine ex_aload_n hΦ dX8_hidden_44 rfl o1.1 ?_
          refine ex_callVv [] [(2, x0)] hΦ lkV_X8_231 ⟨by decide, by decide⟩ (Nat.le_of_ble_eq_true rfl) rfl (by decide) 8 (by decide) rfl o1 dX8_hidden_45 rfl h (fun μ10 h => ?_)
          refine ex_aload_n hΦ dX8_hidden_48 rfl o1.1 ?_
          refine ex_callVi [] [(2, x0)] hΦ lkV_X8_234 ⟨by decide, by decide⟩ (Nat.le_of_ble_eq_true rfl) rfl (by decide) 8 (by decide) rfl o1 dX8_hidden_49 rfl h (fun r11 μ11 h => ?_)
          refine ex_istore (L' := [some (2, x0), some (0, x1), some (0, x2), some (0, x3), some (0, x4), some (0, r11), none, none, none]) hΦ dX8_hidden_52 (by decide) rfl ?_
          refine ex_iload hΦ dX8_hidden_54 rfl ?_
          refine ex_iload_n hΦ dX8_hidden_56 rfl ?_
          refine ex_callSi [(0, r11), (0, x1)] [(0, x1), (0, r11)] hΦ lkS_X8_192 ⟨by decide, by decide⟩ (Nat.le_of_ble_eq_true rfl) rfl (by decide) dX8_hidden_57 rfl h (fun r12 μ12 h => ?_)
          obtain ⟨o13, h⟩ := h
          refine ex_if_eq 67 hΦ dX8_hidden_60 (by decide) o13 (fun c => ?_) (fun c => ?_)
          · have h := h.1 c
            refine ex_iconst hΦ dX8_hidden_67 ?_
            refine ex_istore (L' := [some (2, x0), some (0, x1), some (0, x2), some (0, x3), some (0, x4), some (0, r11), some (0, 0), none, none]) hΦ dX8_hidden_68 (by decide) rfl ?_
            refine ex_iconst hΦ dX8_hidden_70 ?_
            refine ex_istore (L' := [some (2, x0), some (0, x1), some (0, x2), some (0, x3), some (0, x4), some (0, r11), some (0, 0), some (0, 0), none]) hΦ dX8_hidden_71 (by decide) rfl ?_
            exact h
          · have h := h.2 c
            refine ex_ldcw hΦ dX8_hidden_63 qw1125 ?_
            exact ex_returni hΦ hR dX8_hidden_66 h
        · have h := h.2 c
          refine ex_ldc hΦ dX8_hidden_41 qw984 ?_
          exact ex_returni hΦ hR dX8_hidden_43 h
  · have h := h.2 c
    refine ex_ldc hΦ dX8_hidden_8 qw1098 ?_
    exact ex_returni hΦ hR dX8_hidden_10 h
theorem eX8_stood {G : Gm} {S : List Sh} {μ : Mem} {Q : Int → Mem → Prop} {x0 x1 x2 x3 : Int} (h : ∀ Φ : Fr, St G Φ cX8_stood RX8 4 2 46 0 0 → Rt G Φ (Pi S Q) 0 0 (some .int) → Ex G Φ 4 0 [some (2, x0), some (0, x1), some (0, x2), some (0, x3)] [] S μ 0 0) : Ci G mX8_stood [(2, x0), (0, x1), (0, x2), (0, x3)] S μ Q :=
  call_of' (plainFor_of_name (by decide +kernel)) [some (2, x0), some (0, x1), some (0, x2), some (0, x3)] rfl (Nat.le_of_ble_eq_true rfl) (fun Φ hΦ hR => h Φ hΦ hR)
theorem bX8_stood_0 {G : Gm} {Φ : Fr} {S : List Sh} {μ : Mem} {Q : Int → Mem → Prop} (hΦ : St G Φ cX8_stood RX8 4 2 46 0 0) (hR : Rt G Φ (Pi S Q) 0 0 (some .int)) {x0 x1 x2 x3 : Int} (h : So S x0 (.inl 8) ∧ (Ci G mX8_isWheel [(2, x0), (0, x1)] S μ (fun r2 μ2 => R32 r2 ∧ ((r2 ≠ 0 → R32 x2 ∧ (Ci G mX8_in [(1, x2), (1, 0), (1, 999)] S μ2 (fun r5 μ5 => R32 r5 ∧ ((r5 = 0 → Q (-1000000002) μ5) ∧ (¬ (r5 = 0) → R32 x3 ∧ (Ci G mX8_in [(1, x3), (1, 0), (1, 29)] S μ5 (fun r8 μ8 => R32 r8 ∧ ((r8 ≠ 0 → R32 (μ8 x0 37) ∧ (((μ8 x0 37) ≠ 12 → Ai S (μ8 x0 34) 0 (μ8 x0 37) ∧ (∀ m12 : Mem, m12 = mu μ8 (μ8 x0 34) (μ8 x0 37) x1 → (Ai S (m12 x0 35) 0 (m12 x0 37) ∧ (∀ m14 : Mem, m14 = mu m12 (m12 x0 35) (m12 x0 37) x2 → (Ai S (m14 x0 36) 0 (m14 x0 37) ∧ (∀ m16 : Mem, m16 = mu m14 (m14 x0 36) (m14 x0 37) x3 → (∀ m17 : Mem, m17 = mu m16 x0 37 ((m16 x0 37) + 1) → (Q (m17 x0 37) m17)))))))) ∧ ((μ8 x0 37) = 12 → Q (-1000000004) μ8))) ∧ (r8 = 0 → Q (-1000000002) μ8))))))))) ∧ (r2 = 0 → Q (-1000000001) μ2))))) : Ex G Φ 4 0 [some (2, x0), some (0, x1), some (0, x2), some (0, x3)] [] S μ 0 0 := by
  obtain ⟨o1, h⟩ := h
  refine ex_aload_n hΦ dX8_stood_0 rfl o1.1 ?_
  refine ex_iload_n hΦ dX8_stood_1 rfl ?_
  refine ex_callVi [(0, x1)] [(0, x1), (2, x0)] hΦ lkV_X8_240 ⟨by decide, by decide⟩ (Nat.le_of_ble_eq_true rfl) rfl (by decide) 8 (by decide) rfl o1 dX8_stood_2 rfl h (fun r2 μ2 h => ?_)
  obtain ⟨o3, h⟩ := h
  refine ex_if_ne 11 hΦ dX8_stood_5 (by decide) o3 (fun c => ?_) (fun c => ?_)
  · have h := h.1 c
    refine ex_iload_n hΦ dX8_stood_11 rfl ?_
    obtain ⟨o4, h⟩ := h
    refine ex_i2l hΦ dX8_stood_12 o4 ?_
    refine ex_lconst (x := 0) hΦ dX8_stood_13 (by decide) ?_
    refine ex_ldc2 hΦ dX8_stood_14 qw1257 ?_
    refine ex_callSi [(1, x2), (1, 0), (1, 999)] [(1, 999), (1, 0), (1, x2)] hΦ lkS_X8_91 ⟨by decide, by decide⟩ (Nat.le_of_ble_eq_true rfl) rfl (by decide) dX8_stood_17 rfl h (fun r5 μ5 h => ?_)
    obtain ⟨o6, h⟩ := h
    refine ex_if_eq 35 hΦ dX8_stood_20 (by decide) o6 (fun c => ?_) (fun c => ?_)
    · have h := h.1 c
      refine ex_ldc hΦ dX8_stood_35 qw984 ?_
      exact ex_returni hΦ hR dX8_stood_37 h
    · have h := h.2 c
      refine ex_iload_n hΦ dX8_stood_23 rfl ?_
      obtain ⟨o7, h⟩ := h
      refine ex_i2l hΦ dX8_stood_24 o7 ?_
      refine ex_lconst (x := 0) hΦ dX8_stood_25 (by decide) ?_
      refine ex_ldc2 hΦ dX8_stood_26 qw1192 ?_
      refine ex_callSi [(1, x3), (1, 0), (1, 29)] [(1, 29), (1, 0), (1, x3)] hΦ lkS_X8_91 ⟨by decide, by decide⟩ (Nat.le_of_ble_eq_true rfl) rfl (by decide) dX8_stood_29 rfl h (fun r8 μ8 h => ?_)
      obtain ⟨o9, h⟩ := h
      refine ex_if_ne 38 hΦ dX8_stood_32 (by decide) o9 (fun c => ?_) (fun c => ?_)
      · have h := h.1 c
        refine ex_aload_n hΦ dX8_stood_38 rfl o1.1 ?_
        refine ex_getf hΦ fl_X8_168 o1 dX8_stood_39 ?_
        refine ex_bipush hΦ dX8_stood_42 (by decide) ?_
        obtain ⟨o10, h⟩ := h
        refine ex_icmp_ne 50 hΦ dX8_stood_44 (by decide) o10 ⟨by decide, by decide⟩ (fun c => ?_) (fun c => ?_)
        · have h := h.1 c
          refine ex_aload_n hΦ dX8_stood_50 rfl o1.1 ?_
          refine ex_getf hΦ fl_X8_64 o1 dX8_stood_51 ?_
          refine ex_aload_n hΦ dX8_stood_54 rfl o1.1 ?_
          refine ex_getf hΦ fl_X8_168 o1 dX8_stood_55 ?_
          refine ex_iload_n hΦ dX8_stood_58 rfl ?_
          obtain ⟨o11, h⟩ := h
          obtain ⟨m12, hm12⟩ : ∃ m : Mem, m = mu μ8 (μ8 x0 34) (μ8 x0 37) x1 := ⟨_, rfl⟩
          have h := h m12 hm12
          refine ex_iast'' hΦ o11 dX8_stood_59 hm12 ?_
          refine ex_aload_n hΦ dX8_stood_60 rfl o1.1 ?_
          refine ex_getf hΦ fl_X8_67 o1 dX8_stood_61 ?_
          refine ex_aload_n hΦ dX8_stood_64 rfl o1.1 ?_
          refine ex_getf hΦ fl_X8_168 o1 dX8_stood_65 ?_
          refine ex_iload_n hΦ dX8_stood_68 rfl ?_
          obtain ⟨o13, h⟩ := h
          obtain ⟨m14, hm14⟩ : ∃ m : Mem, m = mu m12 (m12 x0 35) (m12 x0 37) x2 := ⟨_, rfl⟩
          have h := h m14 hm14
          refine ex_iast'' hΦ o13 dX8_stood_69 hm14 ?_
          refine ex_aload_n hΦ dX8_stood_70 rfl o1.1 ?_
          refine ex_getf hΦ fl_X8_70 o1 dX8_stood_71 ?_
          refine ex_aload_n hΦ dX8_stood_74 rfl o1.1 ?_
          refine ex_getf hΦ fl_X8_168 o1 dX8_stood_75 ?_
          refine ex_iload_n hΦ dX8_stood_78 rfl ?_
          obtain ⟨o15, h⟩ := h
          obtain ⟨m16, hm16⟩ : ∃ m : Mem, m = mu m14 (m14 x0 36) (m14 x0 37) x3 := ⟨_, rfl⟩
          have h := h m16 hm16
          refine ex_iast'' hΦ o15 dX8_stood_79 hm16 ?_
          refine ex_aload_n hΦ dX8_stood_80 rfl o1.1 ?_
          refine ex_dup hΦ dX8_stood_81 (Nat.ne_of_beq_eq_false rfl) ?_
          refine ex_getf hΦ fl_X8_168 o1 dX8_stood_82 ?_
          refine ex_iconst hΦ dX8_stood_85 ?_
          refine ex_iadd hΦ dX8_stood_86 ?_
          obtain ⟨m17, hm17⟩ : ∃ m : Mem, m = mu m16 x0 37 ((m16 x0 37) + 1) := ⟨_, rfl⟩
          have h := h m17 hm17
          refine ex_putf' hΦ fl_X8_168 o1 rfl rfl dX8_stood_87 hm17 ?_
          refine ex_aload_n hΦ dX8_stood_90 rfl o1.1 ?_
          refine ex_getf hΦ fl_X8_168 o1 dX8_stood_91 ?_
          exact ex_returni hΦ hR dX8_stood_94 h
        · have h := h.2 c
          refine ex_ldc hΦ dX8_stood_47 qw985 ?_
          exact ex_returni hΦ hR dX8_stood_49 h
      · have h := h.2 c
        refine ex_ldc hΦ dX8_stood_35 qw984 ?_
        exact ex_returni hΦ hR dX8_stood_37 h
  · have h := h.2 c
    refine ex_ldc hΦ dX8_stood_8 qw1098 ?_
    exact ex_returni hΦ hR dX8_stood_10 h
theorem eX8_placeBy {G : Gm} {S : List Sh} {μ : Mem} {Q : Int → Mem → Prop} {x0 x1 x2 x3 : Int} (h : ∀ Φ : Fr, St G Φ cX8_placeBy RX8 4 2 48 0 0 → Rt G Φ (Pi S Q) 0 0 (some .int) → Ex G Φ 4 0 [some (2, x0), some (0, x1), some (0, x2), some (0, x3)] [] S μ 0 0) : Ci G mX8_placeBy [(2, x0), (0, x1), (0, x2), (0, x3)] S μ Q :=
  call_of' (plainFor_of_name (by decide +kernel)) [some (2, x0), some (0, x1), some (0, x2), some (0, x3)] rfl (Nat.le_of_ble_eq_true rfl) (fun Φ hΦ hR => h Φ hΦ hR)
theorem bX8_placeBy_0 {G : Gm} {Φ : Fr} {S : List Sh} {μ : Mem} {Q : Int → Mem → Prop} (hΦ : St G Φ cX8_placeBy RX8 4 2 48 0 0) (hR : Rt G Φ (Pi S Q) 0 0 (some .int)) {x0 x1 x2 x3 : Int} (h : So S x0 (.inl 8) ∧ (Ci G mX8_placeIn [(2, x0), (0, x1), (1, 0)] S μ (fun r2 μ2 => R32 r2 ∧ (R32 x2 ∧ (x2 ≠ 0 ∧ (R32 (Int.tmod r2 x2) ∧ (Ai S (μ2 x0 27) 1 x1 ∧ (R32 x3 ∧ (Ai S (μ2 x0 28) 1 x1 ∧ Cj G mX8_down [(1, ((μ2 (μ2 x0 27) x1) * x3)), (1, (μ2 (μ2 x0 28) x1))] S μ2 (fun r10 μ10 => Ci G mX8_over [(1, ((Int.tmod r2 x2) + r10)), (0, x2)] S μ10 (fun r11 μ11 => Q r11 μ11))))))))))) : Ex G Φ 4 0 [some (2, x0), some (0, x1), some (0, x2), some (0, x3)] [] S μ 0 0 := by
  obtain ⟨o1, h⟩ := h
  refine ex_aload_n hΦ dX8_placeBy_0 rfl o1.1 ?_
  refine ex_iload_n hΦ dX8_placeBy_1 rfl ?_
  refine ex_lconst (x := 0) hΦ dX8_placeBy_2 (by decide) ?_
  refine ex_callVi [(0, x1), (1, 0)] [(1, 0), (0, x1), (2, x0)] hΦ lkV_X8_227 ⟨by decide, by decide⟩ (Nat.le_of_ble_eq_true rfl) rfl (by decide) 8 (by decide) rfl o1 dX8_placeBy_3 rfl h (fun r2 μ2 h => ?_)
  refine ex_iload_n hΦ dX8_placeBy_6 rfl ?_
  obtain ⟨o3, h⟩ := h
  obtain ⟨o4, h⟩ := h
  obtain ⟨o5, h⟩ := h
  refine ex_irem hΦ dX8_placeBy_7 o3 o4 o5 ?_
  obtain ⟨o6, h⟩ := h
  refine ex_i2l hΦ dX8_placeBy_8 o6 ?_
  refine ex_aload_n hΦ dX8_placeBy_9 rfl o1.1 ?_
  refine ex_getf hΦ fl_X8_51 o1 dX8_placeBy_10 ?_
  refine ex_iload_n hΦ dX8_placeBy_13 rfl ?_
  obtain ⟨o7, h⟩ := h
  refine ex_lald' hΦ o7 dX8_placeBy_14 ?_
  refine ex_iload_n hΦ dX8_placeBy_15 rfl ?_
  obtain ⟨o8, h⟩ := h
  refine ex_i2l hΦ dX8_placeBy_16 o8 ?_
  refine ex_lmul hΦ dX8_placeBy_17 ?_
  refine ex_aload_n hΦ dX8_placeBy_18 rfl o1.1 ?_
  refine ex_getf hΦ fl_X8_55 o1 dX8_placeBy_19 ?_
  refine ex_iload_n hΦ dX8_placeBy_22 rfl ?_
  obtain ⟨o9, h⟩ := h
  refine ex_lald' hΦ o9 dX8_placeBy_23 ?_
  refine ex_callSj [(1, ((μ2 (μ2 x0 27) x1) * x3)), (1, (μ2 (μ2 x0 28) x1))] [(1, (μ2 (μ2 x0 28) x1)), (1, ((μ2 (μ2 x0 27) x1) * x3)), (1, (Int.tmod r2 x2))] hΦ lkS_X8_220 ⟨by decide, by decide⟩ (Nat.le_of_ble_eq_true rfl) rfl (by decide) dX8_placeBy_24 rfl h (fun r10 μ10 h => ?_)
  refine ex_ladd hΦ dX8_placeBy_27 ?_
  refine ex_iload_n hΦ dX8_placeBy_28 rfl ?_
  refine ex_callSi [(1, ((Int.tmod r2 x2) + r10)), (0, x2)] [(0, x2), (1, ((Int.tmod r2 x2) + r10))] hΦ lkS_X8_223 ⟨by decide, by decide⟩ (Nat.le_of_ble_eq_true rfl) rfl (by decide) dX8_placeBy_29 rfl h (fun r11 μ11 h => ?_)
  exact ex_returni hΦ hR dX8_placeBy_32 h
theorem bX8_mayHave_5 {G : Gm} {Φ : Fr} {S : List Sh} {μ : Mem} {Q : Int → Mem → Prop} (hΦ : St G Φ cX8_mayHave RX8 5 3 71 0 0) (hR : Rt G Φ (Pi S Q) 0 0 (some .boolean)) {x0 x1 x2 x3 x4 : Int} (h : So S x0 (.inl 8) ∧ (R32 x4 ∧ (R32 (μ x0 37) ∧ (((μ x0 37) ≤ x4 → 0 ≤ x3 ∧ (x3 ≤ 1 ∧ Q x3 μ)) ∧ (¬ ((μ x0 37) ≤ x4) → R32 x3 ∧ ((x3 = 0 → 0 ≤ x3 ∧ (x3 ≤ 1 ∧ Q x3 μ)) ∧ (¬ (x3 = 0) → Ai S (μ x0 34) 0 x4 ∧ (R32 (μ (μ x0 34) x4) ∧ (R32 x1 ∧ (((μ (μ x0 34) x4) ≠ x1 → Ex G Φ 5 5 [some (2, x0), some (0, x1), some (0, x2), some (0, 1), some (0, (x4 + 1))] [] S μ 0 0) ∧ ((μ (μ x0 34) x4) = x1 → Ai S (μ x0 35) 0 x4 ∧ (Ci G mX8_placeBy [(2, x0), (0, x1), (0, x2), (0, (μ (μ x0 35) x4))] S μ (fun r13 μ13 => Ai S (μ13 x0 36) 0 x4 ∧ (R32 r13 ∧ (R32 (μ13 (μ13 x0 36) x4) ∧ ((r13 ≠ (μ13 (μ13 x0 36) x4) → Ex G Φ 5 5 [some (2, x0), some (0, x1), some (0, x2), some (0, 0), some (0, (x4 + 1))] [] S μ13 0 0) ∧ (r13 = (μ13 (μ13 x0 36) x4) → Ex G Φ 5 5 [some (2, x0), some (0, x1), some (0, x2), some (0, 1), some (0, (x4 + 1))] [] S μ13 0 0))))))))))))))))) : Ex G Φ 5 5 [some (2, x0), some (0, x1), some (0, x2), some (0, x3), some (0, x4)] [] S μ 0 0 := by
  refine ex_iload hΦ dX8_mayHave_5 rfl ?_
  obtain ⟨o1, h⟩ := h
  refine ex_aload_n hΦ dX8_mayHave_7 rfl o1.1 ?_
  refine ex_getf hΦ fl_X8_168 o1 dX8_mayHave_8 ?_
  obtain ⟨o2, h⟩ := h
  obtain ⟨o3, h⟩ := h
  refine ex_icmp_ge 64 hΦ dX8_mayHave_11 (by decide) o2 o3 (fun c => ?_) (fun c => ?_)
  · have h := h.1 c
    refine ex_iload_n hΦ dX8_mayHave_64 rfl ?_
    obtain ⟨o4, h⟩ := h
    obtain ⟨o5, h⟩ := h
    exact ex_returnz hΦ hR o4 o5 dX8_mayHave_65 h
  · have h := h.2 c
    refine ex_iload_n hΦ dX8_mayHave_14 rfl ?_
    obtain ⟨o6, h⟩ := h
    refine ex_if_eq 64 hΦ dX8_mayHave_15 (by decide) o6 (fun c => ?_) (fun c => ?_)
    · have h := h.1 c
      refine ex_iload_n hΦ dX8_mayHave_64 rfl ?_
      obtain ⟨o7, h⟩ := h
      obtain ⟨o8, h⟩ := h
      exact ex_returnz hΦ hR o7 o8 dX8_mayHave_65 h
    · have h := h.2 c
      refine ex_aload_n hΦ dX8_mayHave_18 rfl o1.1 ?_
      refine ex_getf hΦ fl_X8_64 o1 dX8_mayHave_19 ?_
      refine ex_iload hΦ dX8_mayHave_22 rfl ?_
      obtain ⟨o9, h⟩ := h
      refine ex_iald' hΦ o9 dX8_mayHave_24 ?_
      refine ex_iload_n hΦ dX8_mayHave_25 rfl ?_
      obtain ⟨o10, h⟩ := h
      obtain ⟨o11, h⟩ := h
      refine ex_icmp_ne 52 hΦ dX8_mayHave_26 (by decide) o10 o11 (fun c => ?_) (fun c => ?_)
      · have h := h.1 c
        refine ex_iconst hΦ dX8_mayHave_52 ?_
        refine ex_goto 57 hΦ dX8_mayHave_53 (by decide) ?_
        refine ex_istore_n (L' := [some (2, x0), some (0, x1), some (0, x2), some (0, 1), some (0, x4)]) hΦ dX8_mayHave_57 (by decide) rfl ?_
        refine ex_iinc (L' := [some (2, x0), some (0, x1), some (0, x2), some (0, 1), some (0, (x4 + 1))]) hΦ dX8_mayHave_58 rfl (by decide) rfl ?_
        refine ex_goto 5 hΦ dX8_mayHave_61 (by decide) ?_
        exact h
      · have h := h.2 c
        refine ex_aload_n hΦ dX8_mayHave_29 rfl o1.1 ?_
        refine ex_iload_n hΦ dX8_mayHave_30 rfl ?_
        refine ex_iload_n hΦ dX8_mayHave_31 rfl ?_
        refine ex_aload_n hΦ dX8_mayHave_32 rfl o1.1 ?_
        refine ex_getf hΦ fl_X8_67 o1 dX8_mayHave_33 ?_
        refine ex_iload hΦ dX8_mayHave_36 rfl ?_
        obtain ⟨o12, h⟩ := h
        refine ex_iald' hΦ o12 dX8_mayHave_38 ?_
        refine ex_callVi [(0, x1), (0, x2), (0, (μ (μ x0 35) x4))] [(0, (μ (μ x0 35) x4)), (0, x2), (0, x1), (2, x0)] hΦ lkV_X8_330 ⟨by decide, by decide⟩ (Nat.le_of_ble_eq_true rfl) rfl (by decide) 8 (by decide) rfl o1 dX8_mayHave_39 rfl h (fun r13 μ13 h => ?_)
        refine ex_aload_n hΦ dX8_mayHave_42 rfl o1.1 ?_
        refine ex_getf hΦ fl_X8_70 o1 dX8_mayHave_43 ?_
        refine ex_iload hΦ dX8_mayHave_46 rfl ?_
        obtain ⟨o14, h⟩ := h
        refine ex_iald' hΦ o14 dX8_mayHave_48 ?_
        obtain ⟨o15, h⟩ := h
        obtain ⟨o16, h⟩ := h
        refine ex_icmp_ne 56 hΦ dX8_mayHave_49 (by decide) o15 o16 (fun c => ?_) (fun c => ?_)
        · have h := h.1 c
          refine ex_iconst hΦ dX8_mayHave_56 ?_
          refine ex_istore_n (L' := [some (2, x0), some (0, x1), some (0, x2), some (0, 0), some (0, x4)]) hΦ dX8_mayHave_57 (by decide) rfl ?_
          refine ex_iinc (L' := [some (2, x0), some (0, x1), some (0, x2), some (0, 0), some (0, (x4 + 1))]) hΦ dX8_mayHave_58 rfl (by decide) rfl ?_
          refine ex_goto 5 hΦ dX8_mayHave_61 (by decide) ?_
          exact h
        · have h := h.2 c
          refine ex_iconst hΦ dX8_mayHave_52 ?_
          refine ex_goto 57 hΦ dX8_mayHave_53 (by decide) ?_
          refine ex_istore_n (L' := [some (2, x0), some (0, x1), some (0, x2), some (0, 1), some (0, x4)]) hΦ dX8_mayHave_57 (by decide) rfl ?_
          refine ex_iinc (L' := [some (2, x0), some (0, x1), some (0, x2), some (0, 1), some (0, (x4 + 1))]) hΦ dX8_mayHave_58 rfl (by decide) rfl ?_
          refine ex_goto 5 hΦ dX8_mayHave_61 (by decide) ?_
          exact h
theorem eX8_mayHave {G : Gm} {S : List Sh} {μ : Mem} {Q : Int → Mem → Prop} {x0 x1 x2 : Int} (h : ∀ Φ : Fr, St G Φ cX8_mayHave RX8 5 3 71 0 0 → Rt G Φ (Pi S Q) 0 0 (some .boolean) → Ex G Φ 5 0 [some (2, x0), some (0, x1), some (0, x2), none, none] [] S μ 0 0) : Ci G mX8_mayHave [(2, x0), (0, x1), (0, x2)] S μ Q :=
  call_of' (plainFor_of_name (by decide +kernel)) [some (2, x0), some (0, x1), some (0, x2), none, none] rfl (Nat.le_of_ble_eq_true rfl) (fun Φ hΦ hR => h Φ hΦ hR)
theorem bX8_mayHave_0 {G : Gm} {Φ : Fr} {S : List Sh} {μ : Mem} {Q : Int → Mem → Prop} (hΦ : St G Φ cX8_mayHave RX8 5 3 71 0 0) (hR : Rt G Φ (Pi S Q) 0 0 (some .boolean)) {x0 x1 x2 : Int} (h : Ex G Φ 5 5 [some (2, x0), some (0, x1), some (0, x2), some (0, 1), some (0, 0)] [] S μ 0 0) : Ex G Φ 5 0 [some (2, x0), some (0, x1), some (0, x2), none, none] [] S μ 0 0 := by
  refine ex_iconst hΦ dX8_mayHave_0 ?_
  refine ex_istore_n (L' := [some (2, x0), some (0, x1), some (0, x2), some (0, 1), none]) hΦ dX8_mayHave_1 (by decide) rfl ?_
  refine ex_iconst hΦ dX8_mayHave_2 ?_
  refine ex_istore (L' := [some (2, x0), some (0, x1), some (0, x2), some (0, 1), some (0, 0)]) hΦ dX8_mayHave_3 (by decide) rfl ?_
  exact h
theorem bX8_teeth_20 {G : Gm} {Φ : Fr} {S : List Sh} {μ : Mem} {Q : Int → Mem → Prop} (hΦ : St G Φ cX8_teeth RX8 5 6 147 0 0) (hR : Rt G Φ (Pi S Q) 0 0 (some .int)) {x0 x1 x2 x3 x4 : Int} (h : R32 x4 ∧ ((31 ≤ x4 → R32 x2 ∧ ((x2 ≠ (-1) → Q (-1) μ) ∧ (x2 = (-1) → Q x3 μ))) ∧ (¬ (31 ≤ x4) → So S x0 (.inl 8) ∧ (Ci G mX8_mayHave [(2, x0), (0, x1), (0, x4)] S μ (fun r4 μ4 => R32 r4 ∧ ((r4 = 0 → Ex G Φ 5 20 [some (2, x0), some (0, x1), some (0, x2), some (0, x3), some (0, (x4 + 1))] [] S μ4 0 0) ∧ (¬ (r4 = 0) → R32 x3 ∧ (R32 x2 ∧ ((x3 ≠ x2 → Ex G Φ 5 20 [some (2, x0), some (0, x1), some (0, x2), some (0, (x3 + 1)), some (0, (x4 + 1))] [] S μ4 0 0) ∧ (x3 = x2 → Q x4 μ4)))))))))) : Ex G Φ 5 20 [some (2, x0), some (0, x1), some (0, x2), some (0, x3), some (0, x4)] [] S μ 0 0 := by
  refine ex_iload hΦ dX8_teeth_20 rfl ?_
  refine ex_bipush hΦ dX8_teeth_22 (by decide) ?_
  obtain ⟨o1, h⟩ := h
  refine ex_icmp_ge 54 hΦ dX8_teeth_24 (by decide) o1 ⟨by decide, by decide⟩ (fun c => ?_) (fun c => ?_)
  · have h := h.1 c
    refine ex_iload_n hΦ dX8_teeth_54 rfl ?_
    refine ex_iconst hΦ dX8_teeth_55 ?_
    obtain ⟨o2, h⟩ := h
    refine ex_icmp_ne 63 hΦ dX8_teeth_56 (by decide) o2 ⟨by decide, by decide⟩ (fun c => ?_) (fun c => ?_)
    · have h := h.1 c
      refine ex_iconst hΦ dX8_teeth_63 ?_
      exact ex_returni hΦ hR dX8_teeth_64 h
    · have h := h.2 c
      refine ex_iload_n hΦ dX8_teeth_59 rfl ?_
      refine ex_goto 64 hΦ dX8_teeth_60 (by decide) ?_
      exact ex_returni hΦ hR dX8_teeth_64 h
  · have h := h.2 c
    obtain ⟨o3, h⟩ := h
    refine ex_aload_n hΦ dX8_teeth_27 rfl o3.1 ?_
    refine ex_iload_n hΦ dX8_teeth_28 rfl ?_
    refine ex_iload hΦ dX8_teeth_29 rfl ?_
    refine ex_callVi [(0, x1), (0, x4)] [(0, x4), (0, x1), (2, x0)] hΦ lkV_X8_334 ⟨by decide, by decide⟩ (Nat.le_of_ble_eq_true rfl) rfl (by decide) 8 (by decide) rfl o3 dX8_teeth_31 rfl h (fun r4 μ4 h => ?_)
    obtain ⟨o5, h⟩ := h
    refine ex_if_eq 48 hΦ dX8_teeth_34 (by decide) o5 (fun c => ?_) (fun c => ?_)
    · have h := h.1 c
      refine ex_iinc (L' := [some (2, x0), some (0, x1), some (0, x2), some (0, x3), some (0, (x4 + 1))]) hΦ dX8_teeth_48 rfl (by decide) rfl ?_
      refine ex_goto 20 hΦ dX8_teeth_51 (by decide) ?_
      exact h
    · have h := h.2 c
      refine ex_iload_n hΦ dX8_teeth_37 rfl ?_
      refine ex_iload_n hΦ dX8_teeth_38 rfl ?_
      obtain ⟨o6, h⟩ := h
      obtain ⟨o7, h⟩ := h
      refine ex_icmp_ne 45 hΦ dX8_teeth_39 (by decide) o6 o7 (fun c => ?_) (fun c => ?_)
      · have h := h.1 c
        refine ex_iinc (L' := [some (2, x0), some (0, x1), some (0, x2), some (0, (x3 + 1)), some (0, x4)]) hΦ dX8_teeth_45 rfl (by decide) rfl ?_
        refine ex_iinc (L' := [some (2, x0), some (0, x1), some (0, x2), some (0, (x3 + 1)), some (0, (x4 + 1))]) hΦ dX8_teeth_48 rfl (by decide) rfl ?_
        refine ex_goto 20 hΦ dX8_teeth_51 (by decide) ?_
        exact h
      · have h := h.2 c
        refine ex_iload hΦ dX8_teeth_42 rfl ?_
        exact ex_returni hΦ hR dX8_teeth_44 h
theorem eX8_teeth {G : Gm} {S : List Sh} {μ : Mem} {Q : Int → Mem → Prop} {x0 x1 x2 : Int} (h : ∀ Φ : Fr, St G Φ cX8_teeth RX8 5 6 147 0 0 → Rt G Φ (Pi S Q) 0 0 (some .int) → Ex G Φ 5 0 [some (2, x0), some (0, x1), some (0, x2), none, none] [] S μ 0 0) : Ci G mX8_teeth [(2, x0), (0, x1), (0, x2)] S μ Q :=
  call_of' (plainFor_of_name (by decide +kernel)) [some (2, x0), some (0, x1), some (0, x2), none, none] rfl (Nat.le_of_ble_eq_true rfl) (fun Φ hΦ hR => h Φ hΦ hR)
theorem bX8_teeth_0 {G : Gm} {Φ : Fr} {S : List Sh} {μ : Mem} {Q : Int → Mem → Prop} (hΦ : St G Φ cX8_teeth RX8 5 6 147 0 0) (hR : Rt G Φ (Pi S Q) 0 0 (some .int)) {x0 x1 x2 : Int} (h : So S x0 (.inl 8) ∧ (Ci G mX8_isWheel [(2, x0), (0, x1)] S μ (fun r2 μ2 => R32 r2 ∧ ((r2 ≠ 0 → Cv G mX8_ratesNow [(2, x0)] S μ2 (fun μ4 => Ex G Φ 5 20 [some (2, x0), some (0, x1), some (0, x2), some (0, 0), some (0, 3)] [] S μ4 0 0)) ∧ (r2 = 0 → Q (-1000000001) μ2))))) : Ex G Φ 5 0 [some (2, x0), some (0, x1), some (0, x2), none, none] [] S μ 0 0 := by
  obtain ⟨o1, h⟩ := h
  refine ex_aload_n hΦ dX8_teeth_0 rfl o1.1 ?_
  refine ex_iload_n hΦ dX8_teeth_1 rfl ?_
  refine ex_callVi [(0, x1)] [(0, x1), (2, x0)] hΦ lkV_X8_240 ⟨by decide, by decide⟩ (Nat.le_of_ble_eq_true rfl) rfl (by decide) 8 (by decide) rfl o1 dX8_teeth_2 rfl h (fun r2 μ2 h => ?_)
  obtain ⟨o3, h⟩ := h
  refine ex_if_ne 11 hΦ dX8_teeth_5 (by decide) o3 (fun c => ?_) (fun c => ?_)
  · have h := h.1 c
    refine ex_aload_n hΦ dX8_teeth_11 rfl o1.1 ?_
    refine ex_callVv [] [(2, x0)] hΦ lkV_X8_231 ⟨by decide, by decide⟩ (Nat.le_of_ble_eq_true rfl) rfl (by decide) 8 (by decide) rfl o1 dX8_teeth_12 rfl h (fun μ4 h => ?_)
    refine ex_iconst hΦ dX8_teeth_15 ?_
    refine ex_istore_n (L' := [some (2, x0), some (0, x1), some (0, x2), some (0, 0), none]) hΦ dX8_teeth_16 (by decide) rfl ?_
    refine ex_iconst hΦ dX8_teeth_17 ?_
    refine ex_istore (L' := [some (2, x0), some (0, x1), some (0, x2), some (0, 0), some (0, 3)]) hΦ dX8_teeth_18 (by decide) rfl ?_
    exact h
  · have h := h.2 c
    refine ex_ldc hΦ dX8_teeth_8 qw1098 ?_
    exact ex_returni hΦ hR dX8_teeth_10 h
theorem bX8_look_23 {G : Gm} {Φ : Fr} {S : List Sh} {μ : Mem} {Q : Int → Mem → Prop} (hΦ : St G Φ cX8_look RX8 8 7 171 0 0) (hR : Rt G Φ (Pi S Q) 0 0 (some .int)) {x0 x1 x2 x3 x4 : Int} (h : R32 x4 ∧ ((31 ≤ x4 → Q x2 μ) ∧ (¬ (31 ≤ x4) → Ex G Φ 8 36 [some (2, x0), some (0, x1), some (0, x2), some (0, x3), some (0, x4), some (0, 0), some (0, 0), none] [] S μ 0 0))) : Ex G Φ 8 23 [some (2, x0), some (0, x1), some (0, x2), some (0, x3), some (0, x4), none, none, none] [] S μ 0 0 := by
  refine ex_iload hΦ dX8_look_23 rfl ?_
  refine ex_bipush hΦ dX8_look_25 (by decide) ?_
  obtain ⟨o1, h⟩ := h
  refine ex_icmp_ge 149 hΦ dX8_look_27 (by decide) o1 ⟨by decide, by decide⟩ (fun c => ?_) (fun c => ?_)
  · have h := h.1 c
    refine ex_iload_n hΦ dX8_look_149 rfl ?_
    exact ex_returni hΦ hR dX8_look_150 h
  · have h := h.2 c
    refine ex_iconst hΦ dX8_look_30 ?_
    refine ex_istore (L' := [some (2, x0), some (0, x1), some (0, x2), some (0, x3), some (0, x4), some (0, 0), none, none]) hΦ dX8_look_31 (by decide) rfl ?_
    refine ex_iconst hΦ dX8_look_33 ?_
    refine ex_istore (L' := [some (2, x0), some (0, x1), some (0, x2), some (0, x3), some (0, x4), some (0, 0), some (0, 0), none]) hΦ dX8_look_34 (by decide) rfl ?_
    exact h
theorem bX8_look_36 {G : Gm} {Φ : Fr} {S : List Sh} {μ : Mem} {Q : Int → Mem → Prop} (hΦ : St G Φ cX8_look RX8 8 7 171 0 0) (hR : Rt G Φ (Pi S Q) 0 0 (some .int)) {x0 x1 x2 x3 x4 x5 x6 : Int} (h : R32 x6 ∧ ((30 ≤ x6 → Ex G Φ 8 60 [some (2, x0), some (0, x1), some (0, x2), some (0, x3), some (0, x4), some (0, x5), some (0, 3), none] [] S μ 0 0) ∧ (¬ (30 ≤ x6) → So S x0 (.inl 8) ∧ (Ai S (μ x0 38) 0 x6 ∧ (∀ m4 : Mem, m4 = mu μ (μ x0 38) x6 0 → (Ex G Φ 8 36 [some (2, x0), some (0, x1), some (0, x2), some (0, x3), some (0, x4), some (0, x5), some (0, (x6 + 1)), none] [] S m4 0 0)))))) : Ex G Φ 8 36 [some (2, x0), some (0, x1), some (0, x2), some (0, x3), some (0, x4), some (0, x5), some (0, x6), none] [] S μ 0 0 := by
  refine ex_iload hΦ dX8_look_36 rfl ?_
  refine ex_bipush hΦ dX8_look_38 (by decide) ?_
  obtain ⟨o1, h⟩ := h
  refine ex_icmp_ge 57 hΦ dX8_look_40 (by decide) o1 ⟨by decide, by decide⟩ (fun c => ?_) (fun c => ?_)
  · have h := h.1 c
    refine ex_iconst hΦ dX8_look_57 ?_
    refine ex_istore (L' := [some (2, x0), some (0, x1), some (0, x2), some (0, x3), some (0, x4), some (0, x5), some (0, 3), none]) hΦ dX8_look_58 (by decide) rfl ?_
    exact h
  · have h := h.2 c
    obtain ⟨o2, h⟩ := h
    refine ex_aload_n hΦ dX8_look_43 rfl o2.1 ?_
    refine ex_getf hΦ fl_X8_73 o2 dX8_look_44 ?_
    refine ex_iload hΦ dX8_look_47 rfl ?_
    refine ex_iconst hΦ dX8_look_49 ?_
    obtain ⟨o3, h⟩ := h
    obtain ⟨m4, hm4⟩ : ∃ m : Mem, m = mu μ (μ x0 38) x6 0 := ⟨_, rfl⟩
    have h := h m4 hm4
    refine ex_iast'' hΦ o3 dX8_look_50 hm4 ?_
    refine ex_iinc (L' := [some (2, x0), some (0, x1), some (0, x2), some (0, x3), some (0, x4), some (0, x5), some (0, (x6 + 1)), none]) hΦ dX8_look_51 rfl (by decide) rfl ?_
    refine ex_goto 36 hΦ dX8_look_54 (by decide) ?_
    exact h
theorem bX8_look_60 {G : Gm} {Φ : Fr} {S : List Sh} {μ : Mem} {Q : Int → Mem → Prop} (hΦ : St G Φ cX8_look RX8 8 7 171 0 0) (hR : Rt G Φ (Pi S Q) 0 0 (some .int)) {x0 x1 x2 x3 x4 x5 x6 : Int} (h : R32 x6 ∧ ((31 ≤ x6 → R32 x5 ∧ (R32 x3 ∧ ((x3 ≤ x5 → Ex G Φ 8 23 [some (2, x0), some (0, x1), some (0, x2), some (0, x3), some (0, (x4 + 1)), none, none, none] [] S μ 0 0) ∧ (¬ (x3 ≤ x5) → Ex G Φ 8 23 [some (2, x0), some (0, x1), some (0, x4), some (0, x5), some (0, (x4 + 1)), none, none, none] [] S μ 0 0)))) ∧ (¬ (31 ≤ x6) → So S x0 (.inl 8) ∧ (Ci G mX8_mayHave [(2, x0), (0, x1), (0, x6)] S μ (fun r5 μ5 => R32 r5 ∧ ((r5 = 0 → Ex G Φ 8 60 [some (2, x0), some (0, x1), some (0, x2), some (0, x3), some (0, x4), some (0, x5), some (0, (x6 + 1)), none] [] S μ5 0 0) ∧ (¬ (r5 = 0) → Ci G mX8_placeBy [(2, x0), (0, x1), (0, x6), (0, x4)] S μ5 (fun r7 μ7 => Ai S (μ7 x0 38) 0 r7 ∧ (∀ m9 : Mem, m9 = mu μ7 (μ7 x0 38) r7 ((μ7 (μ7 x0 38) r7) + 1) → (Ai S (m9 x0 38) 0 r7 ∧ (R32 (m9 (m9 x0 38) r7) ∧ (R32 x5 ∧ (((m9 (m9 x0 38) r7) ≤ x5 → Ex G Φ 8 60 [some (2, x0), some (0, x1), some (0, x2), some (0, x3), some (0, x4), some (0, x5), some (0, (x6 + 1)), none] [] S m9 0 0) ∧ (¬ ((m9 (m9 x0 38) r7) ≤ x5) → Ex G Φ 8 60 [some (2, x0), some (0, x1), some (0, x2), some (0, x3), some (0, x4), some (0, (m9 (m9 x0 38) r7)), some (0, (x6 + 1)), none] [] S m9 0 0)))))))))))))) : Ex G Φ 8 60 [some (2, x0), some (0, x1), some (0, x2), some (0, x3), some (0, x4), some (0, x5), some (0, x6), none] [] S μ 0 0 := by
  refine ex_iload hΦ dX8_look_60 rfl ?_
  refine ex_bipush hΦ dX8_look_62 (by decide) ?_
  obtain ⟨o1, h⟩ := h
  refine ex_icmp_ge 131 hΦ dX8_look_64 (by decide) o1 ⟨by decide, by decide⟩ (fun c => ?_) (fun c => ?_)
  · have h := h.1 c
    refine ex_iload hΦ dX8_look_131 rfl ?_
    refine ex_iload_n hΦ dX8_look_133 rfl ?_
    obtain ⟨o2, h⟩ := h
    obtain ⟨o3, h⟩ := h
    refine ex_icmp_ge 143 hΦ dX8_look_134 (by decide) o2 o3 (fun c => ?_) (fun c => ?_)
    · have h := h.1 c
      refine ex_iinc (L' := [some (2, x0), some (0, x1), some (0, x2), some (0, x3), some (0, (x4 + 1)), some (0, x5), some (0, x6), none]) hΦ dX8_look_143 rfl (by decide) rfl ?_
      refine ex_goto 23 hΦ dX8_look_146 (by decide) ?_
      refine ex_forget (L' := [some (2, x0), some (0, x1), some (0, x2), some (0, x3), some (0, (x4 + 1)), none, none, none]) [5, 6] rfl ?_
      exact h
    · have h := h.2 c
      refine ex_iload hΦ dX8_look_137 rfl ?_
      refine ex_istore_n (L' := [some (2, x0), some (0, x1), some (0, x4), some (0, x3), some (0, x4), some (0, x5), some (0, x6), none]) hΦ dX8_look_139 (by decide) rfl ?_
      refine ex_iload hΦ dX8_look_140 rfl ?_
      refine ex_istore_n (L' := [some (2, x0), some (0, x1), some (0, x4), some (0, x5), some (0, x4), some (0, x5), some (0, x6), none]) hΦ dX8_look_142 (by decide) rfl ?_
      refine ex_iinc (L' := [some (2, x0), some (0, x1), some (0, x4), some (0, x5), some (0, (x4 + 1)), some (0, x5), some (0, x6), none]) hΦ dX8_look_143 rfl (by decide) rfl ?_
      refine ex_goto 23 hΦ dX8_look_146 (by decide) ?_
      refine ex_forget (L' := [some (2, x0), some (0, x1), some (0, x4), some (0, x5), some (0, (x4 + 1)), none, none, none]) [5, 6] rfl ?_
      exact h
  · have h := h.2 c
    obtain ⟨o4, h⟩ := h
    refine ex_aload_n hΦ dX8_look_67 rfl o4.1 ?_
    refine ex_iload_n hΦ dX8_look_68 rfl ?_
    refine ex_iload hΦ dX8_look_69 rfl ?_
    refine ex_callVi [(0, x1), (0, x6)] [(0, x6), (0, x1), (2, x0)] hΦ lkV_X8_334 ⟨by decide, by decide⟩ (Nat.le_of_ble_eq_true rfl) rfl (by decide) 8 (by decide) rfl o4 dX8_look_71 rfl h (fun r5 μ5 h => ?_)
    obtain ⟨o6, h⟩ := h
    refine ex_if_eq 125 hΦ dX8_look_74 (by decide) o6 (fun c => ?_) (fun c => ?_)
    · have h := h.1 c
      refine ex_iinc (L' := [some (2, x0), some (0, x1), some (0, x2), some (0, x3), some (0, x4), some (0, x5), some (0, (x6 + 1)), none]) hΦ dX8_look_125 rfl (by decide) rfl ?_
      refine ex_goto 60 hΦ dX8_look_128 (by decide) ?_
      exact h
    · have h := h.2 c
      refine ex_aload_n hΦ dX8_look_77 rfl o4.1 ?_
      refine ex_iload_n hΦ dX8_look_78 rfl ?_
      refine ex_iload hΦ dX8_look_79 rfl ?_
      refine ex_iload hΦ dX8_look_81 rfl ?_
      refine ex_callVi [(0, x1), (0, x6), (0, x4)] [(0, x4), (0, x6), (0, x1), (2, x0)] hΦ lkV_X8_330 ⟨by decide, by decide⟩ (Nat.le_of_ble_eq_true rfl) rfl (by decide) 8 (by decide) rfl o4 dX8_look_83 rfl h (fun r7 μ7 h => ?_)
      refine ex_istore (L' := [some (2, x0), some (0, x1), some (0, x2), some (0, x3), some (0, x4), some (0, x5), some (0, x6), some (0, r7)]) hΦ dX8_look_86 (by decide) rfl ?_
      refine ex_aload_n hΦ dX8_look_88 rfl o4.1 ?_
      refine ex_getf hΦ fl_X8_73 o4 dX8_look_89 ?_
      refine ex_iload hΦ dX8_look_92 rfl ?_
      refine ex_dup2 hΦ dX8_look_94 (Nat.ne_of_beq_eq_false rfl) (Nat.ne_of_beq_eq_false rfl) ?_
      obtain ⟨o8, h⟩ := h
      refine ex_iald' hΦ o8 dX8_look_95 ?_
      refine ex_iconst hΦ dX8_look_96 ?_
      refine ex_iadd hΦ dX8_look_97 ?_
      obtain ⟨m9, hm9⟩ : ∃ m : Mem, m = mu μ7 (μ7 x0 38) r7 ((μ7 (μ7 x0 38) r7) + 1) := ⟨_, rfl⟩
      have h := h m9 hm9
      refine ex_iast'' hΦ o8 dX8_look_98 hm9 ?_
      refine ex_aload_n hΦ dX8_look_99 rfl o4.1 ?_
      refine ex_getf hΦ fl_X8_73 o4 dX8_look_100 ?_
      refine ex_iload hΦ dX8_look_103 rfl ?_
      obtain ⟨o10, h⟩ := h
      refine ex_iald' hΦ o10 dX8_look_105 ?_
      refine ex_iload hΦ dX8_look_106 rfl ?_
      obtain ⟨o11, h⟩ := h
      obtain ⟨o12, h⟩ := h
      refine ex_icmp_le 121 hΦ dX8_look_108 (by decide) o11 o12 (fun c => ?_) (fun c => ?_)
      · have h := h.1 c
        refine ex_iload hΦ dX8_look_121 rfl ?_
        refine ex_istore (L' := [some (2, x0), some (0, x1), some (0, x2), some (0, x3), some (0, x4), some (0, x5), some (0, x6), some (0, r7)]) hΦ dX8_look_123 (by decide) rfl ?_
        refine ex_iinc (L' := [some (2, x0), some (0, x1), some (0, x2), some (0, x3), some (0, x4), some (0, x5), some (0, (x6 + 1)), some (0, r7)]) hΦ dX8_look_125 rfl (by decide) rfl ?_
        refine ex_goto 60 hΦ dX8_look_128 (by decide) ?_
        refine ex_forget (L' := [some (2, x0), some (0, x1), some (0, x2), some (0, x3), some (0, x4), some (0, x5), some (0, (x6 + 1)), none]) [7] rfl ?_
        exact h
      · have h := h.2 c
        refine ex_aload_n hΦ dX8_look_111 rfl o4.1 ?_
        refine ex_getf hΦ fl_X8_73 o4 dX8_look_112 ?_
        refine ex_iload hΦ dX8_look_115 rfl ?_
        refine ex_iald' hΦ o10 dX8_look_117 ?_
        refine ex_goto 123 hΦ dX8_look_118 (by decide) ?_
        refine ex_istore (L' := [some (2, x0), some (0, x1), some (0, x2), some (0, x3), some (0, x4), some (0, (m9 (m9 x0 38) r7)), some (0, x6), some (0, r7)]) hΦ dX8_look_123 (by decide) rfl ?_
        refine ex_iinc (L' := [some (2, x0), some (0, x1), some (0, x2), some (0, x3), some (0, x4), some (0, (m9 (m9 x0 38) r7)), some (0, (x6 + 1)), some (0, r7)]) hΦ dX8_look_125 rfl (by decide) rfl ?_
        refine ex_goto 60 hΦ dX8_look_128 (by decide) ?_
        refine ex_forget (L' := [some (2, x0), some (0, x1), some (0, x2), some (0, x3), some (0, x4), some (0, (m9 (m9 x0 38) r7)), some (0, (x6 + 1)), none]) [7] rfl ?_
        exact h
theorem eX8_look {G : Gm} {S : List Sh} {μ : Mem} {Q : Int → Mem → Prop} {x0 x1 : Int} (h : ∀ Φ : Fr, St G Φ cX8_look RX8 8 7 171 0 0 → Rt G Φ (Pi S Q) 0 0 (some .int) → Ex G Φ 8 0 [some (2, x0), some (0, x1), none, none, none, none, none, none] [] S μ 0 0) : Ci G mX8_look [(2, x0), (0, x1)] S μ Q :=
  call_of' (plainFor_of_name (by decide +kernel)) [some (2, x0), some (0, x1), none, none, none, none, none, none] rfl (Nat.le_of_ble_eq_true rfl) (fun Φ hΦ hR => h Φ hΦ hR)
theorem bX8_look_0 {G : Gm} {Φ : Fr} {S : List Sh} {μ : Mem} {Q : Int → Mem → Prop} (hΦ : St G Φ cX8_look RX8 8 7 171 0 0) (hR : Rt G Φ (Pi S Q) 0 0 (some .int)) {x0 x1 : Int} (h : So S x0 (.inl 8) ∧ (Ci G mX8_isWheel [(2, x0), (0, x1)] S μ (fun r2 μ2 => R32 r2 ∧ ((r2 ≠ 0 → Ci G mX8_teeth [(2, x0), (0, x1), (0, (-1))] S μ2 (fun r4 μ4 => Ex G Φ 8 23 [some (2, x0), some (0, x1), some (0, (-1)), some (0, r4), some (0, 1), none, none, none] [] S μ4 0 0)) ∧ (r2 = 0 → Q (-1000000001) μ2))))) : Ex G Φ 8 0 [some (2, x0), some (0, x1), none, none, none, none, none, none] [] S μ 0 0 := by
  obtain ⟨o1, h⟩ := h
  refine ex_aload_n hΦ dX8_look_0 rfl o1.1 ?_
  refine ex_iload_n hΦ dX8_look_1 rfl ?_
  refine ex_callVi [(0, x1)] [(0, x1), (2, x0)] hΦ lkV_X8_240 ⟨by decide, by decide⟩ (Nat.le_of_ble_eq_true rfl) rfl (by decide) 8 (by decide) rfl o1 dX8_look_2 rfl h (fun r2 μ2 h => ?_)
  obtain ⟨o3, h⟩ := h
  refine ex_if_ne 11 hΦ dX8_look_5 (by decide) o3 (fun c => ?_) (fun c => ?_)
  · have h := h.1 c
    refine ex_iconst hΦ dX8_look_11 ?_
    refine ex_istore_n (L' := [some (2, x0), some (0, x1), some (0, (-1)), none, none, none, none, none]) hΦ dX8_look_12 (by decide) rfl ?_
    refine ex_aload_n hΦ dX8_look_13 rfl o1.1 ?_
    refine ex_iload_n hΦ dX8_look_14 rfl ?_
    refine ex_iconst hΦ dX8_look_15 ?_
    refine ex_callVi [(0, x1), (0, (-1))] [(0, (-1)), (0, x1), (2, x0)] hΦ lkV_X8_337 ⟨by decide, by decide⟩ (Nat.le_of_ble_eq_true rfl) rfl (by decide) 8 (by decide) rfl o1 dX8_look_16 rfl h (fun r4 μ4 h => ?_)
    refine ex_istore_n (L' := [some (2, x0), some (0, x1), some (0, (-1)), some (0, r4), none, none, none, none]) hΦ dX8_look_19 (by decide) rfl ?_
    refine ex_iconst hΦ dX8_look_20 ?_
    refine ex_istore (L' := [some (2, x0), some (0, x1), some (0, (-1)), some (0, r4), some (0, 1), none, none, none]) hΦ dX8_look_21 (by decide) rfl ?_
    exact h
  · have h := h.2 c
    refine ex_ldc hΦ dX8_look_8 qw1098 ?_
    exact ex_returni hΦ hR dX8_look_10 h
theorem eX8_write {G : Gm} {S : List Sh} {μ : Mem} {Q : Int → Mem → Prop} {x0 x1 x2 x3 : Int} (h : ∀ Φ : Fr, St G Φ cX8_write RX8 4 2 46 0 0 → Rt G Φ (Pi S Q) 0 0 (some .int) → Ex G Φ 4 0 [some (2, x0), some (0, x1), some (0, x2), some (0, x3)] [] S μ 0 0) : Ci G mX8_write [(2, x0), (0, x1), (0, x2), (0, x3)] S μ Q :=
  call_of' (plainFor_of_name (by decide +kernel)) [some (2, x0), some (0, x1), some (0, x2), some (0, x3)] rfl (Nat.le_of_ble_eq_true rfl) (fun Φ hΦ hR => h Φ hΦ hR)
theorem bX8_write_0 {G : Gm} {Φ : Fr} {S : List Sh} {μ : Mem} {Q : Int → Mem → Prop} (hΦ : St G Φ cX8_write RX8 4 2 46 0 0) (hR : Rt G Φ (Pi S Q) 0 0 (some .int)) {x0 x1 x2 x3 : Int} (h : So S x0 (.inl 8) ∧ (Ci G mX8_isWheel [(2, x0), (0, x1)] S μ (fun r2 μ2 => R32 r2 ∧ ((r2 ≠ 0 → R32 x2 ∧ (Ci G mX8_in [(1, x2), (1, 0), (1, 99999)] S μ2 (fun r5 μ5 => R32 r5 ∧ ((r5 = 0 → Q (-1000000002) μ5) ∧ (¬ (r5 = 0) → R32 x3 ∧ (Ci G mX8_in [(1, x3), (1, 0), (1, 29)] S μ5 (fun r8 μ8 => R32 r8 ∧ ((r8 ≠ 0 → R32 (μ8 x0 42) ∧ (((μ8 x0 42) ≠ 15 → Ai S (μ8 x0 39) 0 (μ8 x0 42) ∧ (∀ m12 : Mem, m12 = mu μ8 (μ8 x0 39) (μ8 x0 42) x1 → (Ai S (m12 x0 40) 0 (m12 x0 42) ∧ (∀ m14 : Mem, m14 = mu m12 (m12 x0 40) (m12 x0 42) x2 → (Ai S (m14 x0 41) 0 (m14 x0 42) ∧ (∀ m16 : Mem, m16 = mu m14 (m14 x0 41) (m14 x0 42) x3 → (∀ m17 : Mem, m17 = mu m16 x0 42 ((m16 x0 42) + 1) → (Q (m17 x0 42) m17)))))))) ∧ ((μ8 x0 42) = 15 → Q (-1000000004) μ8))) ∧ (r8 = 0 → Q (-1000000002) μ8))))))))) ∧ (r2 = 0 → Q (-1000000001) μ2))))) : Ex G Φ 4 0 [some (2, x0), some (0, x1), some (0, x2), some (0, x3)] [] S μ 0 0 := by
  obtain ⟨o1, h⟩ := h
  refine ex_aload_n hΦ dX8_write_0 rfl o1.1 ?_
  refine ex_iload_n hΦ dX8_write_1 rfl ?_
  refine ex_callVi [(0, x1)] [(0, x1), (2, x0)] hΦ lkV_X8_240 ⟨by decide, by decide⟩ (Nat.le_of_ble_eq_true rfl) rfl (by decide) 8 (by decide) rfl o1 dX8_write_2 rfl h (fun r2 μ2 h => ?_)
  obtain ⟨o3, h⟩ := h
  refine ex_if_ne 11 hΦ dX8_write_5 (by decide) o3 (fun c => ?_) (fun c => ?_)
  · have h := h.1 c
    refine ex_iload_n hΦ dX8_write_11 rfl ?_
    obtain ⟨o4, h⟩ := h
    refine ex_i2l hΦ dX8_write_12 o4 ?_
    refine ex_lconst (x := 0) hΦ dX8_write_13 (by decide) ?_
    refine ex_ldc2 hΦ dX8_write_14 qw1119 ?_
    refine ex_callSi [(1, x2), (1, 0), (1, 99999)] [(1, 99999), (1, 0), (1, x2)] hΦ lkS_X8_91 ⟨by decide, by decide⟩ (Nat.le_of_ble_eq_true rfl) rfl (by decide) dX8_write_17 rfl h (fun r5 μ5 h => ?_)
    obtain ⟨o6, h⟩ := h
    refine ex_if_eq 35 hΦ dX8_write_20 (by decide) o6 (fun c => ?_) (fun c => ?_)
    · have h := h.1 c
      refine ex_ldc hΦ dX8_write_35 qw984 ?_
      exact ex_returni hΦ hR dX8_write_37 h
    · have h := h.2 c
      refine ex_iload_n hΦ dX8_write_23 rfl ?_
      obtain ⟨o7, h⟩ := h
      refine ex_i2l hΦ dX8_write_24 o7 ?_
      refine ex_lconst (x := 0) hΦ dX8_write_25 (by decide) ?_
      refine ex_ldc2 hΦ dX8_write_26 qw1192 ?_
      refine ex_callSi [(1, x3), (1, 0), (1, 29)] [(1, 29), (1, 0), (1, x3)] hΦ lkS_X8_91 ⟨by decide, by decide⟩ (Nat.le_of_ble_eq_true rfl) rfl (by decide) dX8_write_29 rfl h (fun r8 μ8 h => ?_)
      obtain ⟨o9, h⟩ := h
      refine ex_if_ne 38 hΦ dX8_write_32 (by decide) o9 (fun c => ?_) (fun c => ?_)
      · have h := h.1 c
        refine ex_aload_n hΦ dX8_write_38 rfl o1.1 ?_
        refine ex_getf hΦ fl_X8_171 o1 dX8_write_39 ?_
        refine ex_bipush hΦ dX8_write_42 (by decide) ?_
        obtain ⟨o10, h⟩ := h
        refine ex_icmp_ne 50 hΦ dX8_write_44 (by decide) o10 ⟨by decide, by decide⟩ (fun c => ?_) (fun c => ?_)
        · have h := h.1 c
          refine ex_aload_n hΦ dX8_write_50 rfl o1.1 ?_
          refine ex_getf hΦ fl_X8_76 o1 dX8_write_51 ?_
          refine ex_aload_n hΦ dX8_write_54 rfl o1.1 ?_
          refine ex_getf hΦ fl_X8_171 o1 dX8_write_55 ?_
          refine ex_iload_n hΦ dX8_write_58 rfl ?_
          obtain ⟨o11, h⟩ := h
          obtain ⟨m12, hm12⟩ : ∃ m : Mem, m = mu μ8 (μ8 x0 39) (μ8 x0 42) x1 := ⟨_, rfl⟩
          have h := h m12 hm12
          refine ex_iast'' hΦ o11 dX8_write_59 hm12 ?_
          refine ex_aload_n hΦ dX8_write_60 rfl o1.1 ?_
          refine ex_getf hΦ fl_X8_79 o1 dX8_write_61 ?_
          refine ex_aload_n hΦ dX8_write_64 rfl o1.1 ?_
          refine ex_getf hΦ fl_X8_171 o1 dX8_write_65 ?_
          refine ex_iload_n hΦ dX8_write_68 rfl ?_
          obtain ⟨o13, h⟩ := h
          obtain ⟨m14, hm14⟩ : ∃ m : Mem, m = mu m12 (m12 x0 40) (m12 x0 42) x2 := ⟨_, rfl⟩
          have h := h m14 hm14
          refine ex_iast'' hΦ o13 dX8_write_69 hm14 ?_
          refine ex_aload_n hΦ dX8_write_70 rfl o1.1 ?_
          refine ex_getf hΦ fl_X8_82 o1 dX8_write_71 ?_
          refine ex_aload_n hΦ dX8_write_74 rfl o1.1 ?_
          refine ex_getf hΦ fl_X8_171 o1 dX8_write_75 ?_
          refine ex_iload_n hΦ dX8_write_78 rfl ?_
          obtain ⟨o15, h⟩ := h
          obtain ⟨m16, hm16⟩ : ∃ m : Mem, m = mu m14 (m14 x0 41) (m14 x0 42) x3 := ⟨_, rfl⟩
          have h := h m16 hm16
          refine ex_iast'' hΦ o15 dX8_write_79 hm16 ?_
          refine ex_aload_n hΦ dX8_write_80 rfl o1.1 ?_
          refine ex_dup hΦ dX8_write_81 (Nat.ne_of_beq_eq_false rfl) ?_
          refine ex_getf hΦ fl_X8_171 o1 dX8_write_82 ?_
          refine ex_iconst hΦ dX8_write_85 ?_
          refine ex_iadd hΦ dX8_write_86 ?_
          obtain ⟨m17, hm17⟩ : ∃ m : Mem, m = mu m16 x0 42 ((m16 x0 42) + 1) := ⟨_, rfl⟩
          have h := h m17 hm17
          refine ex_putf' hΦ fl_X8_171 o1 rfl rfl dX8_write_87 hm17 ?_
          refine ex_aload_n hΦ dX8_write_90 rfl o1.1 ?_
          refine ex_getf hΦ fl_X8_171 o1 dX8_write_91 ?_
          exact ex_returni hΦ hR dX8_write_94 h
        · have h := h.2 c
          refine ex_ldc hΦ dX8_write_47 qw985 ?_
          exact ex_returni hΦ hR dX8_write_49 h
      · have h := h.2 c
        refine ex_ldc hΦ dX8_write_35 qw984 ?_
        exact ex_returni hΦ hR dX8_write_37 h
  · have h := h.2 c
    refine ex_ldc hΦ dX8_write_8 qw1098 ?_
    exact ex_returni hΦ hR dX8_write_10 h
theorem bX8_judge_6 {G : Gm} {Φ : Fr} {S : List Sh} {μ : Mem} {Q : Int → Mem → Prop} (hΦ : St G Φ cX8_judge RX8 2 6 147 0 0) (hR : Rt G Φ (Pi S Q) 0 0 (some .int)) {x0 x1 : Int} (h : So S x0 (.inl 8) ∧ (R32 x1 ∧ (R32 (μ x0 42) ∧ (((μ x0 42) ≤ x1 → Q (-1) μ) ∧ (¬ ((μ x0 42) ≤ x1) → Ai S (μ x0 39) 0 x1 ∧ (Ai S (μ x0 40) 0 x1 ∧ (R32 (μ (μ x0 40) x1) ∧ (Ci G mX8_placeIn [(2, x0), (0, (μ (μ x0 39) x1)), (1, (μ (μ x0 40) x1))] S μ (fun r7 μ7 => Ai S (μ7 x0 41) 0 x1 ∧ (R32 r7 ∧ (R32 (μ7 (μ7 x0 41) x1) ∧ ((r7 = (μ7 (μ7 x0 41) x1) → Ex G Φ 2 6 [some (2, x0), some (0, (x1 + 1))] [] S μ7 0 0) ∧ (¬ (r7 = (μ7 (μ7 x0 41) x1)) → Q x1 μ7))))))))))))) : Ex G Φ 2 6 [some (2, x0), some (0, x1)] [] S μ 0 0 := by
  refine ex_iload_n hΦ dX8_judge_6 rfl ?_
  obtain ⟨o1, h⟩ := h
  refine ex_aload_n hΦ dX8_judge_7 rfl o1.1 ?_
  refine ex_getf hΦ fl_X8_171 o1 dX8_judge_8 ?_
  obtain ⟨o2, h⟩ := h
  obtain ⟨o3, h⟩ := h
  refine ex_icmp_ge 48 hΦ dX8_judge_11 (by decide) o2 o3 (fun c => ?_) (fun c => ?_)
  · have h := h.1 c
    refine ex_iconst hΦ dX8_judge_48 ?_
    exact ex_returni hΦ hR dX8_judge_49 h
  · have h := h.2 c
    refine ex_aload_n hΦ dX8_judge_14 rfl o1.1 ?_
    refine ex_aload_n hΦ dX8_judge_15 rfl o1.1 ?_
    refine ex_getf hΦ fl_X8_76 o1 dX8_judge_16 ?_
    refine ex_iload_n hΦ dX8_judge_19 rfl ?_
    obtain ⟨o4, h⟩ := h
    refine ex_iald' hΦ o4 dX8_judge_20 ?_
    refine ex_aload_n hΦ dX8_judge_21 rfl o1.1 ?_
    refine ex_getf hΦ fl_X8_79 o1 dX8_judge_22 ?_
    refine ex_iload_n hΦ dX8_judge_25 rfl ?_
    obtain ⟨o5, h⟩ := h
    refine ex_iald' hΦ o5 dX8_judge_26 ?_
    obtain ⟨o6, h⟩ := h
    refine ex_i2l hΦ dX8_judge_27 o6 ?_
    refine ex_callVi [(0, (μ (μ x0 39) x1)), (1, (μ (μ x0 40) x1))] [(1, (μ (μ x0 40) x1)), (0, (μ (μ x0 39) x1)), (2, x0)] hΦ lkV_X8_227 ⟨by decide, by decide⟩ (Nat.le_of_ble_eq_true rfl) rfl (by decide) 8 (by decide) rfl o1 dX8_judge_28 rfl h (fun r7 μ7 h => ?_)
    refine ex_aload_n hΦ dX8_judge_31 rfl o1.1 ?_
    refine ex_getf hΦ fl_X8_82 o1 dX8_judge_32 ?_
    refine ex_iload_n hΦ dX8_judge_35 rfl ?_
    obtain ⟨o8, h⟩ := h
    refine ex_iald' hΦ o8 dX8_judge_36 ?_
    obtain ⟨o9, h⟩ := h
    obtain ⟨o10, h⟩ := h
    refine ex_icmp_eq 42 hΦ dX8_judge_37 (by decide) o9 o10 (fun c => ?_) (fun c => ?_)
    · have h := h.1 c
      refine ex_iinc (L' := [some (2, x0), some (0, (x1 + 1))]) hΦ dX8_judge_42 rfl (by decide) rfl ?_
      refine ex_goto 6 hΦ dX8_judge_45 (by decide) ?_
      exact h
    · have h := h.2 c
      refine ex_iload_n hΦ dX8_judge_40 rfl ?_
      exact ex_returni hΦ hR dX8_judge_41 h
theorem eX8_judge {G : Gm} {S : List Sh} {μ : Mem} {Q : Int → Mem → Prop} {x0 : Int} (h : ∀ Φ : Fr, St G Φ cX8_judge RX8 2 6 147 0 0 → Rt G Φ (Pi S Q) 0 0 (some .int) → Ex G Φ 2 0 [some (2, x0), none] [] S μ 0 0) : Ci G mX8_judge [(2, x0)] S μ Q :=
  call_of' (plainFor_of_name (by decide +kernel)) [some (2, x0), none] rfl (Nat.le_of_ble_eq_true rfl) (fun Φ hΦ hR => h Φ hΦ hR)
theorem bX8_judge_0 {G : Gm} {Φ : Fr} {S : List Sh} {μ : Mem} {Q : Int → Mem → Prop} (hΦ : St G Φ cX8_judge RX8 2 6 147 0 0) (hR : Rt G Φ (Pi S Q) 0 0 (some .int)) {x0 : Int} (h : So S x0 (.inl 8) ∧ Cv G mX8_ratesNow [(2, x0)] S μ (fun μ2 => Ex G Φ 2 6 [some (2, x0), some (0, 0)] [] S μ2 0 0)) : Ex G Φ 2 0 [some (2, x0), none] [] S μ 0 0 := by
  obtain ⟨o1, h⟩ := h
  refine ex_aload_n hΦ dX8_judge_0 rfl o1.1 ?_
  refine ex_callVv [] [(2, x0)] hΦ lkV_X8_231 ⟨by decide, by decide⟩ (Nat.le_of_ble_eq_true rfl) rfl (by decide) 8 (by decide) rfl o1 dX8_judge_1 rfl h (fun μ2 h => ?_)
  refine ex_iconst hΦ dX8_judge_4 ?_
  refine ex_istore_n (L' := [some (2, x0), some (0, 0)]) hΦ dX8_judge_5 (by decide) rfl ?_
  exact h
theorem eX8_tear {G : Gm} {S : List Sh} {μ : Mem} {Q : Int → Mem → Prop} {x0 : Int} (h : ∀ Φ : Fr, St G Φ cX8_tear RX8 2 0 0 0 0 → Rt G Φ (Pi S Q) 0 0 (some .int) → Ex G Φ 2 0 [some (2, x0), none] [] S μ 0 0) : Ci G mX8_tear [(2, x0)] S μ Q :=
  call_of' (plainFor_of_name (by decide +kernel)) [some (2, x0), none] rfl (Nat.le_of_ble_eq_true rfl) (fun Φ hΦ hR => h Φ hΦ hR)
theorem bX8_tear_0 {G : Gm} {Φ : Fr} {S : List Sh} {μ : Mem} {Q : Int → Mem → Prop} (hΦ : St G Φ cX8_tear RX8 2 0 0 0 0) (hR : Rt G Φ (Pi S Q) 0 0 (some .int)) {x0 : Int} (h : So S x0 (.inl 8) ∧ (∀ m2 : Mem, m2 = mu μ x0 37 0 → (∀ m3 : Mem, m3 = mu m2 x0 42 0 → (Q ((μ x0 37) + (μ x0 42)) m3)))) : Ex G Φ 2 0 [some (2, x0), none] [] S μ 0 0 := by
  obtain ⟨o1, h⟩ := h
  refine ex_aload_n hΦ dX8_tear_0 rfl o1.1 ?_
  refine ex_getf hΦ fl_X8_168 o1 dX8_tear_1 ?_
  refine ex_aload_n hΦ dX8_tear_4 rfl o1.1 ?_
  refine ex_getf hΦ fl_X8_171 o1 dX8_tear_5 ?_
  refine ex_iadd hΦ dX8_tear_8 ?_
  refine ex_istore_n (L' := [some (2, x0), some (0, ((μ x0 37) + (μ x0 42)))]) hΦ dX8_tear_9 (by decide) rfl ?_
  refine ex_aload_n hΦ dX8_tear_10 rfl o1.1 ?_
  refine ex_iconst hΦ dX8_tear_11 ?_
  obtain ⟨m2, hm2⟩ : ∃ m : Mem, m = mu μ x0 37 0 := ⟨_, rfl⟩
  have h := h m2 hm2
  refine ex_putf' hΦ fl_X8_168 o1 rfl rfl dX8_tear_12 hm2 ?_
  refine ex_aload_n hΦ dX8_tear_15 rfl o1.1 ?_
  refine ex_iconst hΦ dX8_tear_16 ?_
  obtain ⟨m3, hm3⟩ : ∃ m : Mem, m = mu m2 x0 42 0 := ⟨_, rfl⟩
  have h := h m3 hm3
  refine ex_putf' hΦ fl_X8_171 o1 rfl rfl dX8_tear_17 hm3 ?_
  refine ex_iload_n hΦ dX8_tear_20 rfl ?_
  exact ex_returni hΦ hR dX8_tear_21 h
theorem eX8_seed {G : Gm} {S : List Sh} {μ : Mem} {Q : Int → Mem → Prop} {x0 x1 : Int} (h : ∀ Φ : Fr, St G Φ cX8_seed RX8 3 0 0 0 0 → Rt G Φ (Pi S Q) 0 0 (some .int) → Ex G Φ 3 0 [some (2, x0), some (0, x1), none] [] S μ 0 0) : Ci G mX8_seed [(2, x0), (0, x1)] S μ Q :=
  call_of' (plainFor_of_name (by decide +kernel)) [some (2, x0), some (0, x1), none] rfl (Nat.le_of_ble_eq_true rfl) (fun Φ hΦ hR => h Φ hΦ hR)
theorem bX8_seed_0 {G : Gm} {Φ : Fr} {S : List Sh} {μ : Mem} {Q : Int → Mem → Prop} (hΦ : St G Φ cX8_seed RX8 3 0 0 0 0) (hR : Rt G Φ (Pi S Q) 0 0 (some .int)) {x0 x1 : Int} (h : R32 x1 ∧ ((0 ≤ x1 → So S x0 (.inl 8) ∧ (Ai S (μ x0 0) 0 11 ∧ (∀ m4 : Mem, m4 = mu μ (μ x0 0) 11 x1 → (Q (μ (μ x0 0) 11) m4)))) ∧ (¬ (0 ≤ x1) → Q (-1000000002) μ))) : Ex G Φ 3 0 [some (2, x0), some (0, x1), none] [] S μ 0 0 := by
  refine ex_iload_n hΦ dX8_seed_0 rfl ?_
  obtain ⟨o1, h⟩ := h
  refine ex_if_ge 7 hΦ dX8_seed_1 (by decide) o1 (fun c => ?_) (fun c => ?_)
  · have h := h.1 c
    obtain ⟨o2, h⟩ := h
    refine ex_aload_n hΦ dX8_seed_7 rfl o2.1 ?_
    refine ex_getf hΦ fl_X8_7 o2 dX8_seed_8 ?_
    refine ex_bipush hΦ dX8_seed_11 (by decide) ?_
    obtain ⟨o3, h⟩ := h
    refine ex_iald' hΦ o3 dX8_seed_13 ?_
    refine ex_istore_n (L' := [some (2, x0), some (0, x1), some (0, (μ (μ x0 0) 11))]) hΦ dX8_seed_14 (by decide) rfl ?_
    refine ex_aload_n hΦ dX8_seed_15 rfl o2.1 ?_
    refine ex_getf hΦ fl_X8_7 o2 dX8_seed_16 ?_
    refine ex_bipush hΦ dX8_seed_19 (by decide) ?_
    refine ex_iload_n hΦ dX8_seed_21 rfl ?_
    obtain ⟨m4, hm4⟩ : ∃ m : Mem, m = mu μ (μ x0 0) 11 x1 := ⟨_, rfl⟩
    have h := h m4 hm4
    refine ex_iast'' hΦ o3 dX8_seed_22 hm4 ?_
    refine ex_iload_n hΦ dX8_seed_23 rfl ?_
    exact ex_returni hΦ hR dX8_seed_24 h
  · have h := h.2 c
    refine ex_ldc hΦ dX8_seed_4 qw984 ?_
    exact ex_returni hΦ hR dX8_seed_6 h
theorem eX8_keep {G : Gm} {S : List Sh} {μ : Mem} {Q : Int → Mem → Prop} {x0 x1 : Int} (h : ∀ Φ : Fr, St G Φ cX8_keep RX8 2 1 25 0 0 → Rt G Φ (Pi S Q) 0 0 (some .int) → Ex G Φ 2 0 [some (2, x0), some (0, x1)] [] S μ 0 0) : Ci G mX8_keep [(2, x0), (0, x1)] S μ Q :=
  call_of' (plainFor_of_name (by decide +kernel)) [some (2, x0), some (0, x1)] rfl (Nat.le_of_ble_eq_true rfl) (fun Φ hΦ hR => h Φ hΦ hR)
theorem bX8_keep_0 {G : Gm} {Φ : Fr} {S : List Sh} {μ : Mem} {Q : Int → Mem → Prop} (hΦ : St G Φ cX8_keep RX8 2 1 25 0 0) (hR : Rt G Φ (Pi S Q) 0 0 (some .int)) {x0 x1 : Int} (h : R32 x1 ∧ (Ci G mX8_in [(1, x1), (1, 0), (1, 1)] S μ (fun r2 μ2 => R32 r2 ∧ ((r2 ≠ 0 → So S x0 (.inl 8) ∧ (Cv G mX8_copy [(2, x0), (0, 0), (0, (12 + (12 * x1)))] S μ2 (fun μ5 => Ai S (μ5 x0 1) 3 x1 ∧ (∀ m7 : Mem, m7 = mu μ5 (μ5 x0 1) x1 1 → (∀ m8 : Mem, m8 = mu m7 x0 31 0 → (Q 1 m8)))))) ∧ (r2 = 0 → Q (-1000000001) μ2))))) : Ex G Φ 2 0 [some (2, x0), some (0, x1)] [] S μ 0 0 := by
  refine ex_iload_n hΦ dX8_keep_0 rfl ?_
  obtain ⟨o1, h⟩ := h
  refine ex_i2l hΦ dX8_keep_1 o1 ?_
  refine ex_lconst (x := 0) hΦ dX8_keep_2 (by decide) ?_
  refine ex_lconst (x := 1) hΦ dX8_keep_3 (by decide) ?_
  refine ex_callSi [(1, x1), (1, 0), (1, 1)] [(1, 1), (1, 0), (1, x1)] hΦ lkS_X8_91 ⟨by decide, by decide⟩ (Nat.le_of_ble_eq_true rfl) rfl (by decide) dX8_keep_4 rfl h (fun r2 μ2 h => ?_)
  obtain ⟨o3, h⟩ := h
  refine ex_if_ne 13 hΦ dX8_keep_7 (by decide) o3 (fun c => ?_) (fun c => ?_)
  · have h := h.1 c
    obtain ⟨o4, h⟩ := h
    refine ex_aload_n hΦ dX8_keep_13 rfl o4.1 ?_
    refine ex_iconst hΦ dX8_keep_14 ?_
    refine ex_bipush hΦ dX8_keep_15 (by decide) ?_
    refine ex_bipush hΦ dX8_keep_17 (by decide) ?_
    refine ex_iload_n hΦ dX8_keep_19 rfl ?_
    refine ex_imul hΦ dX8_keep_20 ?_
    refine ex_iadd hΦ dX8_keep_21 ?_
    refine ex_callVv [(0, 0), (0, (12 + (12 * x1)))] [(0, (12 + (12 * x1))), (0, 0), (2, x0)] hΦ lkV_X8_253 ⟨by decide, by decide⟩ (Nat.le_of_ble_eq_true rfl) rfl (by decide) 8 (by decide) rfl o4 dX8_keep_22 rfl h (fun μ5 h => ?_)
    refine ex_aload_n hΦ dX8_keep_25 rfl o4.1 ?_
    refine ex_getf hΦ fl_X8_13 o4 dX8_keep_26 ?_
    refine ex_iload_n hΦ dX8_keep_29 rfl ?_
    refine ex_iconst hΦ dX8_keep_30 ?_
    obtain ⟨o6, h⟩ := h
    obtain ⟨m7, hm7⟩ : ∃ m : Mem, m = mu μ5 (μ5 x0 1) x1 1 := ⟨_, rfl⟩
    have h := h m7 hm7
    refine ex_zast'' hΦ o6 (by decide) (by decide) dX8_keep_31 hm7 ?_
    refine ex_aload_n hΦ dX8_keep_32 rfl o4.1 ?_
    refine ex_iconst hΦ dX8_keep_33 ?_
    obtain ⟨m8, hm8⟩ : ∃ m : Mem, m = mu m7 x0 31 0 := ⟨_, rfl⟩
    have h := h m8 hm8
    refine ex_putf' hΦ fl_X8_174 o4 rfl rfl dX8_keep_34 hm8 ?_
    refine ex_iconst hΦ dX8_keep_37 ?_
    exact ex_returni hΦ hR dX8_keep_38 h
  · have h := h.2 c
    refine ex_ldc hΦ dX8_keep_10 qw1098 ?_
    exact ex_returni hΦ hR dX8_keep_12 h
theorem eX8_goBack {G : Gm} {S : List Sh} {μ : Mem} {Q : Int → Mem → Prop} {x0 x1 : Int} (h : ∀ Φ : Fr, St G Φ cX8_goBack RX8 2 1 25 0 0 → Rt G Φ (Pi S Q) 0 0 (some .int) → Ex G Φ 2 0 [some (2, x0), some (0, x1)] [] S μ 0 0) : Ci G mX8_goBack [(2, x0), (0, x1)] S μ Q :=
  call_of' (plainFor_of_name (by decide +kernel)) [some (2, x0), some (0, x1)] rfl (Nat.le_of_ble_eq_true rfl) (fun Φ hΦ hR => h Φ hΦ hR)
theorem bX8_goBack_0 {G : Gm} {Φ : Fr} {S : List Sh} {μ : Mem} {Q : Int → Mem → Prop} (hΦ : St G Φ cX8_goBack RX8 2 1 25 0 0) (hR : Rt G Φ (Pi S Q) 0 0 (some .int)) {x0 x1 : Int} (h : R32 x1 ∧ (Ci G mX8_in [(1, x1), (1, 0), (1, 1)] S μ (fun r2 μ2 => R32 r2 ∧ ((r2 ≠ 0 → So S x0 (.inl 8) ∧ (Ai S (μ2 x0 1) 3 x1 ∧ (R32 (μ2 (μ2 x0 1) x1) ∧ (((μ2 (μ2 x0 1) x1) ≠ 0 → Cv G mX8_copy [(2, x0), (0, (12 + (12 * x1))), (0, 0)] S μ2 (fun μ7 => ∀ m8 : Mem, m8 = mu μ7 x0 31 0 → (Q 1 m8))) ∧ ((μ2 (μ2 x0 1) x1) = 0 → Q (-1000000003) μ2))))) ∧ (r2 = 0 → Q (-1000000001) μ2))))) : Ex G Φ 2 0 [some (2, x0), some (0, x1)] [] S μ 0 0 := by
  refine ex_iload_n hΦ dX8_goBack_0 rfl ?_
  obtain ⟨o1, h⟩ := h
  refine ex_i2l hΦ dX8_goBack_1 o1 ?_
  refine ex_lconst (x := 0) hΦ dX8_goBack_2 (by decide) ?_
  refine ex_lconst (x := 1) hΦ dX8_goBack_3 (by decide) ?_
  refine ex_callSi [(1, x1), (1, 0), (1, 1)] [(1, 1), (1, 0), (1, x1)] hΦ lkS_X8_91 ⟨by decide, by decide⟩ (Nat.le_of_ble_eq_true rfl) rfl (by decide) dX8_goBack_4 rfl h (fun r2 μ2 h => ?_)
  obtain ⟨o3, h⟩ := h
  refine ex_if_ne 13 hΦ dX8_goBack_7 (by decide) o3 (fun c => ?_) (fun c => ?_)
  · have h := h.1 c
    obtain ⟨o4, h⟩ := h
    refine ex_aload_n hΦ dX8_goBack_13 rfl o4.1 ?_
    refine ex_getf hΦ fl_X8_13 o4 dX8_goBack_14 ?_
    refine ex_iload_n hΦ dX8_goBack_17 rfl ?_
    obtain ⟨o5, h⟩ := h
    refine ex_zald' hΦ o5 dX8_goBack_18 ?_
    obtain ⟨o6, h⟩ := h
    refine ex_if_ne 26 hΦ dX8_goBack_19 (by decide) o6 (fun c => ?_) (fun c => ?_)
    · have h := h.1 c
      refine ex_aload_n hΦ dX8_goBack_26 rfl o4.1 ?_
      refine ex_bipush hΦ dX8_goBack_27 (by decide) ?_
      refine ex_bipush hΦ dX8_goBack_29 (by decide) ?_
      refine ex_iload_n hΦ dX8_goBack_31 rfl ?_
      refine ex_imul hΦ dX8_goBack_32 ?_
      refine ex_iadd hΦ dX8_goBack_33 ?_
      refine ex_iconst hΦ dX8_goBack_34 ?_
      refine ex_callVv [(0, (12 + (12 * x1))), (0, 0)] [(0, 0), (0, (12 + (12 * x1))), (2, x0)] hΦ lkV_X8_253 ⟨by decide, by decide⟩ (Nat.le_of_ble_eq_true rfl) rfl (by decide) 8 (by decide) rfl o4 dX8_goBack_35 rfl h (fun μ7 h => ?_)
      refine ex_aload_n hΦ dX8_goBack_38 rfl o4.1 ?_
      refine ex_iconst hΦ dX8_goBack_39 ?_
      obtain ⟨m8, hm8⟩ : ∃ m : Mem, m = mu μ7 x0 31 0 := ⟨_, rfl⟩
      have h := h m8 hm8
      refine ex_putf' hΦ fl_X8_174 o4 rfl rfl dX8_goBack_40 hm8 ?_
      refine ex_iconst hΦ dX8_goBack_43 ?_
      exact ex_returni hΦ hR dX8_goBack_44 h
    · have h := h.2 c
      refine ex_ldcw hΦ dX8_goBack_22 qw1125 ?_
      exact ex_returni hΦ hR dX8_goBack_25 h
  · have h := h.2 c
    refine ex_ldc hΦ dX8_goBack_10 qw1098 ?_
    exact ex_returni hΦ hR dX8_goBack_12 h
