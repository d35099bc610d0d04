theorem eJ6_bitCount_0f7a4 {G : Gm} {S : List Sh} {μ : Mem} {Q : Int → Mem → Prop} {x0 : Int} (h : ∀ Φ : Fr, St G Φ cJ6_bitCount_0f7a4 RJ6 1 0 0 0 0 → Rt G Φ (Pi S Q) 0 0 (some .int) → Ex G Φ 1 0 [some (0, x0)] [] S μ 0 0) : Ci G mJ6_bitCount_0f7a4 [(0, x0)] S μ Q :=
  call_of' (plainFor_of_name (by decide +kernel)) [some (0, x0)] rfl (Nat.le_of_ble_eq_true rfl) (fun Φ hΦ hR => h Φ hΦ hR)
theorem bJ6_bitCount_0f7a4_0 {G : Gm} {Φ : Fr} {S : List Sh} {μ : Mem} {Q : Int → Mem → Prop} (hΦ : St G Φ cJ6_bitCount_0f7a4 RJ6 1 0 0 0 0) (hR : Rt G Φ (Pi S Q) 0 0 (some .int)) {x0 : Int} (h : Q (mand (((mand (((mand (x0 - (mand (mushr x0 1) 1431655765)) 858993459) + (mand (mushr (x0 - (mand (mushr x0 1) 1431655765)) 2) 858993459)) + (mushr ((mand (x0 - (mand (mushr x0 1) 1431655765)) 858993459) + (mand (mushr (x0 - (mand (mushr x0 1) 1431655765)) 2) 858993459)) 4)) 252645135) + (mushr (mand (((mand (x0 - (mand (mushr x0 1) 1431655765)) 858993459) + (mand (mushr (x0 - (mand (mushr x0 1) 1431655765)) 2) 858993459)) + (mushr ((mand (x0 - (mand (mushr x0 1) 1431655765)) 858993459) + (mand (mushr (x0 - (mand (mushr x0 1) 1431655765)) 2) 858993459)) 4)) 252645135) 8)) + (mushr ((mand (((mand (x0 - (mand (mushr x0 1) 1431655765)) 858993459) + (mand (mushr (x0 - (mand (mushr x0 1) 1431655765)) 2) 858993459)) + (mushr ((mand (x0 - (mand (mushr x0 1) 1431655765)) 858993459) + (mand (mushr (x0 - (mand (mushr x0 1) 1431655765)) 2) 858993459)) 4)) 252645135) + (mushr (mand (((mand (x0 - (mand (mushr x0 1) 1431655765)) 858993459) + (mand (mushr (x0 - (mand (mushr x0 1) 1431655765)) 2) 858993459)) + (mushr ((mand (x0 - (mand (mushr x0 1) 1431655765)) 858993459) + (mand (mushr (x0 - (mand (mushr x0 1) 1431655765)) 2) 858993459)) 4)) 252645135) 8)) 16)) 63) μ) : Ex G Φ 1 0 [some (0, x0)] [] S μ 0 0 := by
  refine ex_iload_n hΦ dJ6_bitCount_0f7a4_0 rfl ?_
  refine ex_iload_n hΦ dJ6_bitCount_0f7a4_1 rfl ?_
  refine ex_iconst hΦ dJ6_bitCount_0f7a4_2 ?_
  refine ex_iushr hΦ dJ6_bitCount_0f7a4_3 ?_
  refine ex_ldcw hΦ dJ6_bitCount_0f7a4_4 qw680 ?_
  refine ex_iand hΦ dJ6_bitCount_0f7a4_7 ?_
  refine ex_isub hΦ dJ6_bitCount_0f7a4_8 ?_
  refine ex_istore_n (L' := [some (0, (x0 - (mand (mushr x0 1) 1431655765)))]) hΦ dJ6_bitCount_0f7a4_9 (by decide) rfl ?_
  refine ex_iload_n hΦ dJ6_bitCount_0f7a4_10 rfl ?_
  refine ex_ldcw hΦ dJ6_bitCount_0f7a4_11 qw681 ?_
  refine ex_iand hΦ dJ6_bitCount_0f7a4_14 ?_
  refine ex_iload_n hΦ dJ6_bitCount_0f7a4_15 rfl ?_
  refine ex_iconst hΦ dJ6_bitCount_0f7a4_16 ?_
  refine ex_iushr hΦ dJ6_bitCount_0f7a4_17 ?_
  refine ex_ldcw hΦ dJ6_bitCount_0f7a4_18 qw681 ?_
  refine ex_iand hΦ dJ6_bitCount_0f7a4_21 ?_
  refine ex_iadd hΦ dJ6_bitCount_0f7a4_22 ?_
  refine ex_istore_n (L' := [some (0, ((mand (x0 - (mand (mushr x0 1) 1431655765)) 858993459) + (mand (mushr (x0 - (mand (mushr x0 1) 1431655765)) 2) 858993459)))]) hΦ dJ6_bitCount_0f7a4_23 (by decide) rfl ?_
  refine ex_iload_n hΦ dJ6_bitCount_0f7a4_24 rfl ?_
  refine ex_iload_n hΦ dJ6_bitCount_0f7a4_25 rfl ?_
  refine ex_iconst hΦ dJ6_bitCount_0f7a4_26 ?_
  refine ex_iushr hΦ dJ6_bitCount_0f7a4_27 ?_
  refine ex_iadd hΦ dJ6_bitCount_0f7a4_28 ?_
  refine ex_ldcw hΦ dJ6_bitCount_0f7a4_29 qw682 ?_
  refine ex_iand hΦ dJ6_bitCount_0f7a4_32 ?_
  refine ex_istore_n (L' := [some (0, (mand (((mand (x0 - (mand (mushr x0 1) 1431655765)) 858993459) + (mand (mushr (x0 - (mand (mushr x0 1) 1431655765)) 2) 858993459)) + (mushr ((mand (x0 - (mand (mushr x0 1) 1431655765)) 858993459) + (mand (mushr (x0 - (mand (mushr x0 1) 1431655765)) 2) 858993459)) 4)) 252645135))]) hΦ dJ6_bitCount_0f7a4_33 (by decide) rfl ?_
  refine ex_iload_n hΦ dJ6_bitCount_0f7a4_34 rfl ?_
  refine ex_iload_n hΦ dJ6_bitCount_0f7a4_35 rfl ?_
  refine ex_bipush hΦ dJ6_bitCount_0f7a4_36 (by decide) ?_
  refine ex_iushr hΦ dJ6_bitCount_0f7a4_38 ?_
  refine ex_iadd hΦ dJ6_bitCount_0f7a4_39 ?_
  refine ex_istore_n (L' := [some (0, ((mand (((mand (x0 - (mand (mushr x0 1) 1431655765)) 858993459) + (mand (mushr (x0 - (mand (mushr x0 1) 1431655765)) 2) 858993459)) + (mushr ((mand (x0 - (mand (mushr x0 1) 1431655765)) 858993459) + (mand (mushr (x0 - (mand (mushr x0 1) 1431655765)) 2) 858993459)) 4)) 252645135) + (mushr (mand (((mand (x0 - (mand (mushr x0 1) 1431655765)) 858993459) + (mand (mushr (x0 - (mand (mushr x0 1) 1431655765)) 2) 858993459)) + (mushr ((mand (x0 - (mand (mushr x0 1) 1431655765)) 858993459) + (mand (mushr (x0 - (mand (mushr x0 1) 1431655765)) 2) 858993459)) 4)) 252645135) 8)))]) hΦ dJ6_bitCount_0f7a4_40 (by decide) rfl ?_
  refine ex_iload_n hΦ dJ6_bitCount_0f7a4_41 rfl ?_
  refine ex_iload_n hΦ dJ6_bitCount_0f7a4_42 rfl ?_
  refine ex_bipush hΦ dJ6_bitCount_0f7a4_43 (by decide) ?_
  refine ex_iushr hΦ dJ6_bitCount_0f7a4_45 ?_
  refine ex_iadd hΦ dJ6_bitCount_0f7a4_46 ?_
  refine ex_istore_n (L' := [some (0, (((mand (((mand (x0 - (mand (mushr x0 1) 1431655765)) 858993459) + (mand (mushr (x0 - (mand (mushr x0 1) 1431655765)) 2) 858993459)) + (mushr ((mand (x0 - (mand (mushr x0 1) 1431655765)) 858993459) + (mand (mushr (x0 - (mand (mushr x0 1) 1431655765)) 2) 858993459)) 4)) 252645135) + (mushr (mand (((mand (x0 - (mand (mushr x0 1) 1431655765)) 858993459) + (mand (mushr (x0 - (mand (mushr x0 1) 1431655765)) 2) 858993459)) + (mushr ((mand (x0 - (mand (mushr x0 1) 1431655765)) 858993459) + (mand (mushr (x0 - (mand (mushr x0 1) 1431655765)) 2) 858993459)) 4)) 252645135) 8)) + (mushr ((mand (((mand (x0 - (mand (mushr x0 1) 1431655765)) 858993459) + (mand (mushr (x0 - (mand (mushr x0 1) 1431655765)) 2) 858993459)) + (mushr ((mand (x0 - (mand (mushr x0 1) 1431655765)) 858993459) + (mand (mushr (x0 - (mand (mushr x0 1) 1431655765)) 2) 858993459)) 4)) 252645135) + (mushr (mand (((mand (x0 - (mand (mushr x0 1) 1431655765)) 858993459) + (mand (mushr (x0 - (mand (mushr x0 1) 1431655765)) 2) 858993459)) + (mushr ((mand (x0 - (mand (mushr x0 1) 1431655765)) 858993459) + (mand (mushr (x0 - (mand (mushr x0 1) 1431655765)) 2) 858993459)) 4)) 252645135) 8)) 16)))]) hΦ dJ6_bitCount_0f7a4_47 (by decide) rfl ?_
  refine ex_iload_n hΦ dJ6_bitCount_0f7a4_48 rfl ?_
  refine ex_bipush hΦ dJ6_bitCount_0f7a4_49 (by decide) ?_
  refine ex_iand hΦ dJ6_bitCount_0f7a4_51 ?_
  exact ex_returni hΦ hR dJ6_bitCount_0f7a4_52 h
theorem eJ9_floorDiv_f86c9 {G : Gm} {S : List Sh} {μ : Mem} {Q : Int → Mem → Prop} {x0 x2 : Int} (h : ∀ Φ : Fr, St G Φ cJ9_floorDiv_f86c9 RJ9 6 0 0 0 0 → Rt G Φ (Pj S Q) 0 0 (some .long) → Ex G Φ 6 0 [some (1, x0), none, some (1, x2), none, none, none] [] S μ 0 0) : Cj G mJ9_floorDiv_f86c9 [(1, x0), (1, x2)] S μ Q :=
  call_of' (by decide +kernel) [some (1, x0), none, some (1, x2), none, none, none] rfl (Nat.le_of_ble_eq_true rfl) (fun Φ hΦ hR => h Φ hΦ hR)
theorem bJ9_floorDiv_f86c9_0 {G : Gm} {Φ : Fr} {S : List Sh} {μ : Mem} {Q : Int → Mem → Prop} (hΦ : St G Φ cJ9_floorDiv_f86c9 RJ9 6 0 0 0 0) (hR : Rt G Φ (Pj S Q) 0 0 (some .long)) {x0 x2 : Int} (h : R64 x0 ∧ (R64 x2 ∧ (x2 ≠ 0 ∧ (R64 (mxorl x0 x2) ∧ ((0 ≤ (mxorl x0 x2) → Q (Int.tdiv x0 x2) μ) ∧ (¬ (0 ≤ (mxorl x0 x2)) → R64 ((Int.tdiv x0 x2) * x2) ∧ ((((Int.tdiv x0 x2) * x2) = x0 → Q (Int.tdiv x0 x2) μ) ∧ (¬ (((Int.tdiv x0 x2) * x2) = x0) → Q ((Int.tdiv x0 x2) - 1) μ)))))))) : Ex G Φ 6 0 [some (1, x0), none, some (1, x2), none, none, none] [] S μ 0 0 := by
  refine ex_lload_n hΦ dJ9_floorDiv_f86c9_0 rfl ?_
  refine ex_lload_n hΦ dJ9_floorDiv_f86c9_1 rfl ?_
  obtain ⟨o1, h⟩ := h
  obtain ⟨o2, h⟩ := h
  obtain ⟨o3, h⟩ := h
  refine ex_ldiv hΦ dJ9_floorDiv_f86c9_2 o1 o2 o3 ?_
  refine ex_lstore (L' := [some (1, x0), none, some (1, x2), none, some (1, (Int.tdiv x0 x2)), none]) hΦ dJ9_floorDiv_f86c9_3 (by decide) rfl ?_
  refine ex_lload_n hΦ dJ9_floorDiv_f86c9_5 rfl ?_
  refine ex_lload_n hΦ dJ9_floorDiv_f86c9_6 rfl ?_
  refine ex_lxor hΦ dJ9_floorDiv_f86c9_7 ?_
  refine ex_lconst (x := 0) hΦ dJ9_floorDiv_f86c9_8 (by decide) ?_
  obtain ⟨o4, h⟩ := h
  refine ex_lcmp hΦ dJ9_floorDiv_f86c9_9 o4 ⟨by decide, by decide⟩ ?_
  refine ex_lif_ge 27 hΦ dJ9_floorDiv_f86c9_10 (by decide) (fun c => ?_) (fun c => ?_)
  · have h := h.1 c
    refine ex_lload hΦ dJ9_floorDiv_f86c9_27 rfl ?_
    exact ex_returnj hΦ hR dJ9_floorDiv_f86c9_29 h
  · have h := h.2 c
    refine ex_lload hΦ dJ9_floorDiv_f86c9_13 rfl ?_
    refine ex_lload_n hΦ dJ9_floorDiv_f86c9_15 rfl ?_
    refine ex_lmul hΦ dJ9_floorDiv_f86c9_16 ?_
    refine ex_lload_n hΦ dJ9_floorDiv_f86c9_17 rfl ?_
    obtain ⟨o5, h⟩ := h
    refine ex_lcmp hΦ dJ9_floorDiv_f86c9_18 o5 o1 ?_
    refine ex_lif_eq 27 hΦ dJ9_floorDiv_f86c9_19 (by decide) (fun c => ?_) (fun c => ?_)
    · have h := h.1 c
      refine ex_lload hΦ dJ9_floorDiv_f86c9_27 rfl ?_
      exact ex_returnj hΦ hR dJ9_floorDiv_f86c9_29 h
    · have h := h.2 c
      refine ex_lload hΦ dJ9_floorDiv_f86c9_22 rfl ?_
      refine ex_lconst (x := 1) hΦ dJ9_floorDiv_f86c9_24 (by decide) ?_
      refine ex_lsub hΦ dJ9_floorDiv_f86c9_25 ?_
      exact ex_returnj hΦ hR dJ9_floorDiv_f86c9_26 h
theorem eJ9_floorMod_f86c9 {G : Gm} {S : List Sh} {μ : Mem} {Q : Int → Mem → Prop} {x0 x2 : Int} (h : ∀ Φ : Fr, St G Φ cJ9_floorMod_f86c9 RJ9 6 0 0 0 0 → Rt G Φ (Pj S Q) 0 0 (some .long) → Ex G Φ 6 0 [some (1, x0), none, some (1, x2), none, none, none] [] S μ 0 0) : Cj G mJ9_floorMod_f86c9 [(1, x0), (1, x2)] S μ Q :=
  call_of' (by decide +kernel) [some (1, x0), none, some (1, x2), none, none, none] rfl (Nat.le_of_ble_eq_true rfl) (fun Φ hΦ hR => h Φ hΦ hR)
theorem bJ9_floorMod_f86c9_0 {G : Gm} {Φ : Fr} {S : List Sh} {μ : Mem} {Q : Int → Mem → Prop} (hΦ : St G Φ cJ9_floorMod_f86c9 RJ9 6 0 0 0 0) (hR : Rt G Φ (Pj S Q) 0 0 (some .long)) {x0 x2 : Int} (h : R64 x0 ∧ (R64 x2 ∧ (x2 ≠ 0 ∧ (R64 (mxorl x0 x2) ∧ ((0 ≤ (mxorl x0 x2) → Q (Int.tmod x0 x2) μ) ∧ (¬ (0 ≤ (mxorl x0 x2)) → R64 (Int.tmod x0 x2) ∧ (((Int.tmod x0 x2) = 0 → Q (Int.tmod x0 x2) μ) ∧ (¬ ((Int.tmod x0 x2) = 0) → Q ((Int.tmod x0 x2) + x2) μ)))))))) : Ex G Φ 6 0 [some (1, x0), none, some (1, x2), none, none, none] [] S μ 0 0 := by
  refine ex_lload_n hΦ dJ9_floorMod_f86c9_0 rfl ?_
  refine ex_lload_n hΦ dJ9_floorMod_f86c9_1 rfl ?_
  obtain ⟨o1, h⟩ := h
  obtain ⟨o2, h⟩ := h
  obtain ⟨o3, h⟩ := h
  refine ex_lrem hΦ dJ9_floorMod_f86c9_2 o1 o2 o3 ?_
  refine ex_lstore (L' := [some (1, x0), none, some (1, x2), none, some (1, (Int.tmod x0 x2)), none]) hΦ dJ9_floorMod_f86c9_3 (by decide) rfl ?_
  refine ex_lload_n hΦ dJ9_floorMod_f86c9_5 rfl ?_
  refine ex_lload_n hΦ dJ9_floorMod_f86c9_6 rfl ?_
  refine ex_lxor hΦ dJ9_floorMod_f86c9_7 ?_
  refine ex_lconst (x := 0) hΦ dJ9_floorMod_f86c9_8 (by decide) ?_
  obtain ⟨o4, h⟩ := h
  refine ex_lcmp hΦ dJ9_floorMod_f86c9_9 o4 ⟨by decide, by decide⟩ ?_
  refine ex_lif_ge 25 hΦ dJ9_floorMod_f86c9_10 (by decide) (fun c => ?_) (fun c => ?_)
  · have h := h.1 c
    refine ex_lload hΦ dJ9_floorMod_f86c9_25 rfl ?_
    exact ex_returnj hΦ hR dJ9_floorMod_f86c9_27 h
  · have h := h.2 c
    refine ex_lload hΦ dJ9_floorMod_f86c9_13 rfl ?_
    refine ex_lconst (x := 0) hΦ dJ9_floorMod_f86c9_15 (by decide) ?_
    obtain ⟨o5, h⟩ := h
    refine ex_lcmp hΦ dJ9_floorMod_f86c9_16 o5 ⟨by decide, by decide⟩ ?_
    refine ex_lif_eq 25 hΦ dJ9_floorMod_f86c9_17 (by decide) (fun c => ?_) (fun c => ?_)
    · have h := h.1 c
      refine ex_lload hΦ dJ9_floorMod_f86c9_25 rfl ?_
      exact ex_returnj hΦ hR dJ9_floorMod_f86c9_27 h
    · have h := h.2 c
      refine ex_lload hΦ dJ9_floorMod_f86c9_20 rfl ?_
      refine ex_lload_n hΦ dJ9_floorMod_f86c9_22 rfl ?_
      refine ex_ladd hΦ dJ9_floorMod_f86c9_23 ?_
      exact ex_returnj hΦ hR dJ9_floorMod_f86c9_24 h
theorem bJ7_fill_d0a16_6 {G : Gm} {Φ : Fr} {S : List Sh} {μ : Mem} {Q : Mem → Prop} (hΦ : St G Φ cJ7_fill_d0a16 RJ7 5 0 0 0 0) (hR : Rt G Φ (Pv S Q) 0 0 none) {x0 x1 x3 x4 : Int} (h : R32 x3 ∧ (R32 x4 ∧ ((x4 ≤ x3 → Q μ) ∧ (¬ (x4 ≤ x3) → 0 ≤ x0 ∧ (Ai S x0 1 x3 ∧ (∀ m5 : Mem, m5 = mu μ x0 x3 x1 → (Ex G Φ 5 6 [some (2, x0), some (1, x1), none, some (0, (x3 + 1)), some (0, x4)] [] S m5 0 0))))))) : Ex G Φ 5 6 [some (2, x0), some (1, x1), none, some (0, x3), some (0, x4)] [] S μ 0 0 := by
  refine ex_iload_n hΦ dJ7_fill_d0a16_6 rfl ?_
  refine ex_iload hΦ dJ7_fill_d0a16_7 rfl ?_
  obtain ⟨o1, h⟩ := h
  obtain ⟨o2, h⟩ := h
  refine ex_icmp_ge 22 hΦ dJ7_fill_d0a16_9 (by decide) o1 o2 (fun c => ?_) (fun c => ?_)
  · have h := h.1 c
    exact ex_returnv hΦ hR dJ7_fill_d0a16_22 h
  · have h := h.2 c
    obtain ⟨o3, h⟩ := h
    refine ex_aload_n hΦ dJ7_fill_d0a16_12 rfl o3 ?_
    refine ex_iload_n hΦ dJ7_fill_d0a16_13 rfl ?_
    refine ex_lload_n hΦ dJ7_fill_d0a16_14 rfl ?_
    obtain ⟨o4, h⟩ := h
    obtain ⟨m5, hm5⟩ : ∃ m : Mem, m = mu μ x0 x3 x1 := ⟨_, rfl⟩
    have h := h m5 hm5
    refine ex_last'' hΦ o4 dJ7_fill_d0a16_15 hm5 ?_
    refine ex_iinc (L' := [some (2, x0), some (1, x1), none, some (0, (x3 + 1)), some (0, x4)]) hΦ dJ7_fill_d0a16_16 rfl (by decide) rfl ?_
    refine ex_goto 6 hΦ dJ7_fill_d0a16_19 (by decide) ?_
    exact h
theorem eJ7_fill_d0a16 {G : Gm} {S : List Sh} {μ : Mem} {Q : Mem → Prop} {x0 x1 : Int} (h : ∀ Φ : Fr, St G Φ cJ7_fill_d0a16 RJ7 5 0 0 0 0 → Rt G Φ (Pv S Q) 0 0 none → Ex G Φ 5 0 [some (2, x0), some (1, x1), none, none, none] [] S μ 0 0) : Cv G mJ7_fill_d0a16 [(2, x0), (1, x1)] S μ Q :=
  call_of' (plainFor_of_name (by decide +kernel)) [some (2, x0), some (1, x1), none, none, none] rfl (Nat.le_of_ble_eq_true rfl) (fun Φ hΦ hR => h Φ hΦ hR)
theorem bJ7_fill_d0a16_0 {G : Gm} {Φ : Fr} {S : List Sh} {μ : Mem} {Q : Mem → Prop} (hΦ : St G Φ cJ7_fill_d0a16 RJ7 5 0 0 0 0) (hR : Rt G Φ (Pv S Q) 0 0 none) {x0 x1 : Int} (h : 0 ≤ x0 ∧ (Aj S x0 1 ∧ Ex G Φ 5 6 [some (2, x0), some (1, x1), none, some (0, 0), some (0, (aln S x0))] [] S μ 0 0)) : Ex G Φ 5 0 [some (2, x0), some (1, x1), none, none, none] [] S μ 0 0 := by
  refine ex_iconst hΦ dJ7_fill_d0a16_0 ?_
  refine ex_istore_n (L' := [some (2, x0), some (1, x1), none, some (0, 0), none]) hΦ dJ7_fill_d0a16_1 (by decide) rfl ?_
  obtain ⟨o1, h⟩ := h
  refine ex_aload_n hΦ dJ7_fill_d0a16_2 rfl o1 ?_
  obtain ⟨o2, h⟩ := h
  refine ex_alen' hΦ o2 (by decide) dJ7_fill_d0a16_3 ?_
  refine ex_istore (L' := [some (2, x0), some (1, x1), none, some (0, 0), some (0, (aln S x0))]) hΦ dJ7_fill_d0a16_4 (by decide) rfl ?_
  exact h
theorem bJ7_fill_53178_5 {G : Gm} {Φ : Fr} {S : List Sh} {μ : Mem} {Q : Mem → Prop} (hΦ : St G Φ cJ7_fill_53178 RJ7 4 0 0 0 0) (hR : Rt G Φ (Pv S Q) 0 0 none) {x0 x1 x2 x3 : Int} (h : R32 x2 ∧ (R32 x3 ∧ ((x3 ≤ x2 → Q μ) ∧ (¬ (x3 ≤ x2) → 0 ≤ x0 ∧ (Ai S x0 0 x2 ∧ (∀ m5 : Mem, m5 = mu μ x0 x2 x1 → (Ex G Φ 4 5 [some (2, x0), some (0, x1), some (0, (x2 + 1)), some (0, x3)] [] S m5 0 0))))))) : Ex G Φ 4 5 [some (2, x0), some (0, x1), some (0, x2), some (0, x3)] [] S μ 0 0 := by
  refine ex_iload_n hΦ dJ7_fill_53178_5 rfl ?_
  refine ex_iload_n hΦ dJ7_fill_53178_6 rfl ?_
  obtain ⟨o1, h⟩ := h
  obtain ⟨o2, h⟩ := h
  refine ex_icmp_ge 20 hΦ dJ7_fill_53178_7 (by decide) o1 o2 (fun c => ?_) (fun c => ?_)
  · have h := h.1 c
    exact ex_returnv hΦ hR dJ7_fill_53178_20 h
  · have h := h.2 c
    obtain ⟨o3, h⟩ := h
    refine ex_aload_n hΦ dJ7_fill_53178_10 rfl o3 ?_
    refine ex_iload_n hΦ dJ7_fill_53178_11 rfl ?_
    refine ex_iload_n hΦ dJ7_fill_53178_12 rfl ?_
    obtain ⟨o4, h⟩ := h
    obtain ⟨m5, hm5⟩ : ∃ m : Mem, m = mu μ x0 x2 x1 := ⟨_, rfl⟩
    have h := h m5 hm5
    refine ex_iast'' hΦ o4 dJ7_fill_53178_13 hm5 ?_
    refine ex_iinc (L' := [some (2, x0), some (0, x1), some (0, (x2 + 1)), some (0, x3)]) hΦ dJ7_fill_53178_14 rfl (by decide) rfl ?_
    refine ex_goto 5 hΦ dJ7_fill_53178_17 (by decide) ?_
    exact h
theorem eJ7_fill_53178 {G : Gm} {S : List Sh} {μ : Mem} {Q : Mem → Prop} {x0 x1 : Int} (h : ∀ Φ : Fr, St G Φ cJ7_fill_53178 RJ7 4 0 0 0 0 → Rt G Φ (Pv S Q) 0 0 none → Ex G Φ 4 0 [some (2, x0), some (0, x1), none, none] [] S μ 0 0) : Cv G mJ7_fill_53178 [(2, x0), (0, x1)] S μ Q :=
  call_of' (plainFor_of_name (by decide +kernel)) [some (2, x0), some (0, x1), none, none] rfl (Nat.le_of_ble_eq_true rfl) (fun Φ hΦ hR => h Φ hΦ hR)
theorem bJ7_fill_53178_0 {G : Gm} {Φ : Fr} {S : List Sh} {μ : Mem} {Q : Mem → Prop} (hΦ : St G Φ cJ7_fill_53178 RJ7 4 0 0 0 0) (hR : Rt G Φ (Pv S Q) 0 0 none) {x0 x1 : Int} (h : 0 ≤ x0 ∧ (Aj S x0 0 ∧ Ex G Φ 4 5 [some (2, x0), some (0, x1), some (0, 0), some (0, (aln S x0))] [] S μ 0 0)) : Ex G Φ 4 0 [some (2, x0), some (0, x1), none, none] [] S μ 0 0 := by
  refine ex_iconst hΦ dJ7_fill_53178_0 ?_
  refine ex_istore_n (L' := [some (2, x0), some (0, x1), some (0, 0), none]) hΦ dJ7_fill_53178_1 (by decide) rfl ?_
  obtain ⟨o1, h⟩ := h
  refine ex_aload_n hΦ dJ7_fill_53178_2 rfl o1 ?_
  obtain ⟨o2, h⟩ := h
  refine ex_alen' hΦ o2 (by decide) dJ7_fill_53178_3 ?_
  refine ex_istore_n (L' := [some (2, x0), some (0, x1), some (0, 0), some (0, (aln S x0))]) hΦ dJ7_fill_53178_4 (by decide) rfl ?_
  exact h
theorem eX0_remember {G : Gm} {S : List Sh} {μ : Mem} {Q : Mem → Prop} {x0 x1 : Int} (h : ∀ Φ : Fr, St G Φ cX0_remember RX0 2 2 47 0 0 → Rt G Φ (Pv S Q) 0 0 none → Ex G Φ 2 0 [some (2, x0), some (2, x1)] [] S μ 0 0) : Cv G mX0_remember [(2, x0), (2, x1)] S μ Q :=
  call_of' (plainFor_of_name (by decide +kernel)) [some (2, x0), some (2, x1)] rfl (Nat.le_of_ble_eq_true rfl) (fun Φ hΦ hR => h Φ hΦ hR)
theorem bX0_remember_0 {G : Gm} {Φ : Fr} {S : List Sh} {μ : Mem} {Q : Mem → Prop} (hΦ : St G Φ cX0_remember RX0 2 2 47 0 0) (hR : Rt G Φ (Pv S Q) 0 0 none) {x0 x1 : Int} (h : So S x0 (.inl 0) ∧ (Ai S (μ x0 0) 5 (μ x0 1) ∧ (So S x1 (.inl 5) ∧ (So S (μ (μ x0 0) (μ x0 1)) (.inl 5) ∧ (Cv G mX5_become [(2, (μ (μ x0 0) (μ x0 1))), (2, x1)] S μ (fun μ5 => R32 ((μ5 x0 1) + 1) ∧ (∀ m7 : Mem, m7 = mu μ5 x0 1 (Int.tmod ((μ5 x0 1) + 1) 30) → (R32 ((m7 x0 2) + 1) ∧ (∀ m9 : Mem, m9 = mu m7 x0 2 (if 30 < ((m7 x0 2) + 1) then 30 else ((m7 x0 2) + 1)) → (Q m9)))))))))) : Ex G Φ 2 0 [some (2, x0), some (2, x1)] [] S μ 0 0 := by
  obtain ⟨o1, h⟩ := h
  refine ex_aload_n hΦ dX0_remember_0 rfl o1.1 ?_
  refine ex_getf hΦ fl_X0_11 o1 dX0_remember_1 ?_
  refine ex_aload_n hΦ dX0_remember_4 rfl o1.1 ?_
  refine ex_getf hΦ fl_X0_18 o1 dX0_remember_5 ?_
  obtain ⟨o2, h⟩ := h
  refine ex_aald5' hΦ o2 dX0_remember_8 ?_
  obtain ⟨o3, h⟩ := h
  refine ex_aload_n hΦ dX0_remember_9 rfl o3.1 ?_
  obtain ⟨o4, h⟩ := h
  refine ex_callVv [(2, x1)] [(2, x1), (2, (μ (μ x0 0) (μ x0 1)))] hΦ lkV_X0_22 ⟨by decide, by decide⟩ (Nat.le_of_ble_eq_true rfl) rfl (by decide) 5 (by decide) rfl o4 dX0_remember_10 rfl h (fun μ5 h => ?_)
  refine ex_aload_n hΦ dX0_remember_13 rfl o1.1 ?_
  refine ex_aload_n hΦ dX0_remember_14 rfl o1.1 ?_
  refine ex_getf hΦ fl_X0_18 o1 dX0_remember_15 ?_
  refine ex_iconst hΦ dX0_remember_18 ?_
  refine ex_iadd hΦ dX0_remember_19 ?_
  refine ex_bipush hΦ dX0_remember_20 (by decide) ?_
  obtain ⟨o6, h⟩ := h
  refine ex_irem hΦ dX0_remember_22 o6 ⟨by decide, by decide⟩ (by decide) ?_
  obtain ⟨m7, hm7⟩ : ∃ m : Mem, m = mu μ5 x0 1 (Int.tmod ((μ5 x0 1) + 1) 30) := ⟨_, rfl⟩
  have h := h m7 hm7
  refine ex_putf' hΦ fl_X0_18 o1 rfl rfl dX0_remember_23 hm7 ?_
  refine ex_aload_n hΦ dX0_remember_26 rfl o1.1 ?_
  refine ex_aload_n hΦ dX0_remember_27 rfl o1.1 ?_
  refine ex_getf hΦ fl_X0_26 o1 dX0_remember_28 ?_
  refine ex_iconst hΦ dX0_remember_31 ?_
  refine ex_iadd hΦ dX0_remember_32 ?_
  refine ex_bipush hΦ dX0_remember_33 (by decide) ?_
  obtain ⟨o8, h⟩ := h
  refine ex_mmin hΦ qw593 qw594 qw91 qw595 ⟨by decide, by decide⟩ ⟨by decide, by decide⟩ (Nat.le_of_ble_eq_true rfl) o8 ⟨by decide, by decide⟩ dX0_remember_35 ?_
  obtain ⟨m9, hm9⟩ : ∃ m : Mem, m = mu m7 x0 2 (if 30 < ((m7 x0 2) + 1) then 30 else ((m7 x0 2) + 1)) := ⟨_, rfl⟩
  have h := h m9 hm9
  refine ex_putf' hΦ fl_X0_26 o1 rfl rfl dX0_remember_38 hm9 ?_
  exact ex_returnv hΦ hR dX0_remember_41 h
theorem eX0_takeBack {G : Gm} {S : List Sh} {μ : Mem} {Q : Mem → Prop} {x0 x1 x2 : Int} (h : ∀ Φ : Fr, St G Φ cX0_takeBack RX0 3 2 48 0 0 → Rt G Φ (Pv S Q) 0 0 none → Ex G Φ 3 0 [some (2, x0), some (0, x1), some (2, x2)] [] S μ 0 0) : Cv G mX0_takeBack [(2, x0), (0, x1), (2, x2)] S μ Q :=
  call_of' (plainFor_of_name (by decide +kernel)) [some (2, x0), some (0, x1), some (2, x2)] rfl (Nat.le_of_ble_eq_true rfl) (fun Φ hΦ hR => h Φ hΦ hR)
theorem bX0_takeBack_0 {G : Gm} {Φ : Fr} {S : List Sh} {μ : Mem} {Q : Mem → Prop} (hΦ : St G Φ cX0_takeBack RX0 3 2 48 0 0) (hR : Rt G Φ (Pv S Q) 0 0 none) {x0 x1 x2 : Int} (h : So S x0 (.inl 0) ∧ (R32 ((μ x0 1) - x1) ∧ (Cj G mX7_leftOver [(1, ((μ x0 1) - x1)), (1, 30)] S μ (fun r3 μ3 => ∀ m4 : Mem, m4 = mu μ3 x0 1 r3 → (∀ m5 : Mem, m5 = mu m4 x0 2 ((m4 x0 2) - x1) → (So S x2 (.inl 5) ∧ (Ai S (m5 x0 0) 5 (m5 x0 1) ∧ Cv G mX5_become [(2, x2), (2, (m5 (m5 x0 0) (m5 x0 1)))] S m5 (fun μ8 => Q μ8)))))))) : Ex G Φ 3 0 [some (2, x0), some (0, x1), some (2, x2)] [] S μ 0 0 := by
  obtain ⟨o1, h⟩ := h
  refine ex_aload_n hΦ dX0_takeBack_0 rfl o1.1 ?_
  refine ex_aload_n hΦ dX0_takeBack_1 rfl o1.1 ?_
  refine ex_getf hΦ fl_X0_18 o1 dX0_takeBack_2 ?_
  refine ex_iload_n hΦ dX0_takeBack_5 rfl ?_
  refine ex_isub hΦ dX0_takeBack_6 ?_
  obtain ⟨o2, h⟩ := h
  refine ex_i2l hΦ dX0_takeBack_7 o2 ?_
  refine ex_ldc2 hΦ dX0_takeBack_8 qw631 ?_
  refine ex_callSNj [(1, ((μ x0 1) - x1)), (1, 30)] [(1, 30), (1, ((μ x0 1) - x1)), (2, x0)] hΦ lkSN_X0_37 ⟨by decide, by decide⟩ (Nat.le_of_ble_eq_true rfl) rfl (by decide) dX0_takeBack_11 rfl h (fun r3 μ3 h => ?_)
  refine ex_l2i hΦ dX0_takeBack_14 ?_
  obtain ⟨m4, hm4⟩ : ∃ m : Mem, m = mu μ3 x0 1 r3 := ⟨_, rfl⟩
  have h := h m4 hm4
  refine ex_putf' hΦ fl_X0_18 o1 rfl rfl dX0_takeBack_15 hm4 ?_
  refine ex_aload_n hΦ dX0_takeBack_18 rfl o1.1 ?_
  refine ex_dup hΦ dX0_takeBack_19 (Nat.ne_of_beq_eq_false rfl) ?_
  refine ex_getf hΦ fl_X0_26 o1 dX0_takeBack_20 ?_
  refine ex_iload_n hΦ dX0_takeBack_23 rfl ?_
  refine ex_isub hΦ dX0_takeBack_24 ?_
  obtain ⟨m5, hm5⟩ : ∃ m : Mem, m = mu m4 x0 2 ((m4 x0 2) - x1) := ⟨_, rfl⟩
  have h := h m5 hm5
  refine ex_putf' hΦ fl_X0_26 o1 rfl rfl dX0_takeBack_25 hm5 ?_
  obtain ⟨o6, h⟩ := h
  refine ex_aload_n hΦ dX0_takeBack_28 rfl o6.1 ?_
  refine ex_aload_n hΦ dX0_takeBack_29 rfl o1.1 ?_
  refine ex_getf hΦ fl_X0_11 o1 dX0_takeBack_30 ?_
  refine ex_aload_n hΦ dX0_takeBack_33 rfl o1.1 ?_
  refine ex_getf hΦ fl_X0_18 o1 dX0_takeBack_34 ?_
  obtain ⟨o7, h⟩ := h
  refine ex_aald5' hΦ o7 dX0_takeBack_37 ?_
  refine ex_callVv [(2, (m5 (m5 x0 0) (m5 x0 1)))] [(2, (m5 (m5 x0 0) (m5 x0 1))), (2, x2)] hΦ lkV_X0_22 ⟨by decide, by decide⟩ (Nat.le_of_ble_eq_true rfl) rfl (by decide) 5 (by decide) rfl o6 dX0_takeBack_38 rfl h (fun μ8 h => ?_)
  exact ex_returnv hΦ hR dX0_takeBack_41 h
theorem eX2_put {G : Gm} {S : List Sh} {μ : Mem} {Q : Int → Mem → Prop} {x0 x1 x2 x3 : Int} (h : ∀ Φ : Fr, St G Φ cX2_put RX2 4 0 0 0 0 → Rt G Φ (Pi S Q) 0 0 (some .int) → Ex G Φ 4 0 [some (2, x0), some (0, x1), some (0, x2), some (0, x3)] [] S μ 0 0) : Ci G mX2_put [(2, x0), (0, x1), (0, x2), (0, x3)] S μ Q :=
  call_of' (plainFor_of_name (by decide +kernel)) [some (2, x0), some (0, x1), some (0, x2), some (0, x3)] rfl (Nat.le_of_ble_eq_true rfl) (fun Φ hΦ hR => h Φ hΦ hR)
theorem bX2_put_0 {G : Gm} {Φ : Fr} {S : List Sh} {μ : Mem} {Q : Int → Mem → Prop} (hΦ : St G Φ cX2_put RX2 4 0 0 0 0) (hR : Rt G Φ (Pi S Q) 0 0 (some .int)) {x0 x1 x2 x3 : Int} (h : So S x0 (.inl 2) ∧ (Aj S (μ x0 0) 0 ∧ (R32 (μ x0 3) ∧ (R32 (aln S (μ x0 0)) ∧ (((μ x0 3) < (aln S (μ x0 0)) → Ai S (μ x0 0) 0 (μ x0 3) ∧ (∀ m6 : Mem, m6 = mu μ (μ x0 0) (μ x0 3) x1 → (Ai S (m6 x0 1) 0 (m6 x0 3) ∧ (∀ m8 : Mem, m8 = mu m6 (m6 x0 1) (m6 x0 3) x2 → (Ai S (m8 x0 2) 0 (m8 x0 3) ∧ (∀ m10 : Mem, m10 = mu m8 (m8 x0 2) (m8 x0 3) x3 → (∀ m11 : Mem, m11 = mu m10 x0 3 ((m10 x0 3) + 1) → (Q (m11 x0 3) m11)))))))) ∧ (¬ ((μ x0 3) < (aln S (μ x0 0))) → Q (-1000000004) μ)))))) : Ex G Φ 4 0 [some (2, x0), some (0, x1), some (0, x2), some (0, x3)] [] S μ 0 0 := by
  obtain ⟨o1, h⟩ := h
  refine ex_aload_n hΦ dX2_put_0 rfl o1.1 ?_
  refine ex_getf hΦ fl_X2_27 o1 dX2_put_1 ?_
  refine ex_aload_n hΦ dX2_put_4 rfl o1.1 ?_
  refine ex_getf hΦ fl_X2_15 o1 dX2_put_5 ?_
  obtain ⟨o2, h⟩ := h
  refine ex_alen' hΦ o2 (by decide) dX2_put_8 ?_
  obtain ⟨o3, h⟩ := h
  obtain ⟨o4, h⟩ := h
  refine ex_icmp_lt 15 hΦ dX2_put_9 (by decide) o3 o4 (fun c => ?_) (fun c => ?_)
  · have h := h.1 c
    refine ex_aload_n hΦ dX2_put_15 rfl o1.1 ?_
    refine ex_getf hΦ fl_X2_15 o1 dX2_put_16 ?_
    refine ex_aload_n hΦ dX2_put_19 rfl o1.1 ?_
    refine ex_getf hΦ fl_X2_27 o1 dX2_put_20 ?_
    refine ex_iload_n hΦ dX2_put_23 rfl ?_
    obtain ⟨o5, h⟩ := h
    obtain ⟨m6, hm6⟩ : ∃ m : Mem, m = mu μ (μ x0 0) (μ x0 3) x1 := ⟨_, rfl⟩
    have h := h m6 hm6
    refine ex_iast'' hΦ o5 dX2_put_24 hm6 ?_
    refine ex_aload_n hΦ dX2_put_25 rfl o1.1 ?_
    refine ex_getf hΦ fl_X2_21 o1 dX2_put_26 ?_
    refine ex_aload_n hΦ dX2_put_29 rfl o1.1 ?_
    refine ex_getf hΦ fl_X2_27 o1 dX2_put_30 ?_
    refine ex_iload_n hΦ dX2_put_33 rfl ?_
    obtain ⟨o7, h⟩ := h
    obtain ⟨m8, hm8⟩ : ∃ m : Mem, m = mu m6 (m6 x0 1) (m6 x0 3) x2 := ⟨_, rfl⟩
    have h := h m8 hm8
    refine ex_iast'' hΦ o7 dX2_put_34 hm8 ?_
    refine ex_aload_n hΦ dX2_put_35 rfl o1.1 ?_
    refine ex_getf hΦ fl_X2_24 o1 dX2_put_36 ?_
    refine ex_aload_n hΦ dX2_put_39 rfl o1.1 ?_
    refine ex_getf hΦ fl_X2_27 o1 dX2_put_40 ?_
    refine ex_iload_n hΦ dX2_put_43 rfl ?_
    obtain ⟨o9, h⟩ := h
    obtain ⟨m10, hm10⟩ : ∃ m : Mem, m = mu m8 (m8 x0 2) (m8 x0 3) x3 := ⟨_, rfl⟩
    have h := h m10 hm10
    refine ex_iast'' hΦ o9 dX2_put_44 hm10 ?_
    refine ex_aload_n hΦ dX2_put_45 rfl o1.1 ?_
    refine ex_dup hΦ dX2_put_46 (Nat.ne_of_beq_eq_false rfl) ?_
    refine ex_getf hΦ fl_X2_27 o1 dX2_put_47 ?_
    refine ex_iconst hΦ dX2_put_50 ?_
    refine ex_iadd hΦ dX2_put_51 ?_
    obtain ⟨m11, hm11⟩ : ∃ m : Mem, m = mu m10 x0 3 ((m10 x0 3) + 1) := ⟨_, rfl⟩
    have h := h m11 hm11
    refine ex_putf' hΦ fl_X2_27 o1 rfl rfl dX2_put_52 hm11 ?_
    refine ex_aload_n hΦ dX2_put_55 rfl o1.1 ?_
    refine ex_getf hΦ fl_X2_27 o1 dX2_put_56 ?_
    exact ex_returni hΦ hR dX2_put_59 h
  · have h := h.2 c
    refine ex_ldc hΦ dX2_put_12 qw788 ?_
    exact ex_returni hΦ hR dX2_put_14 h
theorem eX3_turns {G : Gm} {S : List Sh} {μ : Mem} {Q : Int → Mem → Prop} {x0 x1 : Int} (h : ∀ Φ : Fr, St G Φ cX3_turns RX3 2 0 0 0 0 → Rt G Φ (Pi S Q) 0 0 (some .boolean) → Ex G Φ 2 0 [some (2, x0), some (0, x1)] [] S μ 0 0) : Ci G mX3_turns [(2, x0), (0, x1)] S μ Q :=
  call_of' (plainFor_of_name (by decide +kernel)) [some (2, x0), some (0, x1)] rfl (Nat.le_of_ble_eq_true rfl) (fun Φ hΦ hR => h Φ hΦ hR)
theorem bX3_turns_0 {G : Gm} {Φ : Fr} {S : List Sh} {μ : Mem} {Q : Int → Mem → Prop} (hΦ : St G Φ cX3_turns RX3 2 0 0 0 0) (hR : Rt G Φ (Pi S Q) 0 0 (some .boolean)) {x0 x1 : Int} (h : So S x0 (.inl 3) ∧ (R32 (μ x0 4) ∧ (0 ≤ x1 ∧ (x1 ≤ 31 ∧ (R32 (((μ x0 4) / 2 ^ (Int.toNat x1)) % 2) ∧ (((((μ x0 4) / 2 ^ (Int.toNat x1)) % 2) ≠ 1 → Q 0 μ) ∧ ((((μ x0 4) / 2 ^ (Int.toNat x1)) % 2) = 1 → Q 1 μ))))))) : Ex G Φ 2 0 [some (2, x0), some (0, x1)] [] S μ 0 0 := by
  obtain ⟨o1, h⟩ := h
  refine ex_aload_n hΦ dX3_turns_0 rfl o1.1 ?_
  refine ex_getf hΦ fl_X3_25 o1 dX3_turns_1 ?_
  refine ex_iload_n hΦ dX3_turns_4 rfl ?_
  obtain ⟨o2, h⟩ := h
  obtain ⟨o3, h⟩ := h
  obtain ⟨o4, h⟩ := h
  refine ex_ishr hΦ dX3_turns_5 o2 o3 o4 ?_
  refine ex_iconst hΦ dX3_turns_6 ?_
  refine ex_iand1 hΦ dX3_turns_7 ?_
  refine ex_iconst hΦ dX3_turns_8 ?_
  obtain ⟨o5, h⟩ := h
  refine ex_icmp_ne 16 hΦ dX3_turns_9 (by decide) o5 ⟨by decide, by decide⟩ (fun c => ?_) (fun c => ?_)
  · have h := h.1 c
    refine ex_iconst hΦ dX3_turns_16 ?_
    exact ex_returnz hΦ hR (by decide) (by decide) dX3_turns_17 h
  · have h := h.2 c
    refine ex_iconst hΦ dX3_turns_12 ?_
    refine ex_goto 17 hΦ dX3_turns_13 (by decide) ?_
    exact ex_returnz hΦ hR (by decide) (by decide) dX3_turns_17 h
theorem bX3_turnAlike_16 {G : Gm} {Φ : Fr} {S : List Sh} {μ : Mem} {Q : Int → Mem → Prop} (hΦ : St G Φ cX3_turnAlike RX3 3 0 0 0 0) (hR : Rt G Φ (Pi S Q) 0 0 (some .boolean)) {x0 x1 x2 t0 : Int} (h : So S x0 (.inl 3) ∧ (Ai S (μ x0 0) 1 x2 ∧ (R64 (μ (μ x0 0) x2) ∧ (((μ (μ x0 0) x2) ≤ 0 → R32 t0 ∧ ((t0 ≠ 0 → Q 0 μ) ∧ (t0 = 0 → Q 1 μ))) ∧ (¬ ((μ (μ x0 0) x2) ≤ 0) → R32 t0 ∧ ((t0 ≠ 1 → Q 0 μ) ∧ (t0 = 1 → Q 1 μ))))))) : Ex G Φ 3 16 [some (2, x0), some (0, x1), some (0, x2)] [(0, t0)] S μ 0 0 := by
  obtain ⟨o1, h⟩ := h
  refine ex_aload_n hΦ dX3_turnAlike_16 rfl o1.1 ?_
  refine ex_getf hΦ fl_X3_9 o1 dX3_turnAlike_17 ?_
  refine ex_iload_n hΦ dX3_turnAlike_20 rfl ?_
  obtain ⟨o2, h⟩ := h
  refine ex_lald' hΦ o2 dX3_turnAlike_21 ?_
  refine ex_lconst (x := 0) hΦ dX3_turnAlike_22 (by decide) ?_
  obtain ⟨o3, h⟩ := h
  refine ex_lcmp hΦ dX3_turnAlike_23 o3 ⟨by decide, by decide⟩ ?_
  refine ex_lif_le 31 hΦ dX3_turnAlike_24 (by decide) (fun c => ?_) (fun c => ?_)
  · have h := h.1 c
    refine ex_iconst hΦ dX3_turnAlike_31 ?_
    obtain ⟨o4, h⟩ := h
    refine ex_icmp_ne 39 hΦ dX3_turnAlike_32 (by decide) o4 ⟨by decide, by decide⟩ (fun c => ?_) (fun c => ?_)
    · have h := h.1 c
      refine ex_iconst hΦ dX3_turnAlike_39 ?_
      exact ex_returnz hΦ hR (by decide) (by decide) dX3_turnAlike_40 h
    · have h := h.2 c
      refine ex_iconst hΦ dX3_turnAlike_35 ?_
      refine ex_goto 40 hΦ dX3_turnAlike_36 (by decide) ?_
      exact ex_returnz hΦ hR (by decide) (by decide) dX3_turnAlike_40 h
  · have h := h.2 c
    refine ex_iconst hΦ dX3_turnAlike_27 ?_
    refine ex_goto 32 hΦ dX3_turnAlike_28 (by decide) ?_
    obtain ⟨o5, h⟩ := h
    refine ex_icmp_ne 39 hΦ dX3_turnAlike_32 (by decide) o5 ⟨by decide, by decide⟩ (fun c => ?_) (fun c => ?_)
    · have h := h.1 c
      refine ex_iconst hΦ dX3_turnAlike_39 ?_
      exact ex_returnz hΦ hR (by decide) (by decide) dX3_turnAlike_40 h
    · have h := h.2 c
      refine ex_iconst hΦ dX3_turnAlike_35 ?_
      refine ex_goto 40 hΦ dX3_turnAlike_36 (by decide) ?_
      exact ex_returnz hΦ hR (by decide) (by decide) dX3_turnAlike_40 h
theorem eX3_turnAlike {G : Gm} {S : List Sh} {μ : Mem} {Q : Int → Mem → Prop} {x0 x1 x2 : Int} (h : ∀ Φ : Fr, St G Φ cX3_turnAlike RX3 3 0 0 0 0 → Rt G Φ (Pi S Q) 0 0 (some .boolean) → Ex G Φ 3 0 [some (2, x0), some (0, x1), some (0, x2)] [] S μ 0 0) : Ci G mX3_turnAlike [(2, x0), (0, x1), (0, x2)] S μ Q :=
  call_of' (plainFor_of_name (by decide +kernel)) [some (2, x0), some (0, x1), some (0, x2)] rfl (Nat.le_of_ble_eq_true rfl) (fun Φ hΦ hR => h Φ hΦ hR)
theorem bX3_turnAlike_0 {G : Gm} {Φ : Fr} {S : List Sh} {μ : Mem} {Q : Int → Mem → Prop} (hΦ : St G Φ cX3_turnAlike RX3 3 0 0 0 0) (hR : Rt G Φ (Pi S Q) 0 0 (some .boolean)) {x0 x1 x2 : Int} (h : So S x0 (.inl 3) ∧ (Ai S (μ x0 0) 1 x1 ∧ (R64 (μ (μ x0 0) x1) ∧ (((μ (μ x0 0) x1) ≤ 0 → Ex G Φ 3 16 [some (2, x0), some (0, x1), some (0, x2)] [(0, 0)] S μ 0 0) ∧ (¬ ((μ (μ x0 0) x1) ≤ 0) → Ex G Φ 3 16 [some (2, x0), some (0, x1), some (0, x2)] [(0, 1)] S μ 0 0))))) : Ex G Φ 3 0 [some (2, x0), some (0, x1), some (0, x2)] [] S μ 0 0 := by
  obtain ⟨o1, h⟩ := h
  refine ex_aload_n hΦ dX3_turnAlike_0 rfl o1.1 ?_
  refine ex_getf hΦ fl_X3_9 o1 dX3_turnAlike_1 ?_
  refine ex_iload_n hΦ dX3_turnAlike_4 rfl ?_
  obtain ⟨o2, h⟩ := h
  refine ex_lald' hΦ o2 dX3_turnAlike_5 ?_
  refine ex_lconst (x := 0) hΦ dX3_turnAlike_6 (by decide) ?_
  obtain ⟨o3, h⟩ := h
  refine ex_lcmp hΦ dX3_turnAlike_7 o3 ⟨by decide, by decide⟩ ?_
  refine ex_lif_le 15 hΦ dX3_turnAlike_8 (by decide) (fun c => ?_) (fun c => ?_)
  · have h := h.1 c
    refine ex_iconst hΦ dX3_turnAlike_15 ?_
    exact h
  · have h := h.2 c
    refine ex_iconst hΦ dX3_turnAlike_11 ?_
    refine ex_goto 16 hΦ dX3_turnAlike_12 (by decide) ?_
    exact h
theorem bX3_reckon_34 {G : Gm} {Φ : Fr} {S : List Sh} {μ : Mem} {Q : Mem → Prop} (hΦ : St G Φ cX3_reckon RX3 5 4 111 0 0) (hR : Rt G Φ (Pv S Q) 0 0 none) {x0 x1 x2 x3 x4 : Int} (h : R32 x4 ∧ ((8 ≤ x4 → So S x0 (.inl 3) ∧ (R32 (μ x0 5) ∧ (((μ x0 5) = 0 → Q μ) ∧ (¬ ((μ x0 5) = 0) → Cv G mX3_restAll [(2, x0)] S μ (fun μ4 => Q μ4))))) ∧ (¬ (8 ≤ x4) → So S x0 (.inl 3) ∧ (R32 (μ x0 3) ∧ (((μ x0 3) ≤ x4 → R32 (μ x0 5) ∧ (((μ x0 5) = 0 → Q μ) ∧ (¬ ((μ x0 5) = 0) → Cv G mX3_restAll [(2, x0)] S μ (fun μ8 => Q μ8)))) ∧ (¬ ((μ x0 3) ≤ x4) → R32 (μ x0 5) ∧ (((μ x0 5) ≠ 0 → ((μ x0 5) = 0 → Q μ) ∧ (¬ ((μ x0 5) = 0) → Cv G mX3_restAll [(2, x0)] S μ (fun μ10 => Q μ10))) ∧ ((μ x0 5) = 0 → So S x1 (.inl 6) ∧ (Ai S (μ x0 2) 0 x4 ∧ Cv G mX3_spread [(2, x0), (2, x1), (0, (μ (μ x0 2) x4)), (0, x2), (0, x3)] S μ (fun μ13 => Ex G Φ 5 34 [some (2, x0), some (2, x1), some (0, x2), some (0, x3), some (0, (x4 + 1))] [] S μ13 0 0)))))))))) : Ex G Φ 5 34 [some (2, x0), some (2, x1), some (0, x2), some (0, x3), some (0, x4)] [] S μ 0 0 := by
  refine ex_iload hΦ dX3_reckon_34 rfl ?_
  refine ex_bipush hΦ dX3_reckon_36 (by decide) ?_
  obtain ⟨o1, h⟩ := h
  refine ex_icmp_ge 77 hΦ dX3_reckon_38 (by decide) o1 ⟨by decide, by decide⟩ (fun c => ?_) (fun c => ?_)
  · have h := h.1 c
    obtain ⟨o2, h⟩ := h
    refine ex_aload_n hΦ dX3_reckon_77 rfl o2.1 ?_
    refine ex_getf hΦ fl_X3_29 o2 dX3_reckon_78 ?_
    obtain ⟨o3, h⟩ := h
    refine ex_if_eq 88 hΦ dX3_reckon_81 (by decide) o3 (fun c => ?_) (fun c => ?_)
    · have h := h.1 c
      exact ex_returnv hΦ hR dX3_reckon_88 h
    · have h := h.2 c
      refine ex_aload_n hΦ dX3_reckon_84 rfl o2.1 ?_
      refine ex_callVv [] [(2, x0)] hΦ lkV_X3_22 ⟨by decide, by decide⟩ (Nat.le_of_ble_eq_true rfl) rfl (by decide) 3 (by decide) rfl o2 dX3_reckon_85 rfl h (fun μ4 h => ?_)
      exact ex_returnv hΦ hR dX3_reckon_88 h
  · have h := h.2 c
    refine ex_iload hΦ dX3_reckon_41 rfl ?_
    obtain ⟨o5, h⟩ := h
    refine ex_aload_n hΦ dX3_reckon_43 rfl o5.1 ?_
    refine ex_getf hΦ fl_X3_48 o5 dX3_reckon_44 ?_
    obtain ⟨o6, h⟩ := h
    refine ex_icmp_ge 77 hΦ dX3_reckon_47 (by decide) o1 o6 (fun c => ?_) (fun c => ?_)
    · have h := h.1 c
      refine ex_aload_n hΦ dX3_reckon_77 rfl o5.1 ?_
      refine ex_getf hΦ fl_X3_29 o5 dX3_reckon_78 ?_
      obtain ⟨o7, h⟩ := h
      refine ex_if_eq 88 hΦ dX3_reckon_81 (by decide) o7 (fun c => ?_) (fun c => ?_)
      · have h := h.1 c
        exact ex_returnv hΦ hR dX3_reckon_88 h
      · have h := h.2 c
        refine ex_aload_n hΦ dX3_reckon_84 rfl o5.1 ?_
        refine ex_callVv [] [(2, x0)] hΦ lkV_X3_22 ⟨by decide, by decide⟩ (Nat.le_of_ble_eq_true rfl) rfl (by decide) 3 (by decide) rfl o5 dX3_reckon_85 rfl h (fun μ8 h => ?_)
        exact ex_returnv hΦ hR dX3_reckon_88 h
    · have h := h.2 c
      refine ex_aload_n hΦ dX3_reckon_50 rfl o5.1 ?_
      refine ex_getf hΦ fl_X3_29 o5 dX3_reckon_51 ?_
      obtain ⟨o9, h⟩ := h
      refine ex_if_ne 77 hΦ dX3_reckon_54 (by decide) o9 (fun c => ?_) (fun c => ?_)
      · have h := h.1 c
        refine ex_aload_n hΦ dX3_reckon_77 rfl o5.1 ?_
        refine ex_getf hΦ fl_X3_29 o5 dX3_reckon_78 ?_
        refine ex_if_eq 88 hΦ dX3_reckon_81 (by decide) o9 (fun c => ?_) (fun c => ?_)
        · have h := h.1 c
          exact ex_returnv hΦ hR dX3_reckon_88 h
        · have h := h.2 c
          refine ex_aload_n hΦ dX3_reckon_84 rfl o5.1 ?_
          refine ex_callVv [] [(2, x0)] hΦ lkV_X3_22 ⟨by decide, by decide⟩ (Nat.le_of_ble_eq_true rfl) rfl (by decide) 3 (by decide) rfl o5 dX3_reckon_85 rfl h (fun μ10 h => ?_)
          exact ex_returnv hΦ hR dX3_reckon_88 h
      · have h := h.2 c
        refine ex_aload_n hΦ dX3_reckon_57 rfl o5.1 ?_
        obtain ⟨o11, h⟩ := h
        refine ex_aload_n hΦ dX3_reckon_58 rfl o11.1 ?_
        refine ex_aload_n hΦ dX3_reckon_59 rfl o5.1 ?_
        refine ex_getf hΦ fl_X3_18 o5 dX3_reckon_60 ?_
        refine ex_iload hΦ dX3_reckon_63 rfl ?_
        obtain ⟨o12, h⟩ := h
        refine ex_iald' hΦ o12 dX3_reckon_65 ?_
        refine ex_iload_n hΦ dX3_reckon_66 rfl ?_
        refine ex_iload_n hΦ dX3_reckon_67 rfl ?_
        refine ex_callVv [(2, x1), (0, (μ (μ x0 2) x4)), (0, x2), (0, x3)] [(0, x3), (0, x2), (0, (μ (μ x0 2) x4)), (2, x1), (2, x0)] hΦ lkV_X3_51 ⟨by decide, by decide⟩ (Nat.le_of_ble_eq_true rfl) rfl (by decide) 3 (by decide) rfl o5 dX3_reckon_68 rfl h (fun μ13 h => ?_)
        refine ex_iinc (L' := [some (2, x0), some (2, x1), some (0, x2), some (0, x3), some (0, (x4 + 1))]) hΦ dX3_reckon_71 rfl (by decide) rfl ?_
        refine ex_goto 34 hΦ dX3_reckon_74 (by decide) ?_
        exact h
theorem eX3_reckon {G : Gm} {S : List Sh} {μ : Mem} {Q : Mem → Prop} {x0 x1 x2 x3 : Int} (h : ∀ Φ : Fr, St G Φ cX3_reckon RX3 5 4 111 0 0 → Rt G Φ (Pv S Q) 0 0 none → Ex G Φ 5 0 [some (2, x0), some (2, x1), some (0, x2), some (0, x3), none] [] S μ 0 0) : Cv G mX3_reckon [(2, x0), (2, x1), (0, x2), (0, x3)] S μ Q :=
  call_of' (plainFor_of_name (by decide +kernel)) [some (2, x0), some (2, x1), some (0, x2), some (0, x3), none] rfl (Nat.le_of_ble_eq_true rfl) (fun Φ hΦ hR => h Φ hΦ hR)
theorem bX3_reckon_0 {G : Gm} {Φ : Fr} {S : List Sh} {μ : Mem} {Q : Mem → Prop} (hΦ : St G Φ cX3_reckon RX3 5 4 111 0 0) (hR : Rt G Φ (Pv S Q) 0 0 none) {x0 x1 x2 x3 : Int} (h : So S x0 (.inl 3) ∧ (Cv G mX3_restAll [(2, x0)] S μ (fun μ2 => ∀ m3 : Mem, m3 = mu μ2 x0 5 0 → (So S x1 (.inl 6) ∧ (R32 (m3 x1 0) ∧ (((m3 x1 0) ≠ 0 → R32 (m3 x1 4) ∧ Cv G mX3_reach [(2, x0), (0, (m3 x1 3)), (1, (m3 x1 4)), (1, 1)] S m3 (fun μ7 => Ex G Φ 5 34 [some (2, x0), some (2, x1), some (0, x2), some (0, x3), some (0, 0)] [] S μ7 0 0)) ∧ ((m3 x1 0) = 0 → Q m3))))))) : Ex G Φ 5 0 [some (2, x0), some (2, x1), some (0, x2), some (0, x3), none] [] S μ 0 0 := by
  obtain ⟨o1, h⟩ := h
  refine ex_aload_n hΦ dX3_reckon_0 rfl o1.1 ?_
  refine ex_callVv [] [(2, x0)] hΦ lkV_X3_22 ⟨by decide, by decide⟩ (Nat.le_of_ble_eq_true rfl) rfl (by decide) 3 (by decide) rfl o1 dX3_reckon_1 rfl h (fun μ2 h => ?_)
  refine ex_aload_n hΦ dX3_reckon_4 rfl o1.1 ?_
  refine ex_iconst hΦ dX3_reckon_5 ?_
  obtain ⟨m3, hm3⟩ : ∃ m : Mem, m = mu μ2 x0 5 0 := ⟨_, rfl⟩
  have h := h m3 hm3
  refine ex_putz' hΦ fl_X3_29 o1 rfl rfl (by decide) (by decide) dX3_reckon_6 hm3 ?_
  obtain ⟨o4, h⟩ := h
  refine ex_aload_n hΦ dX3_reckon_9 rfl o4.1 ?_
  refine ex_getf hΦ fl_X3_33 o4 dX3_reckon_10 ?_
  obtain ⟨o5, h⟩ := h
  refine ex_if_ne 17 hΦ dX3_reckon_13 (by decide) o5 (fun c => ?_) (fun c => ?_)
  · have h := h.1 c
    refine ex_aload_n hΦ dX3_reckon_17 rfl o1.1 ?_
    refine ex_aload_n hΦ dX3_reckon_18 rfl o4.1 ?_
    refine ex_getf hΦ fl_X3_38 o4 dX3_reckon_19 ?_
    refine ex_aload_n hΦ dX3_reckon_22 rfl o4.1 ?_
    refine ex_getf hΦ fl_X3_41 o4 dX3_reckon_23 ?_
    obtain ⟨o6, h⟩ := h
    refine ex_i2l hΦ dX3_reckon_26 o6 ?_
    refine ex_lconst (x := 1) hΦ dX3_reckon_27 (by decide) ?_
    refine ex_callVv [(0, (m3 x1 3)), (1, (m3 x1 4)), (1, 1)] [(1, 1), (1, (m3 x1 4)), (0, (m3 x1 3)), (2, x0)] hΦ lkV_X3_44 ⟨by decide, by decide⟩ (Nat.le_of_ble_eq_true rfl) rfl (by decide) 3 (by decide) rfl o1 dX3_reckon_28 rfl h (fun μ7 h => ?_)
    refine ex_iconst hΦ dX3_reckon_31 ?_
    refine ex_istore (L' := [some (2, x0), some (2, x1), some (0, x2), some (0, x3), some (0, 0)]) hΦ dX3_reckon_32 (by decide) rfl ?_
    exact h
  · have h := h.2 c
    exact ex_returnv hΦ hR dX3_reckon_16 h
theorem eX3_restAll {G : Gm} {S : List Sh} {μ : Mem} {Q : Mem → Prop} {x0 : Int} (h : ∀ Φ : Fr, St G Φ cX3_restAll RX3 1 1 24 0 0 → Rt G Φ (Pv S Q) 0 0 none → Ex G Φ 1 0 [some (2, x0)] [] S μ 0 0) : Cv G mX3_restAll [(2, x0)] S μ Q :=
  call_of' (plainFor_of_name (by decide +kernel)) [some (2, x0)] rfl (Nat.le_of_ble_eq_true rfl) (fun Φ hΦ hR => h Φ hΦ hR)
theorem bX3_restAll_0 {G : Gm} {Φ : Fr} {S : List Sh} {μ : Mem} {Q : Mem → Prop} (hΦ : St G Φ cX3_restAll RX3 1 1 24 0 0) (hR : Rt G Φ (Pv S Q) 0 0 none) {x0 : Int} (h : So S x0 (.inl 3) ∧ (Cv G mJ7_fill_d0a16 [(2, (μ x0 0)), (1, 0)] S μ (fun μ2 => Cv G mJ7_fill_d0a16 [(2, (μ2 x0 1)), (1, 1)] S μ2 (fun μ3 => ∀ m4 : Mem, m4 = mu μ3 x0 3 0 → (∀ m5 : Mem, m5 = mu m4 x0 4 0 → (Q m5)))))) : Ex G Φ 1 0 [some (2, x0)] [] S μ 0 0 := by
  obtain ⟨o1, h⟩ := h
  refine ex_aload_n hΦ dX3_restAll_0 rfl o1.1 ?_
  refine ex_getf hΦ fl_X3_9 o1 dX3_restAll_1 ?_
  refine ex_lconst (x := 0) hΦ dX3_restAll_4 (by decide) ?_
  refine ex_callSv [(2, (μ x0 0)), (1, 0)] [(1, 0), (2, (μ x0 0))] hΦ lkS_X3_55 ⟨by decide, by decide⟩ (Nat.le_of_ble_eq_true rfl) rfl (by decide) dX3_restAll_5 rfl h (fun μ2 h => ?_)
  refine ex_aload_n hΦ dX3_restAll_8 rfl o1.1 ?_
  refine ex_getf hΦ fl_X3_15 o1 dX3_restAll_9 ?_
  refine ex_lconst (x := 1) hΦ dX3_restAll_12 (by decide) ?_
  refine ex_callSv [(2, (μ2 x0 1)), (1, 1)] [(1, 1), (2, (μ2 x0 1))] hΦ lkS_X3_55 ⟨by decide, by decide⟩ (Nat.le_of_ble_eq_true rfl) rfl (by decide) dX3_restAll_13 rfl h (fun μ3 h => ?_)
  refine ex_aload_n hΦ dX3_restAll_16 rfl o1.1 ?_
  refine ex_iconst hΦ dX3_restAll_17 ?_
  obtain ⟨m4, hm4⟩ : ∃ m : Mem, m = mu μ3 x0 3 0 := ⟨_, rfl⟩
  have h := h m4 hm4
  refine ex_putf' hΦ fl_X3_48 o1 rfl rfl dX3_restAll_18 hm4 ?_
  refine ex_aload_n hΦ dX3_restAll_21 rfl o1.1 ?_
  refine ex_iconst hΦ dX3_restAll_22 ?_
  obtain ⟨m5, hm5⟩ : ∃ m : Mem, m = mu m4 x0 4 0 := ⟨_, rfl⟩
  have h := h m5 hm5
  refine ex_putf' hΦ fl_X3_25 o1 rfl rfl dX3_restAll_23 hm5 ?_
  exact ex_returnv hΦ hR dX3_restAll_26 h
theorem eX3_reach {G : Gm} {S : List Sh} {μ : Mem} {Q : Mem → Prop} {x0 x1 x2 x4 : Int} (h : ∀ Φ : Fr, St G Φ cX3_reach RX3 6 0 0 0 0 → Rt G Φ (Pv S Q) 0 0 none → Ex G Φ 6 0 [some (2, x0), some (0, x1), some (1, x2), none, some (1, x4), none] [] S μ 0 0) : Cv G mX3_reach [(2, x0), (0, x1), (1, x2), (1, x4)] S μ Q :=
  call_of' (plainFor_of_name (by decide +kernel)) [some (2, x0), some (0, x1), some (1, x2), none, some (1, x4), none] rfl (Nat.le_of_ble_eq_true rfl) (fun Φ hΦ hR => h Φ hΦ hR)
theorem bX3_reach_0 {G : Gm} {Φ : Fr} {S : List Sh} {μ : Mem} {Q : Mem → Prop} (hΦ : St G Φ cX3_reach RX3 6 0 0 0 0) (hR : Rt G Φ (Pv S Q) 0 0 none) {x0 x1 x2 x4 : Int} (h : So S x0 (.inl 3) ∧ (Ai S (μ x0 0) 1 x1 ∧ (∀ m3 : Mem, m3 = mu μ (μ x0 0) x1 x2 → (Ai S (m3 x0 1) 1 x1 ∧ (∀ m5 : Mem, m5 = mu m3 (m3 x0 1) x1 x4 → (0 ≤ x1 ∧ (x1 ≤ 31 ∧ (∀ m8 : Mem, m8 = mu m5 x0 4 (mor (m5 x0 4) (1 * 2 ^ (Int.toNat x1))) → (Ai S (m8 x0 2) 0 (m8 x0 3) ∧ (∀ m10 : Mem, m10 = mu m8 (m8 x0 2) (m8 x0 3) x1 → (∀ m11 : Mem, m11 = mu m10 x0 3 ((m10 x0 3) + 1) → (Q m11)))))))))))) : Ex G Φ 6 0 [some (2, x0), some (0, x1), some (1, x2), none, some (1, x4), none] [] S μ 0 0 := by
  obtain ⟨o1, h⟩ := h
  refine ex_aload_n hΦ dX3_reach_0 rfl o1.1 ?_
  refine ex_getf hΦ fl_X3_9 o1 dX3_reach_1 ?_
  refine ex_iload_n hΦ dX3_reach_4 rfl ?_
  refine ex_lload_n hΦ dX3_reach_5 rfl ?_
  obtain ⟨o2, h⟩ := h
  obtain ⟨m3, hm3⟩ : ∃ m : Mem, m = mu μ (μ x0 0) x1 x2 := ⟨_, rfl⟩
  have h := h m3 hm3
  refine ex_last'' hΦ o2 dX3_reach_6 hm3 ?_
  refine ex_aload_n hΦ dX3_reach_7 rfl o1.1 ?_
  refine ex_getf hΦ fl_X3_15 o1 dX3_reach_8 ?_
  refine ex_iload_n hΦ dX3_reach_11 rfl ?_
  refine ex_lload hΦ dX3_reach_12 rfl ?_
  obtain ⟨o4, h⟩ := h
  obtain ⟨m5, hm5⟩ : ∃ m : Mem, m = mu m3 (m3 x0 1) x1 x4 := ⟨_, rfl⟩
  have h := h m5 hm5
  refine ex_last'' hΦ o4 dX3_reach_14 hm5 ?_
  refine ex_aload_n hΦ dX3_reach_15 rfl o1.1 ?_
  refine ex_dup hΦ dX3_reach_16 (Nat.ne_of_beq_eq_false rfl) ?_
  refine ex_getf hΦ fl_X3_25 o1 dX3_reach_17 ?_
  refine ex_iconst hΦ dX3_reach_20 ?_
  refine ex_iload_n hΦ dX3_reach_21 rfl ?_
  obtain ⟨o6, h⟩ := h
  obtain ⟨o7, h⟩ := h
  refine ex_ishl hΦ dX3_reach_22 o6 o7 ?_
  refine ex_ior hΦ dX3_reach_23 ?_
  obtain ⟨m8, hm8⟩ : ∃ m : Mem, m = mu m5 x0 4 (mor (m5 x0 4) (1 * 2 ^ (Int.toNat x1))) := ⟨_, rfl⟩
  have h := h m8 hm8
  refine ex_putf' hΦ fl_X3_25 o1 rfl rfl dX3_reach_24 hm8 ?_
  refine ex_aload_n hΦ dX3_reach_27 rfl o1.1 ?_
  refine ex_getf hΦ fl_X3_18 o1 dX3_reach_28 ?_
  refine ex_aload_n hΦ dX3_reach_31 rfl o1.1 ?_
  refine ex_getf hΦ fl_X3_48 o1 dX3_reach_32 ?_
  refine ex_iload_n hΦ dX3_reach_35 rfl ?_
  obtain ⟨o9, h⟩ := h
  obtain ⟨m10, hm10⟩ : ∃ m : Mem, m = mu m8 (m8 x0 2) (m8 x0 3) x1 := ⟨_, rfl⟩
  have h := h m10 hm10
  refine ex_iast'' hΦ o9 dX3_reach_36 hm10 ?_
  refine ex_aload_n hΦ dX3_reach_37 rfl o1.1 ?_
  refine ex_dup hΦ dX3_reach_38 (Nat.ne_of_beq_eq_false rfl) ?_
  refine ex_getf hΦ fl_X3_48 o1 dX3_reach_39 ?_
  refine ex_iconst hΦ dX3_reach_42 ?_
  refine ex_iadd hΦ dX3_reach_43 ?_
  obtain ⟨m11, hm11⟩ : ∃ m : Mem, m = mu m10 x0 3 ((m10 x0 3) + 1) := ⟨_, rfl⟩
  have h := h m11 hm11
  refine ex_putf' hΦ fl_X3_48 o1 rfl rfl dX3_reach_44 hm11 ?_
  exact ex_returnv hΦ hR dX3_reach_47 h
theorem bX3_spread_3 {G : Gm} {Φ : Fr} {S : List Sh} {μ : Mem} {Q : Mem → Prop} (hΦ : St G Φ cX3_spread RX3 8 3 84 0 0) (hR : Rt G Φ (Pv S Q) 0 0 none) {x0 x1 x2 x3 x4 x5 : Int} (h : R32 x5 ∧ ((10 < x5 → Q μ) ∧ (¬ (10 < x5) → R32 x3 ∧ (0 ≤ x5 ∧ (x5 ≤ 31 ∧ (R32 ((x3 / 2 ^ (Int.toNat x5)) % 2) ∧ ((((x3 / 2 ^ (Int.toNat x5)) % 2) ≠ 1 → Ex G Φ 8 31 [some (2, x0), some (2, x1), some (0, x2), some (0, x3), some (0, x4), some (0, x5), none, none] [(0, (-1))] S μ 0 0) ∧ (((x3 / 2 ^ (Int.toNat x5)) % 2) = 1 → So S x1 (.inl 6) ∧ Ci G mX6_across [(2, x1), (0, x5), (0, x2)] S μ (fun r7 μ7 => Ex G Φ 8 31 [some (2, x0), some (2, x1), some (0, x2), some (0, x3), some (0, x4), some (0, x5), none, none] [(0, r7)] S μ7 0 0))))))))) : Ex G Φ 8 3 [some (2, x0), some (2, x1), some (0, x2), some (0, x3), some (0, x4), some (0, x5), none, none] [] S μ 0 0 := by
  refine ex_iload hΦ dX3_spread_3 rfl ?_
  refine ex_bipush hΦ dX3_spread_5 (by decide) ?_
  obtain ⟨o1, h⟩ := h
  refine ex_icmp_gt 91 hΦ dX3_spread_7 (by decide) o1 ⟨by decide, by decide⟩ (fun c => ?_) (fun c => ?_)
  · have h := h.1 c
    exact ex_returnv hΦ hR dX3_spread_91 h
  · have h := h.2 c
    refine ex_iload_n hΦ dX3_spread_10 rfl ?_
    refine ex_iload hΦ dX3_spread_11 rfl ?_
    obtain ⟨o2, h⟩ := h
    obtain ⟨o3, h⟩ := h
    obtain ⟨o4, h⟩ := h
    refine ex_ishr hΦ dX3_spread_13 o2 o3 o4 ?_
    refine ex_iconst hΦ dX3_spread_14 ?_
    refine ex_iand1 hΦ dX3_spread_15 ?_
    refine ex_iconst hΦ dX3_spread_16 ?_
    obtain ⟨o5, h⟩ := h
    refine ex_icmp_ne 30 hΦ dX3_spread_17 (by decide) o5 ⟨by decide, by decide⟩ (fun c => ?_) (fun c => ?_)
    · have h := h.1 c
      refine ex_iconst hΦ dX3_spread_30 ?_
      exact h
    · have h := h.2 c
      obtain ⟨o6, h⟩ := h
      refine ex_aload_n hΦ dX3_spread_20 rfl o6.1 ?_
      refine ex_iload hΦ dX3_spread_21 rfl ?_
      refine ex_iload_n hΦ dX3_spread_23 rfl ?_
      refine ex_callVi [(0, x5), (0, x2)] [(0, x2), (0, x5), (2, x1)] hΦ lkV_X3_61 ⟨by decide, by decide⟩ (Nat.le_of_ble_eq_true rfl) rfl (by decide) 6 (by decide) rfl o6 dX3_spread_24 rfl h (fun r7 μ7 h => ?_)
      refine ex_goto 31 hΦ dX3_spread_27 (by decide) ?_
      exact h
theorem bX3_spread_31 {G : Gm} {Φ : Fr} {S : List Sh} {μ : Mem} {Q : Mem → Prop} (hΦ : St G Φ cX3_spread RX3 8 3 84 0 0) (hR : Rt G Φ (Pv S Q) 0 0 none) {x0 x1 x2 x3 x4 x5 t0 : Int} (h : R32 t0 ∧ ((t0 = (-1) → Ex G Φ 8 3 [some (2, x0), some (2, x1), some (0, x2), some (0, x3), some (0, x4), some (0, (x5 + 1)), none, none] [] S μ 0 0) ∧ (¬ (t0 = (-1)) → R32 x4 ∧ (0 ≤ x5 ∧ (x5 ≤ 31 ∧ (R32 ((x4 / 2 ^ (Int.toNat x5)) % 2) ∧ ((((x4 / 2 ^ (Int.toNat x5)) % 2) ≠ 1 → So S x1 (.inl 6) ∧ (Ai S (μ x1 8) 0 x5 ∧ Ex G Φ 8 61 [some (2, x0), some (2, x1), some (0, x2), some (0, x3), some (0, x4), some (0, x5), some (0, t0), none] [(0, (μ (μ x1 8) x5))] S μ 0 0)) ∧ (((x4 / 2 ^ (Int.toNat x5)) % 2) = 1 → Ex G Φ 8 61 [some (2, x0), some (2, x1), some (0, x2), some (0, x3), some (0, x4), some (0, x5), some (0, t0), none] [(0, 1)] S μ 0 0)))))))) : Ex G Φ 8 31 [some (2, x0), some (2, x1), some (0, x2), some (0, x3), some (0, x4), some (0, x5), none, none] [(0, t0)] S μ 0 0 := by
  refine ex_istore (L' := [some (2, x0), some (2, x1), some (0, x2), some (0, x3), some (0, x4), some (0, x5), some (0, t0), none]) hΦ dX3_spread_31 (by decide) rfl ?_
  refine ex_iload hΦ dX3_spread_33 rfl ?_
  refine ex_iconst hΦ dX3_spread_35 ?_
  obtain ⟨o1, h⟩ := h
  refine ex_icmp_eq 85 hΦ dX3_spread_36 (by decide) o1 ⟨by decide, by decide⟩ (fun c => ?_) (fun c => ?_)
  · have h := h.1 c
    refine ex_iinc (L' := [some (2, x0), some (2, x1), some (0, x2), some (0, x3), some (0, x4), some (0, (x5 + 1)), some (0, t0), none]) hΦ dX3_spread_85 rfl (by decide) rfl ?_
    refine ex_goto 3 hΦ dX3_spread_88 (by decide) ?_
    refine ex_forget (L' := [some (2, x0), some (2, x1), some (0, x2), some (0, x3), some (0, x4), some (0, (x5 + 1)), none, none]) [6] rfl ?_
    exact h
  · have h := h.2 c
    refine ex_iload hΦ dX3_spread_39 rfl ?_
    refine ex_iload hΦ dX3_spread_41 rfl ?_
    obtain ⟨o2, h⟩ := h
    obtain ⟨o3, h⟩ := h
    obtain ⟨o4, h⟩ := h
    refine ex_ishr hΦ dX3_spread_43 o2 o3 o4 ?_
    refine ex_iconst hΦ dX3_spread_44 ?_
    refine ex_iand1 hΦ dX3_spread_45 ?_
    refine ex_iconst hΦ dX3_spread_46 ?_
    obtain ⟨o5, h⟩ := h
    refine ex_icmp_ne 54 hΦ dX3_spread_47 (by decide) o5 ⟨by decide, by decide⟩ (fun c => ?_) (fun c => ?_)
    · have h := h.1 c
      obtain ⟨o6, h⟩ := h
      refine ex_aload_n hΦ dX3_spread_54 rfl o6.1 ?_
      refine ex_getf hΦ fl_X3_65 o6 dX3_spread_55 ?_
      refine ex_iload hΦ dX3_spread_58 rfl ?_
      obtain ⟨o7, h⟩ := h
      refine ex_iald' hΦ o7 dX3_spread_60 ?_
      exact h
    · have h := h.2 c
      refine ex_iconst hΦ dX3_spread_50 ?_
      refine ex_goto 61 hΦ dX3_spread_51 (by decide) ?_
      exact h
theorem bX3_spread_61 {G : Gm} {Φ : Fr} {S : List Sh} {μ : Mem} {Q : Mem → Prop} (hΦ : St G Φ cX3_spread RX3 8 3 84 0 0) (hR : Rt G Φ (Pv S Q) 0 0 none) {x0 x1 x2 x3 x4 x5 x6 t0 : Int} (h : So S x0 (.inl 3) ∧ (So S x1 (.inl 6) ∧ (Ai S (μ x1 5) 0 x2 ∧ (Ai S (μ x1 5) 0 x6 ∧ Cv G mX3_carry [(2, x0), (0, t0), (0, x2), (0, x6), (0, (μ (μ x1 5) x2)), (0, (μ (μ x1 5) x6))] S μ (fun μ5 => Ex G Φ 8 3 [some (2, x0), some (2, x1), some (0, x2), some (0, x3), some (0, x4), some (0, (x5 + 1)), none, none] [] S μ5 0 0))))) : Ex G Φ 8 61 [some (2, x0), some (2, x1), some (0, x2), some (0, x3), some (0, x4), some (0, x5), some (0, x6), none] [(0, t0)] S μ 0 0 := by
  refine ex_istore (L' := [some (2, x0), some (2, x1), some (0, x2), some (0, x3), some (0, x4), some (0, x5), some (0, x6), some (0, t0)]) hΦ dX3_spread_61 (by decide) rfl ?_
  obtain ⟨o1, h⟩ := h
  refine ex_aload_n hΦ dX3_spread_63 rfl o1.1 ?_
  refine ex_iload hΦ dX3_spread_64 rfl ?_
  refine ex_iload_n hΦ dX3_spread_66 rfl ?_
  refine ex_iload hΦ dX3_spread_67 rfl ?_
  obtain ⟨o2, h⟩ := h
  refine ex_aload_n hΦ dX3_spread_69 rfl o2.1 ?_
  refine ex_getf hΦ fl_X3_68 o2 dX3_spread_70 ?_
  refine ex_iload_n hΦ dX3_spread_73 rfl ?_
  obtain ⟨o3, h⟩ := h
  refine ex_iald' hΦ o3 dX3_spread_74 ?_
  refine ex_aload_n hΦ dX3_spread_75 rfl o2.1 ?_
  refine ex_getf hΦ fl_X3_68 o2 dX3_spread_76 ?_
  refine ex_iload hΦ dX3_spread_79 rfl ?_
  obtain ⟨o4, h⟩ := h
  refine ex_iald' hΦ o4 dX3_spread_81 ?_
  refine ex_callVv [(0, t0), (0, x2), (0, x6), (0, (μ (μ x1 5) x2)), (0, (μ (μ x1 5) x6))] [(0, (μ (μ x1 5) x6)), (0, (μ (μ x1 5) x2)), (0, x6), (0, x2), (0, t0), (2, x0)] hΦ lkV_X3_71 ⟨by decide, by decide⟩ (Nat.le_of_ble_eq_true rfl) rfl (by decide) 3 (by decide) rfl o1 dX3_spread_82 rfl h (fun μ5 h => ?_)
  refine ex_iinc (L' := [some (2, x0), some (2, x1), some (0, x2), some (0, x3), some (0, x4), some (0, (x5 + 1)), some (0, x6), some (0, t0)]) hΦ dX3_spread_85 rfl (by decide) rfl ?_
  refine ex_goto 3 hΦ dX3_spread_88 (by decide) ?_
  refine ex_forget (L' := [some (2, x0), some (2, x1), some (0, x2), some (0, x3), some (0, x4), some (0, (x5 + 1)), none, none]) [6, 7] rfl ?_
  exact h
theorem eX3_spread {G : Gm} {S : List Sh} {μ : Mem} {Q : Mem → Prop} {x0 x1 x2 x3 x4 : Int} (h : ∀ Φ : Fr, St G Φ cX3_spread RX3 8 3 84 0 0 → Rt G Φ (Pv S Q) 0 0 none → Ex G Φ 8 0 [some (2, x0), some (2, x1), some (0, x2), some (0, x3), some (0, x4), none, none, none] [] S μ 0 0) : Cv G mX3_spread [(2, x0), (2, x1), (0, x2), (0, x3), (0, x4)] S μ Q :=
  call_of' (plainFor_of_name (by decide +kernel)) [some (2, x0), some (2, x1), some (0, x2), some (0, x3), some (0, x4), none, none, none] rfl (Nat.le_of_ble_eq_true rfl) (fun Φ hΦ hR => h Φ hΦ hR)
theorem bX3_spread_0 {G : Gm} {Φ : Fr} {S : List Sh} {μ : Mem} {Q : Mem → Prop} (hΦ : St G Φ cX3_spread RX3 8 3 84 0 0) (hR : Rt G Φ (Pv S Q) 0 0 none) {x0 x1 x2 x3 x4 : Int} (h : Ex G Φ 8 3 [some (2, x0), some (2, x1), some (0, x2), some (0, x3), some (0, x4), some (0, 0), none, none] [] S μ 0 0) : Ex G Φ 8 0 [some (2, x0), some (2, x1), some (0, x2), some (0, x3), some (0, x4), none, none, none] [] S μ 0 0 := by
  refine ex_iconst hΦ dX3_spread_0 ?_
  refine ex_istore (L' := [some (2, x0), some (2, x1), some (0, x2), some (0, x3), some (0, x4), some (0, 0), none, none]) hΦ dX3_spread_1 (by decide) rfl ?_
  exact h
theorem bX3_carry_20 {G : Gm} {Φ : Fr} {S : List Sh} {μ : Mem} {Q : Mem → Prop} (hΦ : St G Φ cX3_carry RX3 12 2 53 0 0) (hR : Rt G Φ (Pv S Q) 0 0 none) {x0 x1 x2 x3 x4 x5 t0 : Int} (h : So S x0 (.inl 3) ∧ (Ai S (μ x0 1) 1 x2 ∧ (R32 x1 ∧ ((x1 ≠ 2 → Ex G Φ 12 74 [some (2, x0), some (0, x1), some (0, x2), some (0, x3), some (0, x4), some (0, x5), some (1, t0), none, some (1, (μ (μ x0 1) x2)), none, none, none] [] S μ 0 0) ∧ (x1 = 2 → R32 x5 ∧ (R32 x4 ∧ (Cj G mX7_common [(1, (t0 * x5)), (1, ((μ (μ x0 1) x2) * x4))] S μ (fun r6 μ6 => R64 (t0 * x5) ∧ (R64 r6 ∧ (r6 ≠ 0 ∧ (R64 ((μ (μ x0 1) x2) * x4) ∧ Ex G Φ 12 74 [some (2, x0), some (0, x1), some (0, x2), some (0, x3), some (0, x4), some (0, x5), some (1, (Int.tdiv (t0 * x5) r6)), none, some (1, (Int.tdiv ((μ (μ x0 1) x2) * x4) r6)), none, none, none] [] S μ6 0 0))))))))))) : Ex G Φ 12 20 [some (2, x0), some (0, x1), some (0, x2), some (0, x3), some (0, x4), some (0, x5), none, none, none, none, none, none] [(1, t0)] S μ 0 0 := by
  refine ex_lstore (L' := [some (2, x0), some (0, x1), some (0, x2), some (0, x3), some (0, x4), some (0, x5), some (1, t0), none, none, none, none, none]) hΦ dX3_carry_20 (by decide) rfl ?_
  obtain ⟨o1, h⟩ := h
  refine ex_aload_n hΦ dX3_carry_22 rfl o1.1 ?_
  refine ex_getf hΦ fl_X3_15 o1 dX3_carry_23 ?_
  refine ex_iload_n hΦ dX3_carry_26 rfl ?_
  obtain ⟨o2, h⟩ := h
  refine ex_lald' hΦ o2 dX3_carry_27 ?_
  refine ex_lstore (L' := [some (2, x0), some (0, x1), some (0, x2), some (0, x3), some (0, x4), some (0, x5), some (1, t0), none, some (1, (μ (μ x0 1) x2)), none, none, none]) hΦ dX3_carry_28 (by decide) rfl ?_
  refine ex_iload_n hΦ dX3_carry_30 rfl ?_
  refine ex_iconst hΦ dX3_carry_31 ?_
  obtain ⟨o3, h⟩ := h
  refine ex_icmp_ne 74 hΦ dX3_carry_32 (by decide) o3 ⟨by decide, by decide⟩ (fun c => ?_) (fun c => ?_)
  · have h := h.1 c
    exact h
  · have h := h.2 c
    refine ex_lload hΦ dX3_carry_35 rfl ?_
    refine ex_iload hΦ dX3_carry_37 rfl ?_
    obtain ⟨o4, h⟩ := h
    refine ex_i2l hΦ dX3_carry_39 o4 ?_
    refine ex_lmul hΦ dX3_carry_40 ?_
    refine ex_lstore (L' := [some (2, x0), some (0, x1), some (0, x2), some (0, x3), some (0, x4), some (0, x5), some (1, (t0 * x5)), none, some (1, (μ (μ x0 1) x2)), none, none, none]) hΦ dX3_carry_41 (by decide) rfl ?_
    refine ex_lload hΦ dX3_carry_43 rfl ?_
    refine ex_iload hΦ dX3_carry_45 rfl ?_
    obtain ⟨o5, h⟩ := h
    refine ex_i2l hΦ dX3_carry_47 o5 ?_
    refine ex_lmul hΦ dX3_carry_48 ?_
    refine ex_lstore (L' := [some (2, x0), some (0, x1), some (0, x2), some (0, x3), some (0, x4), some (0, x5), some (1, (t0 * x5)), none, some (1, ((μ (μ x0 1) x2) * x4)), none, none, none]) hΦ dX3_carry_49 (by decide) rfl ?_
    refine ex_lload hΦ dX3_carry_51 rfl ?_
    refine ex_lload hΦ dX3_carry_53 rfl ?_
    refine ex_callSNj [(1, (t0 * x5)), (1, ((μ (μ x0 1) x2) * x4))] [(1, ((μ (μ x0 1) x2) * x4)), (1, (t0 * x5))] hΦ lkSN_X3_75 ⟨by decide, by decide⟩ (Nat.le_of_ble_eq_true rfl) rfl (by decide) dX3_carry_55 rfl h (fun r6 μ6 h => ?_)
    refine ex_lstore (L' := [some (2, x0), some (0, x1), some (0, x2), some (0, x3), some (0, x4), some (0, x5), some (1, (t0 * x5)), none, some (1, ((μ (μ x0 1) x2) * x4)), none, some (1, r6), none]) hΦ dX3_carry_58 (by decide) rfl ?_
    refine ex_lload hΦ dX3_carry_60 rfl ?_
    refine ex_lload hΦ dX3_carry_62 rfl ?_
    obtain ⟨o7, h⟩ := h
    obtain ⟨o8, h⟩ := h
    obtain ⟨o9, h⟩ := h
    refine ex_ldiv hΦ dX3_carry_64 o7 o8 o9 ?_
    refine ex_lstore (L' := [some (2, x0), some (0, x1), some (0, x2), some (0, x3), some (0, x4), some (0, x5), some (1, (Int.tdiv (t0 * x5) r6)), none, some (1, ((μ (μ x0 1) x2) * x4)), none, some (1, r6), none]) hΦ dX3_carry_65 (by decide) rfl ?_
    refine ex_lload hΦ dX3_carry_67 rfl ?_
    refine ex_lload hΦ dX3_carry_69 rfl ?_
    obtain ⟨o10, h⟩ := h
    refine ex_ldiv hΦ dX3_carry_71 o10 o8 o9 ?_
    refine ex_lstore (L' := [some (2, x0), some (0, x1), some (0, x2), some (0, x3), some (0, x4), some (0, x5), some (1, (Int.tdiv (t0 * x5) r6)), none, some (1, (Int.tdiv ((μ (μ x0 1) x2) * x4) r6)), none, some (1, r6), none]) hΦ dX3_carry_72 (by decide) rfl ?_
    refine ex_forget (L' := [some (2, x0), some (0, x1), some (0, x2), some (0, x3), some (0, x4), some (0, x5), some (1, (Int.tdiv (t0 * x5) r6)), none, some (1, (Int.tdiv ((μ (μ x0 1) x2) * x4) r6)), none, none, none]) [10] rfl ?_
    exact h
theorem bX3_carry_74 {G : Gm} {Φ : Fr} {S : List Sh} {μ : Mem} {Q : Mem → Prop} (hΦ : St G Φ cX3_carry RX3 12 2 53 0 0) (hR : Rt G Φ (Pv S Q) 0 0 none) {x0 x1 x2 x3 x4 x5 x6 x8 : Int} (h : So S x0 (.inl 3) ∧ (Ci G mX3_turns [(2, x0), (0, x3)] S μ (fun r2 μ2 => R32 r2 ∧ ((r2 ≠ 0 → Ai S (μ2 x0 0) 1 x3 ∧ (R64 (μ2 (μ2 x0 0) x3) ∧ (R64 x6 ∧ (((μ2 (μ2 x0 0) x3) ≠ x6 → ∀ m7 : Mem, m7 = mu μ2 x0 5 1 → (Q m7)) ∧ ((μ2 (μ2 x0 0) x3) = x6 → Ai S (μ2 x0 1) 1 x3 ∧ (R64 (μ2 (μ2 x0 1) x3) ∧ (R64 x8 ∧ (((μ2 (μ2 x0 1) x3) = x8 → Q μ2) ∧ (¬ ((μ2 (μ2 x0 1) x3) = x8) → ∀ m11 : Mem, m11 = mu μ2 x0 5 1 → (Q m11)))))))))) ∧ (r2 = 0 → Cv G mX3_reach [(2, x0), (0, x3), (1, x6), (1, x8)] S μ2 (fun μ12 => Q μ12)))))) : Ex G Φ 12 74 [some (2, x0), some (0, x1), some (0, x2), some (0, x3), some (0, x4), some (0, x5), some (1, x6), none, some (1, x8), none, none, none] [] S μ 0 0 := by
  obtain ⟨o1, h⟩ := h
  refine ex_aload_n hΦ dX3_carry_74 rfl o1.1 ?_
  refine ex_iload_n hΦ dX3_carry_75 rfl ?_
  refine ex_callVi [(0, x3)] [(0, x3), (2, x0)] hΦ lkV_X3_79 ⟨by decide, by decide⟩ (Nat.le_of_ble_eq_true rfl) rfl (by decide) 3 (by decide) rfl o1 dX3_carry_76 rfl h (fun r2 μ2 h => ?_)
  obtain ⟨o3, h⟩ := h
  refine ex_if_ne 94 hΦ dX3_carry_79 (by decide) o3 (fun c => ?_) (fun c => ?_)
  · have h := h.1 c
    refine ex_aload_n hΦ dX3_carry_94 rfl o1.1 ?_
    refine ex_getf hΦ fl_X3_9 o1 dX3_carry_95 ?_
    refine ex_iload_n hΦ dX3_carry_98 rfl ?_
    obtain ⟨o4, h⟩ := h
    refine ex_lald' hΦ o4 dX3_carry_99 ?_
    refine ex_lload hΦ dX3_carry_100 rfl ?_
    obtain ⟨o5, h⟩ := h
    obtain ⟨o6, h⟩ := h
    refine ex_lcmp hΦ dX3_carry_102 o5 o6 ?_
    refine ex_lif_ne 118 hΦ dX3_carry_103 (by decide) (fun c => ?_) (fun c => ?_)
    · have h := h.1 c
      refine ex_aload_n hΦ dX3_carry_118 rfl o1.1 ?_
      refine ex_iconst hΦ dX3_carry_119 ?_
      obtain ⟨m7, hm7⟩ : ∃ m : Mem, m = mu μ2 x0 5 1 := ⟨_, rfl⟩
      have h := h m7 hm7
      refine ex_putz' hΦ fl_X3_29 o1 rfl rfl (by decide) (by decide) dX3_carry_120 hm7 ?_
      exact ex_returnv hΦ hR dX3_carry_123 h
    · have h := h.2 c
      refine ex_aload_n hΦ dX3_carry_106 rfl o1.1 ?_
      refine ex_getf hΦ fl_X3_15 o1 dX3_carry_107 ?_
      refine ex_iload_n hΦ dX3_carry_110 rfl ?_
      obtain ⟨o8, h⟩ := h
      refine ex_lald' hΦ o8 dX3_carry_111 ?_
      refine ex_lload hΦ dX3_carry_112 rfl ?_
      obtain ⟨o9, h⟩ := h
      obtain ⟨o10, h⟩ := h
      refine ex_lcmp hΦ dX3_carry_114 o9 o10 ?_
      refine ex_lif_eq 123 hΦ dX3_carry_115 (by decide) (fun c => ?_) (fun c => ?_)
      · have h := h.1 c
        exact ex_returnv hΦ hR dX3_carry_123 h
      · have h := h.2 c
        refine ex_aload_n hΦ dX3_carry_118 rfl o1.1 ?_
        refine ex_iconst hΦ dX3_carry_119 ?_
        obtain ⟨m11, hm11⟩ : ∃ m : Mem, m = mu μ2 x0 5 1 := ⟨_, rfl⟩
        have h := h m11 hm11
        refine ex_putz' hΦ fl_X3_29 o1 rfl rfl (by decide) (by decide) dX3_carry_120 hm11 ?_
        exact ex_returnv hΦ hR dX3_carry_123 h
  · have h := h.2 c
    refine ex_aload_n hΦ dX3_carry_82 rfl o1.1 ?_
    refine ex_iload_n hΦ dX3_carry_83 rfl ?_
    refine ex_lload hΦ dX3_carry_84 rfl ?_
    refine ex_lload hΦ dX3_carry_86 rfl ?_
    refine ex_callVv [(0, x3), (1, x6), (1, x8)] [(1, x8), (1, x6), (0, x3), (2, x0)] hΦ lkV_X3_44 ⟨by decide, by decide⟩ (Nat.le_of_ble_eq_true rfl) rfl (by decide) 3 (by decide) rfl o1 dX3_carry_88 rfl h (fun μ12 h => ?_)
    refine ex_goto 123 hΦ dX3_carry_91 (by decide) ?_
    exact ex_returnv hΦ hR dX3_carry_123 h
theorem eX3_carry {G : Gm} {S : List Sh} {μ : Mem} {Q : Mem → Prop} {x0 x1 x2 x3 x4 x5 : Int} (h : ∀ Φ : Fr, St G Φ cX3_carry RX3 12 2 53 0 0 → Rt G Φ (Pv S Q) 0 0 none → Ex G Φ 12 0 [some (2, x0), some (0, x1), some (0, x2), some (0, x3), some (0, x4), some (0, x5), none, none, none, none, none, none] [] S μ 0 0) : Cv G mX3_carry [(2, x0), (0, x1), (0, x2), (0, x3), (0, x4), (0, x5)] S μ Q :=
  call_of' (plainFor_of_name (by decide +kernel)) [some (2, x0), some (0, x1), some (0, x2), some (0, x3), some (0, x4), some (0, x5), none, none, none, none, none, none] rfl (Nat.le_of_ble_eq_true rfl) (fun Φ hΦ hR => h Φ hΦ hR)
theorem bX3_carry_0 {G : Gm} {Φ : Fr} {S : List Sh} {μ : Mem} {Q : Mem → Prop} (hΦ : St G Φ cX3_carry RX3 12 2 53 0 0) (hR : Rt G Φ (Pv S Q) 0 0 none) {x0 x1 x2 x3 x4 x5 : Int} (h : R32 x1 ∧ ((x1 ≠ 0 → So S x0 (.inl 3) ∧ (Ai S (μ x0 0) 1 x2 ∧ Ex G Φ 12 20 [some (2, x0), some (0, x1), some (0, x2), some (0, x3), some (0, x4), some (0, x5), none, none, none, none, none, none] [(1, (μ (μ x0 0) x2))] S μ 0 0)) ∧ (x1 = 0 → So S x0 (.inl 3) ∧ (Ai S (μ x0 0) 1 x2 ∧ Ex G Φ 12 20 [some (2, x0), some (0, x1), some (0, x2), some (0, x3), some (0, x4), some (0, x5), none, none, none, none, none, none] [(1, (-(μ (μ x0 0) x2)))] S μ 0 0)))) : Ex G Φ 12 0 [some (2, x0), some (0, x1), some (0, x2), some (0, x3), some (0, x4), some (0, x5), none, none, none, none, none, none] [] S μ 0 0 := by
  refine ex_iload_n hΦ dX3_carry_0 rfl ?_
  obtain ⟨o1, h⟩ := h
  refine ex_if_ne 14 hΦ dX3_carry_1 (by decide) o1 (fun c => ?_) (fun c => ?_)
  · have h := h.1 c
    obtain ⟨o2, h⟩ := h
    refine ex_aload_n hΦ dX3_carry_14 rfl o2.1 ?_
    refine ex_getf hΦ fl_X3_9 o2 dX3_carry_15 ?_
    refine ex_iload_n hΦ dX3_carry_18 rfl ?_
    obtain ⟨o3, h⟩ := h
    refine ex_lald' hΦ o3 dX3_carry_19 ?_
    exact h
  · have h := h.2 c
    obtain ⟨o4, h⟩ := h
    refine ex_aload_n hΦ dX3_carry_4 rfl o4.1 ?_
    refine ex_getf hΦ fl_X3_9 o4 dX3_carry_5 ?_
    refine ex_iload_n hΦ dX3_carry_8 rfl ?_
    obtain ⟨o5, h⟩ := h
    refine ex_lald' hΦ o5 dX3_carry_9 ?_
    refine ex_lneg hΦ dX3_carry_10 ?_
    refine ex_goto 20 hΦ dX3_carry_11 (by decide) ?_
    exact h
theorem eX4_take {G : Gm} {S : List Sh} {μ : Mem} {Q : Int → Mem → Prop} {x0 x1 : Int} (h : ∀ Φ : Fr, St G Φ cX4_take RX4 2 0 0 0 0 → Rt G Φ (Pi S Q) 0 0 (some .int) → Ex G Φ 2 0 [some (2, x0), some (0, x1)] [] S μ 0 0) : Ci G mX4_take [(2, x0), (0, x1)] S μ Q :=
  call_of' (plainFor_of_name (by decide +kernel)) [some (2, x0), some (0, x1)] rfl (Nat.le_of_ble_eq_true rfl) (fun Φ hΦ hR => h Φ hΦ hR)
theorem bX4_take_0 {G : Gm} {Φ : Fr} {S : List Sh} {μ : Mem} {Q : Int → Mem → Prop} (hΦ : St G Φ cX4_take RX4 2 0 0 0 0) (hR : Rt G Φ (Pi S Q) 0 0 (some .int)) {x0 x1 : Int} (h : So S x0 (.inl 4) ∧ (R32 (μ x0 1) ∧ (((μ x0 1) < 250 → Ai S (μ x0 0) 2 (μ x0 1) ∧ (0 ≤ x1 ∧ (x1 ≤ 65535 ∧ (∀ m6 : Mem, m6 = mu μ (μ x0 0) (μ x0 1) x1 → (∀ m7 : Mem, m7 = mu m6 x0 1 ((m6 x0 1) + 1) → (Q (m7 x0 1) m7)))))) ∧ (¬ ((μ x0 1) < 250) → Q (-1000000004) μ)))) : Ex G Φ 2 0 [some (2, x0), some (0, x1)] [] S μ 0 0 := by
  obtain ⟨o1, h⟩ := h
  refine ex_aload_n hΦ dX4_take_0 rfl o1.1 ?_
  refine ex_getf hΦ fl_X4_19 o1 dX4_take_1 ?_
  refine ex_sipush hΦ dX4_take_4 (by decide) ?_
  obtain ⟨o2, h⟩ := h
  refine ex_icmp_lt 13 hΦ dX4_take_7 (by decide) o2 ⟨by decide, by decide⟩ (fun c => ?_) (fun c => ?_)
  · have h := h.1 c
    refine ex_aload_n hΦ dX4_take_13 rfl o1.1 ?_
    refine ex_getf hΦ fl_X4_9 o1 dX4_take_14 ?_
    refine ex_aload_n hΦ dX4_take_17 rfl o1.1 ?_
    refine ex_getf hΦ fl_X4_19 o1 dX4_take_18 ?_
    refine ex_iload_n hΦ dX4_take_21 rfl ?_
    obtain ⟨o3, h⟩ := h
    obtain ⟨o4, h⟩ := h
    obtain ⟨o5, h⟩ := h
    obtain ⟨m6, hm6⟩ : ∃ m : Mem, m = mu μ (μ x0 0) (μ x0 1) x1 := ⟨_, rfl⟩
    have h := h m6 hm6
    refine ex_cast'' hΦ o3 o4 o5 dX4_take_22 hm6 ?_
    refine ex_aload_n hΦ dX4_take_23 rfl o1.1 ?_
    refine ex_dup hΦ dX4_take_24 (Nat.ne_of_beq_eq_false rfl) ?_
    refine ex_getf hΦ fl_X4_19 o1 dX4_take_25 ?_
    refine ex_iconst hΦ dX4_take_28 ?_
    refine ex_iadd hΦ dX4_take_29 ?_
    obtain ⟨m7, hm7⟩ : ∃ m : Mem, m = mu m6 x0 1 ((m6 x0 1) + 1) := ⟨_, rfl⟩
    have h := h m7 hm7
    refine ex_putf' hΦ fl_X4_19 o1 rfl rfl dX4_take_30 hm7 ?_
    refine ex_aload_n hΦ dX4_take_33 rfl o1.1 ?_
    refine ex_getf hΦ fl_X4_19 o1 dX4_take_34 ?_
    exact ex_returni hΦ hR dX4_take_37 h
  · have h := h.2 c
    refine ex_ldc hΦ dX4_take_10 qw385 ?_
    exact ex_returni hΦ hR dX4_take_12 h
theorem bX4_read_43 {G : Gm} {Φ : Fr} {S : List Sh} {μ : Mem} {Q : Mem → Prop} (hΦ : St G Φ cX4_read RX4 3 5 115 0 0) (hR : Rt G Φ (Pv S Q) 0 0 none) {x0 x1 x2 : Int} (h : R32 x2 ∧ ((250 ≤ x2 → Q μ) ∧ (¬ (250 ≤ x2) → So S x0 (.inl 4) ∧ (R32 (μ x0 3) ∧ (R32 (μ x0 2) ∧ (((μ x0 2) ≤ (μ x0 3) → Q μ) ∧ (¬ ((μ x0 2) ≤ (μ x0 3)) → R32 (μ x0 6) ∧ (((μ x0 6) ≠ 0 → Q μ) ∧ ((μ x0 6) = 0 → Ai S (μ x0 0) 2 (μ x0 3) ∧ (So S x1 (.inl 6) ∧ Cv G mX4_readClause [(2, x0), (0, (μ (μ x0 0) (μ x0 3))), (2, x1)] S μ (fun μ8 => Cv G mX4_skipBlanks [(2, x0)] S μ8 (fun μ9 => Ex G Φ 3 43 [some (2, x0), some (2, x1), some (0, (x2 + 1))] [] S μ9 0 0)))))))))))) : Ex G Φ 3 43 [some (2, x0), some (2, x1), some (0, x2)] [] S μ 0 0 := by
  refine ex_iload_n hΦ dX4_read_43 rfl ?_
  refine ex_sipush hΦ dX4_read_44 (by decide) ?_
  obtain ⟨o1, h⟩ := h
  refine ex_icmp_ge 92 hΦ dX4_read_47 (by decide) o1 ⟨by decide, by decide⟩ (fun c => ?_) (fun c => ?_)
  · have h := h.1 c
    exact ex_returnv hΦ hR dX4_read_92 h
  · have h := h.2 c
    obtain ⟨o2, h⟩ := h
    refine ex_aload_n hΦ dX4_read_50 rfl o2.1 ?_
    refine ex_getf hΦ fl_X4_31 o2 dX4_read_51 ?_
    refine ex_aload_n hΦ dX4_read_54 rfl o2.1 ?_
    refine ex_getf hΦ fl_X4_28 o2 dX4_read_55 ?_
    obtain ⟨o3, h⟩ := h
    obtain ⟨o4, h⟩ := h
    refine ex_icmp_ge 92 hΦ dX4_read_58 (by decide) o3 o4 (fun c => ?_) (fun c => ?_)
    · have h := h.1 c
      exact ex_returnv hΦ hR dX4_read_92 h
    · have h := h.2 c
      refine ex_aload_n hΦ dX4_read_61 rfl o2.1 ?_
      refine ex_getf hΦ fl_X4_38 o2 dX4_read_62 ?_
      obtain ⟨o5, h⟩ := h
      refine ex_if_ne 92 hΦ dX4_read_65 (by decide) o5 (fun c => ?_) (fun c => ?_)
      · have h := h.1 c
        exact ex_returnv hΦ hR dX4_read_92 h
      · have h := h.2 c
        refine ex_aload_n hΦ dX4_read_68 rfl o2.1 ?_
        refine ex_aload_n hΦ dX4_read_69 rfl o2.1 ?_
        refine ex_getf hΦ fl_X4_9 o2 dX4_read_70 ?_
        refine ex_aload_n hΦ dX4_read_73 rfl o2.1 ?_
        refine ex_getf hΦ fl_X4_31 o2 dX4_read_74 ?_
        obtain ⟨o6, h⟩ := h
        refine ex_cald' hΦ o6 dX4_read_77 ?_
        obtain ⟨o7, h⟩ := h
        refine ex_aload_n hΦ dX4_read_78 rfl o7.1 ?_
        refine ex_callVv [(0, (μ (μ x0 0) (μ x0 3))), (2, x1)] [(2, x1), (0, (μ (μ x0 0) (μ x0 3))), (2, x0)] hΦ lkV_X4_44 ⟨by decide, by decide⟩ (Nat.le_of_ble_eq_true rfl) rfl (by decide) 4 (by decide) rfl o2 dX4_read_79 rfl h (fun μ8 h => ?_)
        refine ex_aload_n hΦ dX4_read_82 rfl o2.1 ?_
        refine ex_callVv [] [(2, x0)] hΦ lkV_X4_41 ⟨by decide, by decide⟩ (Nat.le_of_ble_eq_true rfl) rfl (by decide) 4 (by decide) rfl o2 dX4_read_83 rfl h (fun μ9 h => ?_)
        refine ex_iinc (L' := [some (2, x0), some (2, x1), some (0, (x2 + 1))]) hΦ dX4_read_86 rfl (by decide) rfl ?_
        refine ex_goto 43 hΦ dX4_read_89 (by decide) ?_
        exact h
theorem eX4_read {G : Gm} {S : List Sh} {μ : Mem} {Q : Mem → Prop} {x0 x1 : Int} (h : ∀ Φ : Fr, St G Φ cX4_read RX4 3 5 115 0 0 → Rt G Φ (Pv S Q) 0 0 none → Ex G Φ 3 0 [some (2, x0), some (2, x1), none] [] S μ 0 0) : Cv G mX4_read [(2, x0), (2, x1)] S μ Q :=
  call_of' (plainFor_of_name (by decide +kernel)) [some (2, x0), some (2, x1), none] rfl (Nat.le_of_ble_eq_true rfl) (fun Φ hΦ hR => h Φ hΦ hR)
theorem bX4_read_0 {G : Gm} {Φ : Fr} {S : List Sh} {μ : Mem} {Q : Mem → Prop} (hΦ : St G Φ cX4_read RX4 3 5 115 0 0) (hR : Rt G Φ (Pv S Q) 0 0 none) {x0 x1 : Int} (h : So S x1 (.inl 6) ∧ (Cv G mX6_forgetAll [(2, x1)] S μ (fun μ2 => So S x0 (.inl 4) ∧ (∀ m4 : Mem, m4 = mu μ2 x0 2 (μ2 x0 1) → (∀ m5 : Mem, m5 = mu m4 x0 1 0 → (∀ m6 : Mem, m6 = mu m5 x0 3 0 → (∀ m7 : Mem, m7 = mu m6 x0 5 0 → (∀ m8 : Mem, m8 = mu m7 x0 6 0 → (∀ m9 : Mem, m9 = mu m8 x0 7 (-1) → (Cv G mX4_skipBlanks [(2, x0)] S m9 (fun μ10 => Ex G Φ 3 43 [some (2, x0), some (2, x1), some (0, 0)] [] S μ10 0 0))))))))))) : Ex G Φ 3 0 [some (2, x0), some (2, x1), none] [] S μ 0 0 := by
  obtain ⟨o1, h⟩ := h
  refine ex_aload_n hΦ dX4_read_0 rfl o1.1 ?_
  refine ex_callVv [] [(2, x1)] hΦ lkV_X4_23 ⟨by decide, by decide⟩ (Nat.le_of_ble_eq_true rfl) rfl (by decide) 6 (by decide) rfl o1 dX4_read_1 rfl h (fun μ2 h => ?_)
  obtain ⟨o3, h⟩ := h
  refine ex_aload_n hΦ dX4_read_4 rfl o3.1 ?_
  refine ex_aload_n hΦ dX4_read_5 rfl o3.1 ?_
  refine ex_getf hΦ fl_X4_19 o3 dX4_read_6 ?_
  obtain ⟨m4, hm4⟩ : ∃ m : Mem, m = mu μ2 x0 2 (μ2 x0 1) := ⟨_, rfl⟩
  have h := h m4 hm4
  refine ex_putf' hΦ fl_X4_28 o3 rfl rfl dX4_read_9 hm4 ?_
  refine ex_aload_n hΦ dX4_read_12 rfl o3.1 ?_
  refine ex_iconst hΦ dX4_read_13 ?_
  obtain ⟨m5, hm5⟩ : ∃ m : Mem, m = mu m4 x0 1 0 := ⟨_, rfl⟩
  have h := h m5 hm5
  refine ex_putf' hΦ fl_X4_19 o3 rfl rfl dX4_read_14 hm5 ?_
  refine ex_aload_n hΦ dX4_read_17 rfl o3.1 ?_
  refine ex_iconst hΦ dX4_read_18 ?_
  obtain ⟨m6, hm6⟩ : ∃ m : Mem, m = mu m5 x0 3 0 := ⟨_, rfl⟩
  have h := h m6 hm6
  refine ex_putf' hΦ fl_X4_31 o3 rfl rfl dX4_read_19 hm6 ?_
  refine ex_aload_n hΦ dX4_read_22 rfl o3.1 ?_
  refine ex_iconst hΦ dX4_read_23 ?_
  obtain ⟨m7, hm7⟩ : ∃ m : Mem, m = mu m6 x0 5 0 := ⟨_, rfl⟩
  have h := h m7 hm7
  refine ex_putz' hΦ fl_X4_34 o3 rfl rfl (by decide) (by decide) dX4_read_24 hm7 ?_
  refine ex_aload_n hΦ dX4_read_27 rfl o3.1 ?_
  refine ex_iconst hΦ dX4_read_28 ?_
  obtain ⟨m8, hm8⟩ : ∃ m : Mem, m = mu m7 x0 6 0 := ⟨_, rfl⟩
  have h := h m8 hm8
  refine ex_putf' hΦ fl_X4_38 o3 rfl rfl dX4_read_29 hm8 ?_
  refine ex_aload_n hΦ dX4_read_32 rfl o3.1 ?_
  refine ex_iconst hΦ dX4_read_33 ?_
  obtain ⟨m9, hm9⟩ : ∃ m : Mem, m = mu m8 x0 7 (-1) := ⟨_, rfl⟩
  have h := h m9 hm9
  refine ex_putf' hΦ fl_X4_15 o3 rfl rfl dX4_read_34 hm9 ?_
  refine ex_aload_n hΦ dX4_read_37 rfl o3.1 ?_
  refine ex_callVv [] [(2, x0)] hΦ lkV_X4_41 ⟨by decide, by decide⟩ (Nat.le_of_ble_eq_true rfl) rfl (by decide) 4 (by decide) rfl o3 dX4_read_38 rfl h (fun μ10 h => ?_)
  refine ex_iconst hΦ dX4_read_41 ?_
  refine ex_istore_n (L' := [some (2, x0), some (2, x1), some (0, 0)]) hΦ dX4_read_42 (by decide) rfl ?_
  exact h
theorem eX4_readClause {G : Gm} {S : List Sh} {μ : Mem} {Q : Mem → Prop} {x0 x1 x2 : Int} (h : ∀ Φ : Fr, St G Φ cX4_readClause RX4 3 4 93 0 0 → Rt G Φ (Pv S Q) 0 0 none → Ex G Φ 3 0 [some (2, x0), some (0, x1), some (2, x2)] [] S μ 0 0) : Cv G mX4_readClause [(2, x0), (0, x1), (2, x2)] S μ Q :=
  call_of' (plainFor_of_name (by decide +kernel)) [some (2, x0), some (0, x1), some (2, x2)] rfl (Nat.le_of_ble_eq_true rfl) (fun Φ hΦ hR => h Φ hΦ hR)
theorem bX4_readClause_0 {G : Gm} {Φ : Fr} {S : List Sh} {μ : Mem} {Q : Mem → Prop} (hΦ : St G Φ cX4_readClause RX4 3 4 93 0 0) (hR : Rt G Φ (Pv S Q) 0 0 none) {x0 x1 x2 : Int} (h : R32 x1 ∧ ((x1 ≠ 119 → (x1 ≠ 108 → (x1 ≠ 100 → (x1 ≠ 102 → So S x0 (.inl 4) ∧ Cv G mX4_fail [(2, x0), (0, 1), (0, (μ x0 3))] S μ (fun μ3 => Q μ3)) ∧ (x1 = 102 → So S x0 (.inl 4) ∧ (So S x2 (.inl 6) ∧ Cv G mX4_readFeast [(2, x0), (2, x2)] S μ (fun μ6 => Q μ6)))) ∧ (x1 = 100 → So S x0 (.inl 4) ∧ (So S x2 (.inl 6) ∧ Cv G mX4_readDriven [(2, x0), (2, x2)] S μ (fun μ9 => Q μ9)))) ∧ (x1 = 108 → So S x0 (.inl 4) ∧ (So S x2 (.inl 6) ∧ Cv G mX4_readLink [(2, x0), (2, x2)] S μ (fun μ12 => Q μ12)))) ∧ (x1 = 119 → So S x0 (.inl 4) ∧ (So S x2 (.inl 6) ∧ Cv G mX4_readWheel [(2, x0), (2, x2)] S μ (fun μ15 => Q μ15))))) : Ex G Φ 3 0 [some (2, x0), some (0, x1), some (2, x2)] [] S μ 0 0 := by
  refine ex_iload_n hΦ dX4_readClause_0 rfl ?_
  refine ex_bipush hΦ dX4_readClause_1 (by decide) ?_
  obtain ⟨o1, h⟩ := h
  refine ex_icmp_ne 14 hΦ dX4_readClause_3 (by decide) o1 ⟨by decide, by decide⟩ (fun c => ?_) (fun c => ?_)
  · have h := h.1 c
    refine ex_iload_n hΦ dX4_readClause_14 rfl ?_
    refine ex_bipush hΦ dX4_readClause_15 (by decide) ?_
    refine ex_icmp_ne 28 hΦ dX4_readClause_17 (by decide) o1 ⟨by decide, by decide⟩ (fun c => ?_) (fun c => ?_)
    · have h := h.1 c
      refine ex_iload_n hΦ dX4_readClause_28 rfl ?_
      refine ex_bipush hΦ dX4_readClause_29 (by decide) ?_
      refine ex_icmp_ne 42 hΦ dX4_readClause_31 (by decide) o1 ⟨by decide, by decide⟩ (fun c => ?_) (fun c => ?_)
      · have h := h.1 c
        refine ex_iload_n hΦ dX4_readClause_42 rfl ?_
        refine ex_bipush hΦ dX4_readClause_43 (by decide) ?_
        refine ex_icmp_ne 56 hΦ dX4_readClause_45 (by decide) o1 ⟨by decide, by decide⟩ (fun c => ?_) (fun c => ?_)
        · have h := h.1 c
          obtain ⟨o2, h⟩ := h
          refine ex_aload_n hΦ dX4_readClause_56 rfl o2.1 ?_
          refine ex_iconst hΦ dX4_readClause_57 ?_
          refine ex_aload_n hΦ dX4_readClause_58 rfl o2.1 ?_
          refine ex_getf hΦ fl_X4_31 o2 dX4_readClause_59 ?_
          refine ex_callVv [(0, 1), (0, (μ x0 3))] [(0, (μ x0 3)), (0, 1), (2, x0)] hΦ lkV_X4_61 ⟨by decide, by decide⟩ (Nat.le_of_ble_eq_true rfl) rfl (by decide) 4 (by decide) rfl o2 dX4_readClause_62 rfl h (fun μ3 h => ?_)
          exact ex_returnv hΦ hR dX4_readClause_65 h
        · have h := h.2 c
          obtain ⟨o4, h⟩ := h
          refine ex_aload_n hΦ dX4_readClause_48 rfl o4.1 ?_
          obtain ⟨o5, h⟩ := h
          refine ex_aload_n hΦ dX4_readClause_49 rfl o5.1 ?_
          refine ex_callVv [(2, x2)] [(2, x2), (2, x0)] hΦ lkV_X4_58 ⟨by decide, by decide⟩ (Nat.le_of_ble_eq_true rfl) rfl (by decide) 4 (by decide) rfl o4 dX4_readClause_50 rfl h (fun μ6 h => ?_)
          refine ex_goto 65 hΦ dX4_readClause_53 (by decide) ?_
          exact ex_returnv hΦ hR dX4_readClause_65 h
      · have h := h.2 c
        obtain ⟨o7, h⟩ := h
        refine ex_aload_n hΦ dX4_readClause_34 rfl o7.1 ?_
        obtain ⟨o8, h⟩ := h
        refine ex_aload_n hΦ dX4_readClause_35 rfl o8.1 ?_
        refine ex_callVv [(2, x2)] [(2, x2), (2, x0)] hΦ lkV_X4_55 ⟨by decide, by decide⟩ (Nat.le_of_ble_eq_true rfl) rfl (by decide) 4 (by decide) rfl o7 dX4_readClause_36 rfl h (fun μ9 h => ?_)
        refine ex_goto 65 hΦ dX4_readClause_39 (by decide) ?_
        exact ex_returnv hΦ hR dX4_readClause_65 h
    · have h := h.2 c
      obtain ⟨o10, h⟩ := h
      refine ex_aload_n hΦ dX4_readClause_20 rfl o10.1 ?_
      obtain ⟨o11, h⟩ := h
      refine ex_aload_n hΦ dX4_readClause_21 rfl o11.1 ?_
      refine ex_callVv [(2, x2)] [(2, x2), (2, x0)] hΦ lkV_X4_52 ⟨by decide, by decide⟩ (Nat.le_of_ble_eq_true rfl) rfl (by decide) 4 (by decide) rfl o10 dX4_readClause_22 rfl h (fun μ12 h => ?_)
      refine ex_goto 65 hΦ dX4_readClause_25 (by decide) ?_
      exact ex_returnv hΦ hR dX4_readClause_65 h
  · have h := h.2 c
    obtain ⟨o13, h⟩ := h
    refine ex_aload_n hΦ dX4_readClause_6 rfl o13.1 ?_
    obtain ⟨o14, h⟩ := h
    refine ex_aload_n hΦ dX4_readClause_7 rfl o14.1 ?_
    refine ex_callVv [(2, x2)] [(2, x2), (2, x0)] hΦ lkV_X4_48 ⟨by decide, by decide⟩ (Nat.le_of_ble_eq_true rfl) rfl (by decide) 4 (by decide) rfl o13 dX4_readClause_8 rfl h (fun μ15 h => ?_)
    refine ex_goto 65 hΦ dX4_readClause_11 (by decide) ?_
    exact ex_returnv hΦ hR dX4_readClause_65 h
theorem bX4_readWheel_15 {G : Gm} {Φ : Fr} {S : List Sh} {μ : Mem} {Q : Mem → Prop} (hΦ : St G Φ cX4_readWheel RX4 4 3 70 0 0) (hR : Rt G Φ (Pv S Q) 0 0 none) {x0 x1 t0 t1 : Int} (h : So S t0 (.inl 4) ∧ (Cv G mX4_passWord [(2, t0), (0, t1)] S μ (fun μ2 => So S x0 (.inl 4) ∧ (Ci G mX4_readNumber [(2, x0), (0, 3), (0, 30)] S μ2 (fun r4 μ4 => Ci G mX4_readNumber [(2, x0), (0, 0), (0, 29)] S μ4 (fun r5 μ5 => Cv G mX4_passEnd [(2, x0)] S μ5 (fun μ6 => R32 (μ6 x0 6) ∧ (((μ6 x0 6) ≠ 0 → Q μ6) ∧ ((μ6 x0 6) = 0 → So S x1 (.inl 6) ∧ Cv G mX6_addWheel [(2, x1), (0, r4), (0, r5)] S μ6 (fun μ9 => Q μ9)))))))))) : Ex G Φ 4 15 [some (2, x0), some (2, x1), none, none] [(0, t1), (2, t0)] S μ 0 0 := by
  obtain ⟨o1, h⟩ := h
  refine ex_callVv [(0, t1)] [(0, t1), (2, t0)] hΦ lkV_X4_68 ⟨by decide, by decide⟩ (Nat.le_of_ble_eq_true rfl) rfl (by decide) 4 (by decide) rfl o1 dX4_readWheel_15 rfl h (fun μ2 h => ?_)
  obtain ⟨o3, h⟩ := h
  refine ex_aload_n hΦ dX4_readWheel_18 rfl o3.1 ?_
  refine ex_iconst hΦ dX4_readWheel_19 ?_
  refine ex_bipush hΦ dX4_readWheel_20 (by decide) ?_
  refine ex_callVi [(0, 3), (0, 30)] [(0, 30), (0, 3), (2, x0)] hΦ lkV_X4_72 ⟨by decide, by decide⟩ (Nat.le_of_ble_eq_true rfl) rfl (by decide) 4 (by decide) rfl o3 dX4_readWheel_22 rfl h (fun r4 μ4 h => ?_)
  refine ex_istore_n (L' := [some (2, x0), some (2, x1), some (0, r4), none]) hΦ dX4_readWheel_25 (by decide) rfl ?_
  refine ex_aload_n hΦ dX4_readWheel_26 rfl o3.1 ?_
  refine ex_iconst hΦ dX4_readWheel_27 ?_
  refine ex_bipush hΦ dX4_readWheel_28 (by decide) ?_
  refine ex_callVi [(0, 0), (0, 29)] [(0, 29), (0, 0), (2, x0)] hΦ lkV_X4_72 ⟨by decide, by decide⟩ (Nat.le_of_ble_eq_true rfl) rfl (by decide) 4 (by decide) rfl o3 dX4_readWheel_30 rfl h (fun r5 μ5 h => ?_)
  refine ex_istore_n (L' := [some (2, x0), some (2, x1), some (0, r4), some (0, r5)]) hΦ dX4_readWheel_33 (by decide) rfl ?_
  refine ex_aload_n hΦ dX4_readWheel_34 rfl o3.1 ?_
  refine ex_callVv [] [(2, x0)] hΦ lkV_X4_76 ⟨by decide, by decide⟩ (Nat.le_of_ble_eq_true rfl) rfl (by decide) 4 (by decide) rfl o3 dX4_readWheel_35 rfl h (fun μ6 h => ?_)
  refine ex_aload_n hΦ dX4_readWheel_38 rfl o3.1 ?_
  refine ex_getf hΦ fl_X4_38 o3 dX4_readWheel_39 ?_
  obtain ⟨o7, h⟩ := h
  refine ex_if_ne 51 hΦ dX4_readWheel_42 (by decide) o7 (fun c => ?_) (fun c => ?_)
  · have h := h.1 c
    exact ex_returnv hΦ hR dX4_readWheel_51 h
  · have h := h.2 c
    obtain ⟨o8, h⟩ := h
    refine ex_aload_n hΦ dX4_readWheel_45 rfl o8.1 ?_
    refine ex_iload_n hΦ dX4_readWheel_46 rfl ?_
    refine ex_iload_n hΦ dX4_readWheel_47 rfl ?_
    refine ex_callVv [(0, r4), (0, r5)] [(0, r5), (0, r4), (2, x1)] hΦ lkV_X4_79 ⟨by decide, by decide⟩ (Nat.le_of_ble_eq_true rfl) rfl (by decide) 6 (by decide) rfl o8 dX4_readWheel_48 rfl h (fun μ9 h => ?_)
    exact ex_returnv hΦ hR dX4_readWheel_51 h
theorem eX4_readWheel {G : Gm} {S : List Sh} {μ : Mem} {Q : Mem → Prop} {x0 x1 : Int} (h : ∀ Φ : Fr, St G Φ cX4_readWheel RX4 4 3 70 0 0 → Rt G Φ (Pv S Q) 0 0 none → Ex G Φ 4 0 [some (2, x0), some (2, x1), none, none] [] S μ 0 0) : Cv G mX4_readWheel [(2, x0), (2, x1)] S μ Q :=
  call_of' (plainFor_of_name (by decide +kernel)) [some (2, x0), some (2, x1), none, none] rfl (Nat.le_of_ble_eq_true rfl) (fun Φ hΦ hR => h Φ hΦ hR)
theorem bX4_readWheel_0 {G : Gm} {Φ : Fr} {S : List Sh} {μ : Mem} {Q : Mem → Prop} (hΦ : St G Φ cX4_readWheel RX4 4 3 70 0 0) (hR : Rt G Φ (Pv S Q) 0 0 none) {x0 x1 : Int} (h : So S x0 (.inl 4) ∧ (So S x1 (.inl 6) ∧ (R32 (μ x1 0) ∧ (((μ x1 0) < 8 → Ex G Φ 4 15 [some (2, x0), some (2, x1), none, none] [(0, 0), (2, x0)] S μ 0 0) ∧ (¬ ((μ x1 0) < 8) → Ex G Φ 4 15 [some (2, x0), some (2, x1), none, none] [(0, 1), (2, x0)] S μ 0 0))))) : Ex G Φ 4 0 [some (2, x0), some (2, x1), none, none] [] S μ 0 0 := by
  obtain ⟨o1, h⟩ := h
  refine ex_aload_n hΦ dX4_readWheel_0 rfl o1.1 ?_
  obtain ⟨o2, h⟩ := h
  refine ex_aload_n hΦ dX4_readWheel_1 rfl o2.1 ?_
  refine ex_getf hΦ fl_X4_65 o2 dX4_readWheel_2 ?_
  refine ex_bipush hΦ dX4_readWheel_5 (by decide) ?_
  obtain ⟨o3, h⟩ := h
  refine ex_icmp_lt 14 hΦ dX4_readWheel_7 (by decide) o3 ⟨by decide, by decide⟩ (fun c => ?_) (fun c => ?_)
  · have h := h.1 c
    refine ex_iconst hΦ dX4_readWheel_14 ?_
    exact h
  · have h := h.2 c
    refine ex_iconst hΦ dX4_readWheel_10 ?_
    refine ex_goto 15 hΦ dX4_readWheel_11 (by decide) ?_
    exact h
theorem bX4_readLink_15 {G : Gm} {Φ : Fr} {S : List Sh} {μ : Mem} {Q : Mem → Prop} (hΦ : St G Φ cX4_readLink RX4 6 2 48 0 0) (hR : Rt G Φ (Pv S Q) 0 0 none) {x0 x1 t0 t1 : Int} (h : So S t0 (.inl 4) ∧ (Cv G mX4_passWord [(2, t0), (0, t1)] S μ (fun μ2 => So S x0 (.inl 4) ∧ (Ci G mX4_readKind [(2, x0)] S μ2 (fun r4 μ4 => So S x1 (.inl 6) ∧ (Ci G mX4_readNumber [(2, x0), (0, 0), (0, ((μ4 x1 0) - 1))] S μ4 (fun r6 μ6 => Ci G mX4_readNumber [(2, x0), (0, 0), (0, ((μ6 x1 0) - 1))] S μ6 (fun r7 μ7 => R32 r6 ∧ (R32 r7 ∧ ((r6 ≠ r7 → Ex G Φ 6 63 [some (2, x0), some (2, x1), some (0, r4), some (0, r6), some (0, r7), none] [] S μ7 0 0) ∧ (r6 = r7 → Cv G mX4_fail [(2, x0), (0, 4), (0, (μ7 x0 4))] S μ7 (fun μ10 => Ex G Φ 6 63 [some (2, x0), some (2, x1), some (0, r4), some (0, r6), some (0, r7), none] [] S μ10 0 0)))))))))))) : Ex G Φ 6 15 [some (2, x0), some (2, x1), none, none, none, none] [(0, t1), (2, t0)] S μ 0 0 := by
  obtain ⟨o1, h⟩ := h
  refine ex_callVv [(0, t1)] [(0, t1), (2, t0)] hΦ lkV_X4_68 ⟨by decide, by decide⟩ (Nat.le_of_ble_eq_true rfl) rfl (by decide) 4 (by decide) rfl o1 dX4_readLink_15 rfl h (fun μ2 h => ?_)
  obtain ⟨o3, h⟩ := h
  refine ex_aload_n hΦ dX4_readLink_18 rfl o3.1 ?_
  refine ex_callVi [] [(2, x0)] hΦ lkV_X4_85 ⟨by decide, by decide⟩ (Nat.le_of_ble_eq_true rfl) rfl (by decide) 4 (by decide) rfl o3 dX4_readLink_19 rfl h (fun r4 μ4 h => ?_)
  refine ex_istore_n (L' := [some (2, x0), some (2, x1), some (0, r4), none, none, none]) hΦ dX4_readLink_22 (by decide) rfl ?_
  refine ex_aload_n hΦ dX4_readLink_23 rfl o3.1 ?_
  refine ex_iconst hΦ dX4_readLink_24 ?_
  obtain ⟨o5, h⟩ := h
  refine ex_aload_n hΦ dX4_readLink_25 rfl o5.1 ?_
  refine ex_getf hΦ fl_X4_65 o5 dX4_readLink_26 ?_
  refine ex_iconst hΦ dX4_readLink_29 ?_
  refine ex_isub hΦ dX4_readLink_30 ?_
  refine ex_callVi [(0, 0), (0, ((μ4 x1 0) - 1))] [(0, ((μ4 x1 0) - 1)), (0, 0), (2, x0)] hΦ lkV_X4_72 ⟨by decide, by decide⟩ (Nat.le_of_ble_eq_true rfl) rfl (by decide) 4 (by decide) rfl o3 dX4_readLink_31 rfl h (fun r6 μ6 h => ?_)
  refine ex_istore_n (L' := [some (2, x0), some (2, x1), some (0, r4), some (0, r6), none, none]) hΦ dX4_readLink_34 (by decide) rfl ?_
  refine ex_aload_n hΦ dX4_readLink_35 rfl o3.1 ?_
  refine ex_iconst hΦ dX4_readLink_36 ?_
  refine ex_aload_n hΦ dX4_readLink_37 rfl o5.1 ?_
  refine ex_getf hΦ fl_X4_65 o5 dX4_readLink_38 ?_
  refine ex_iconst hΦ dX4_readLink_41 ?_
  refine ex_isub hΦ dX4_readLink_42 ?_
  refine ex_callVi [(0, 0), (0, ((μ6 x1 0) - 1))] [(0, ((μ6 x1 0) - 1)), (0, 0), (2, x0)] hΦ lkV_X4_72 ⟨by decide, by decide⟩ (Nat.le_of_ble_eq_true rfl) rfl (by decide) 4 (by decide) rfl o3 dX4_readLink_43 rfl h (fun r7 μ7 h => ?_)
  refine ex_istore (L' := [some (2, x0), some (2, x1), some (0, r4), some (0, r6), some (0, r7), none]) hΦ dX4_readLink_46 (by decide) rfl ?_
  refine ex_iload_n hΦ dX4_readLink_48 rfl ?_
  refine ex_iload hΦ dX4_readLink_49 rfl ?_
  obtain ⟨o8, h⟩ := h
  obtain ⟨o9, h⟩ := h
  refine ex_icmp_ne 63 hΦ dX4_readLink_51 (by decide) o8 o9 (fun c => ?_) (fun c => ?_)
  · have h := h.1 c
    exact h
  · have h := h.2 c
    refine ex_aload_n hΦ dX4_readLink_54 rfl o3.1 ?_
    refine ex_iconst hΦ dX4_readLink_55 ?_
    refine ex_aload_n hΦ dX4_readLink_56 rfl o3.1 ?_
    refine ex_getf hΦ fl_X4_89 o3 dX4_readLink_57 ?_
    refine ex_callVv [(0, 4), (0, (μ7 x0 4))] [(0, (μ7 x0 4)), (0, 4), (2, x0)] hΦ lkV_X4_61 ⟨by decide, by decide⟩ (Nat.le_of_ble_eq_true rfl) rfl (by decide) 4 (by decide) rfl o3 dX4_readLink_60 rfl h (fun μ10 h => ?_)
    exact h
theorem bX4_readLink_63 {G : Gm} {Φ : Fr} {S : List Sh} {μ : Mem} {Q : Mem → Prop} (hΦ : St G Φ cX4_readLink RX4 6 2 48 0 0) (hR : Rt G Φ (Pv S Q) 0 0 none) {x0 x1 x2 x3 x4 : Int} (h : So S x0 (.inl 4) ∧ (Ci G mX4_readNumber [(2, x0), (0, 0), (0, 999)] S μ (fun r2 μ2 => Cv G mX4_passEnd [(2, x0)] S μ2 (fun μ3 => R32 (μ3 x0 6) ∧ (((μ3 x0 6) ≠ 0 → Q μ3) ∧ ((μ3 x0 6) = 0 → So S x1 (.inl 6) ∧ Cv G mX6_addLink [(2, x1), (0, x2), (0, x3), (0, x4), (0, r2)] S μ3 (fun μ6 => Q μ6))))))) : Ex G Φ 6 63 [some (2, x0), some (2, x1), some (0, x2), some (0, x3), some (0, x4), none] [] S μ 0 0 := by
  obtain ⟨o1, h⟩ := h
  refine ex_aload_n hΦ dX4_readLink_63 rfl o1.1 ?_
  refine ex_iconst hΦ dX4_readLink_64 ?_
  refine ex_sipush hΦ dX4_readLink_65 (by decide) ?_
  refine ex_callVi [(0, 0), (0, 999)] [(0, 999), (0, 0), (2, x0)] hΦ lkV_X4_72 ⟨by decide, by decide⟩ (Nat.le_of_ble_eq_true rfl) rfl (by decide) 4 (by decide) rfl o1 dX4_readLink_68 rfl h (fun r2 μ2 h => ?_)
  refine ex_istore (L' := [some (2, x0), some (2, x1), some (0, x2), some (0, x3), some (0, x4), some (0, r2)]) hΦ dX4_readLink_71 (by decide) rfl ?_
  refine ex_aload_n hΦ dX4_readLink_73 rfl o1.1 ?_
  refine ex_callVv [] [(2, x0)] hΦ lkV_X4_76 ⟨by decide, by decide⟩ (Nat.le_of_ble_eq_true rfl) rfl (by decide) 4 (by decide) rfl o1 dX4_readLink_74 rfl h (fun μ3 h => ?_)
  refine ex_aload_n hΦ dX4_readLink_77 rfl o1.1 ?_
  refine ex_getf hΦ fl_X4_38 o1 dX4_readLink_78 ?_
  obtain ⟨o4, h⟩ := h
  refine ex_if_ne 94 hΦ dX4_readLink_81 (by decide) o4 (fun c => ?_) (fun c => ?_)
  · have h := h.1 c
    exact ex_returnv hΦ hR dX4_readLink_94 h
  · have h := h.2 c
    obtain ⟨o5, h⟩ := h
    refine ex_aload_n hΦ dX4_readLink_84 rfl o5.1 ?_
    refine ex_iload_n hΦ dX4_readLink_85 rfl ?_
    refine ex_iload_n hΦ dX4_readLink_86 rfl ?_
    refine ex_iload hΦ dX4_readLink_87 rfl ?_
    refine ex_iload hΦ dX4_readLink_89 rfl ?_
    refine ex_callVv [(0, x2), (0, x3), (0, x4), (0, r2)] [(0, r2), (0, x4), (0, x3), (0, x2), (2, x1)] hΦ lkV_X4_92 ⟨by decide, by decide⟩ (Nat.le_of_ble_eq_true rfl) rfl (by decide) 6 (by decide) rfl o5 dX4_readLink_91 rfl h (fun μ6 h => ?_)
    exact ex_returnv hΦ hR dX4_readLink_94 h
theorem eX4_readLink {G : Gm} {S : List Sh} {μ : Mem} {Q : Mem → Prop} {x0 x1 : Int} (h : ∀ Φ : Fr, St G Φ cX4_readLink RX4 6 2 48 0 0 → Rt G Φ (Pv S Q) 0 0 none → Ex G Φ 6 0 [some (2, x0), some (2, x1), none, none, none, none] [] S μ 0 0) : Cv G mX4_readLink [(2, x0), (2, x1)] S μ Q :=
  call_of' (plainFor_of_name (by decide +kernel)) [some (2, x0), some (2, x1), none, none, none, none] rfl (Nat.le_of_ble_eq_true rfl) (fun Φ hΦ hR => h Φ hΦ hR)
theorem bX4_readLink_0 {G : Gm} {Φ : Fr} {S : List Sh} {μ : Mem} {Q : Mem → Prop} (hΦ : St G Φ cX4_readLink RX4 6 2 48 0 0) (hR : Rt G Φ (Pv S Q) 0 0 none) {x0 x1 : Int} (h : So S x0 (.inl 4) ∧ (So S x1 (.inl 6) ∧ (R32 (μ x1 1) ∧ (((μ x1 1) < 10 → Ex G Φ 6 15 [some (2, x0), some (2, x1), none, none, none, none] [(0, 0), (2, x0)] S μ 0 0) ∧ (¬ ((μ x1 1) < 10) → Ex G Φ 6 15 [some (2, x0), some (2, x1), none, none, none, none] [(0, 1), (2, x0)] S μ 0 0))))) : Ex G Φ 6 0 [some (2, x0), some (2, x1), none, none, none, none] [] S μ 0 0 := by
  obtain ⟨o1, h⟩ := h
  refine ex_aload_n hΦ dX4_readLink_0 rfl o1.1 ?_
  obtain ⟨o2, h⟩ := h
  refine ex_aload_n hΦ dX4_readLink_1 rfl o2.1 ?_
  refine ex_getf hΦ fl_X4_82 o2 dX4_readLink_2 ?_
  refine ex_bipush hΦ dX4_readLink_5 (by decide) ?_
  obtain ⟨o3, h⟩ := h
  refine ex_icmp_lt 14 hΦ dX4_readLink_7 (by decide) o3 ⟨by decide, by decide⟩ (fun c => ?_) (fun c => ?_)
  · have h := h.1 c
    refine ex_iconst hΦ dX4_readLink_14 ?_
    exact h
  · have h := h.2 c
    refine ex_iconst hΦ dX4_readLink_10 ?_
    refine ex_goto 15 hΦ dX4_readLink_11 (by decide) ?_
    exact h
theorem eX4_readDriven {G : Gm} {S : List Sh} {μ : Mem} {Q : Mem → Prop} {x0 x1 : Int} (h : ∀ Φ : Fr, St G Φ cX4_readDriven RX4 4 2 45 0 0 → Rt G Φ (Pv S Q) 0 0 none → Ex G Φ 4 0 [some (2, x0), some (2, x1), none, none] [] S μ 0 0) : Cv G mX4_readDriven [(2, x0), (2, x1)] S μ Q :=
  call_of' (plainFor_of_name (by decide +kernel)) [some (2, x0), some (2, x1), none, none] rfl (Nat.le_of_ble_eq_true rfl) (fun Φ hΦ hR => h Φ hΦ hR)
theorem bX4_readDriven_0 {G : Gm} {Φ : Fr} {S : List Sh} {μ : Mem} {Q : Mem → Prop} (hΦ : St G Φ cX4_readDriven RX4 4 2 45 0 0) (hR : Rt G Φ (Pv S Q) 0 0 none) {x0 x1 : Int} (h : So S x0 (.inl 4) ∧ (Cv G mX4_passWord [(2, x0), (0, (μ x0 5))] S μ (fun μ2 => So S x1 (.inl 6) ∧ (Ci G mX4_readNumber [(2, x0), (0, 0), (0, ((μ2 x1 0) - 1))] S μ2 (fun r4 μ4 => Ci G mX4_readNumber [(2, x0), (0, 1), (0, 30)] S μ4 (fun r5 μ5 => Cv G mX4_passEnd [(2, x0)] S μ5 (fun μ6 => R32 (μ6 x0 6) ∧ (((μ6 x0 6) ≠ 0 → Q μ6) ∧ ((μ6 x0 6) = 0 → ∀ m8 : Mem, m8 = mu μ6 x1 3 r4 → (∀ m9 : Mem, m9 = mu m8 x1 4 r5 → (∀ m10 : Mem, m10 = mu m9 x0 5 1 → (Q m10)))))))))))) : Ex G Φ 4 0 [some (2, x0), some (2, x1), none, none] [] S μ 0 0 := by
  obtain ⟨o1, h⟩ := h
  refine ex_aload_n hΦ dX4_readDriven_0 rfl o1.1 ?_
  refine ex_aload_n hΦ dX4_readDriven_1 rfl o1.1 ?_
  refine ex_getf hΦ fl_X4_34 o1 dX4_readDriven_2 ?_
  refine ex_callVv [(0, (μ x0 5))] [(0, (μ x0 5)), (2, x0)] hΦ lkV_X4_68 ⟨by decide, by decide⟩ (Nat.le_of_ble_eq_true rfl) rfl (by decide) 4 (by decide) rfl o1 dX4_readDriven_5 rfl h (fun μ2 h => ?_)
  refine ex_aload_n hΦ dX4_readDriven_8 rfl o1.1 ?_
  refine ex_iconst hΦ dX4_readDriven_9 ?_
  obtain ⟨o3, h⟩ := h
  refine ex_aload_n hΦ dX4_readDriven_10 rfl o3.1 ?_
  refine ex_getf hΦ fl_X4_65 o3 dX4_readDriven_11 ?_
  refine ex_iconst hΦ dX4_readDriven_14 ?_
  refine ex_isub hΦ dX4_readDriven_15 ?_
  refine ex_callVi [(0, 0), (0, ((μ2 x1 0) - 1))] [(0, ((μ2 x1 0) - 1)), (0, 0), (2, x0)] hΦ lkV_X4_72 ⟨by decide, by decide⟩ (Nat.le_of_ble_eq_true rfl) rfl (by decide) 4 (by decide) rfl o1 dX4_readDriven_16 rfl h (fun r4 μ4 h => ?_)
  refine ex_istore_n (L' := [some (2, x0), some (2, x1), some (0, r4), none]) hΦ dX4_readDriven_19 (by decide) rfl ?_
  refine ex_aload_n hΦ dX4_readDriven_20 rfl o1.1 ?_
  refine ex_iconst hΦ dX4_readDriven_21 ?_
  refine ex_bipush hΦ dX4_readDriven_22 (by decide) ?_
  refine ex_callVi [(0, 1), (0, 30)] [(0, 30), (0, 1), (2, x0)] hΦ lkV_X4_72 ⟨by decide, by decide⟩ (Nat.le_of_ble_eq_true rfl) rfl (by decide) 4 (by decide) rfl o1 dX4_readDriven_24 rfl h (fun r5 μ5 h => ?_)
  refine ex_istore_n (L' := [some (2, x0), some (2, x1), some (0, r4), some (0, r5)]) hΦ dX4_readDriven_27 (by decide) rfl ?_
  refine ex_aload_n hΦ dX4_readDriven_28 rfl o1.1 ?_
  refine ex_callVv [] [(2, x0)] hΦ lkV_X4_76 ⟨by decide, by decide⟩ (Nat.le_of_ble_eq_true rfl) rfl (by decide) 4 (by decide) rfl o1 dX4_readDriven_29 rfl h (fun μ6 h => ?_)
  refine ex_aload_n hΦ dX4_readDriven_32 rfl o1.1 ?_
  refine ex_getf hΦ fl_X4_38 o1 dX4_readDriven_33 ?_
  obtain ⟨o7, h⟩ := h
  refine ex_if_ne 54 hΦ dX4_readDriven_36 (by decide) o7 (fun c => ?_) (fun c => ?_)
  · have h := h.1 c
    exact ex_returnv hΦ hR dX4_readDriven_54 h
  · have h := h.2 c
    refine ex_aload_n hΦ dX4_readDriven_39 rfl o3.1 ?_
    refine ex_iload_n hΦ dX4_readDriven_40 rfl ?_
    obtain ⟨m8, hm8⟩ : ∃ m : Mem, m = mu μ6 x1 3 r4 := ⟨_, rfl⟩
    have h := h m8 hm8
    refine ex_putf' hΦ fl_X4_96 o3 rfl rfl dX4_readDriven_41 hm8 ?_
    refine ex_aload_n hΦ dX4_readDriven_44 rfl o3.1 ?_
    refine ex_iload_n hΦ dX4_readDriven_45 rfl ?_
    obtain ⟨m9, hm9⟩ : ∃ m : Mem, m = mu m8 x1 4 r5 := ⟨_, rfl⟩
    have h := h m9 hm9
    refine ex_putf' hΦ fl_X4_99 o3 rfl rfl dX4_readDriven_46 hm9 ?_
    refine ex_aload_n hΦ dX4_readDriven_49 rfl o1.1 ?_
    refine ex_iconst hΦ dX4_readDriven_50 ?_
    obtain ⟨m10, hm10⟩ : ∃ m : Mem, m = mu m9 x0 5 1 := ⟨_, rfl⟩
    have h := h m10 hm10
    refine ex_putz' hΦ fl_X4_34 o1 rfl rfl (by decide) (by decide) dX4_readDriven_51 hm10 ?_
    exact ex_returnv hΦ hR dX4_readDriven_54 h
theorem bX4_readFeast_15 {G : Gm} {Φ : Fr} {S : List Sh} {μ : Mem} {Q : Mem → Prop} (hΦ : St G Φ cX4_readFeast RX4 4 2 45 0 0) (hR : Rt G Φ (Pv S Q) 0 0 none) {x0 x1 t0 t1 : Int} (h : So S t0 (.inl 4) ∧ (Cv G mX4_passWord [(2, t0), (0, t1)] S μ (fun μ2 => So S x0 (.inl 4) ∧ (So S x1 (.inl 6) ∧ (Ci G mX4_readNumber [(2, x0), (0, 0), (0, ((μ2 x1 0) - 1))] S μ2 (fun r5 μ5 => Ci G mX4_readNumber [(2, x0), (0, 0), (0, 29)] S μ5 (fun r6 μ6 => R32 (μ6 x0 6) ∧ (((μ6 x0 6) ≠ 0 → Cv G mX4_passEnd [(2, x0)] S μ6 (fun μ8 => R32 (μ8 x0 6) ∧ (((μ8 x0 6) ≠ 0 → Q μ8) ∧ ((μ8 x0 6) = 0 → Cv G mX6_addFeast [(2, x1), (0, r5), (0, r6)] S μ8 (fun μ10 => Q μ10))))) ∧ ((μ6 x0 6) = 0 → Ai S (μ6 x1 5) 0 r5 ∧ (R32 r6 ∧ (R32 (μ6 (μ6 x1 5) r5) ∧ ((r6 < (μ6 (μ6 x1 5) r5) → Cv G mX4_passEnd [(2, x0)] S μ6 (fun μ14 => R32 (μ14 x0 6) ∧ (((μ14 x0 6) ≠ 0 → Q μ14) ∧ ((μ14 x0 6) = 0 → Cv G mX6_addFeast [(2, x1), (0, r5), (0, r6)] S μ14 (fun μ16 => Q μ16))))) ∧ (¬ (r6 < (μ6 (μ6 x1 5) r5)) → Cv G mX4_fail [(2, x0), (0, 4), (0, (μ6 x0 4))] S μ6 (fun μ17 => Cv G mX4_passEnd [(2, x0)] S μ17 (fun μ18 => R32 (μ18 x0 6) ∧ (((μ18 x0 6) ≠ 0 → Q μ18) ∧ ((μ18 x0 6) = 0 → Cv G mX6_addFeast [(2, x1), (0, r5), (0, r6)] S μ18 (fun μ20 => Q μ20)))))))))))))))))) : Ex G Φ 4 15 [some (2, x0), some (2, x1), none, none] [(0, t1), (2, t0)] S μ 0 0 := by
  obtain ⟨o1, h⟩ := h
  refine ex_callVv [(0, t1)] [(0, t1), (2, t0)] hΦ lkV_X4_68 ⟨by decide, by decide⟩ (Nat.le_of_ble_eq_true rfl) rfl (by decide) 4 (by decide) rfl o1 dX4_readFeast_15 rfl h (fun μ2 h => ?_)
  obtain ⟨o3, h⟩ := h
  refine ex_aload_n hΦ dX4_readFeast_18 rfl o3.1 ?_
  refine ex_iconst hΦ dX4_readFeast_19 ?_
  obtain ⟨o4, h⟩ := h
  refine ex_aload_n hΦ dX4_readFeast_20 rfl o4.1 ?_
  refine ex_getf hΦ fl_X4_65 o4 dX4_readFeast_21 ?_
  refine ex_iconst hΦ dX4_readFeast_24 ?_
  refine ex_isub hΦ dX4_readFeast_25 ?_
  refine ex_callVi [(0, 0), (0, ((μ2 x1 0) - 1))] [(0, ((μ2 x1 0) - 1)), (0, 0), (2, x0)] hΦ lkV_X4_72 ⟨by decide, by decide⟩ (Nat.le_of_ble_eq_true rfl) rfl (by decide) 4 (by decide) rfl o3 dX4_readFeast_26 rfl h (fun r5 μ5 h => ?_)
  refine ex_istore_n (L' := [some (2, x0), some (2, x1), some (0, r5), none]) hΦ dX4_readFeast_29 (by decide) rfl ?_
  refine ex_aload_n hΦ dX4_readFeast_30 rfl o3.1 ?_
  refine ex_iconst hΦ dX4_readFeast_31 ?_
  refine ex_bipush hΦ dX4_readFeast_32 (by decide) ?_
  refine ex_callVi [(0, 0), (0, 29)] [(0, 29), (0, 0), (2, x0)] hΦ lkV_X4_72 ⟨by decide, by decide⟩ (Nat.le_of_ble_eq_true rfl) rfl (by decide) 4 (by decide) rfl o3 dX4_readFeast_34 rfl h (fun r6 μ6 h => ?_)
  refine ex_istore_n (L' := [some (2, x0), some (2, x1), some (0, r5), some (0, r6)]) hΦ dX4_readFeast_37 (by decide) rfl ?_
  refine ex_aload_n hΦ dX4_readFeast_38 rfl o3.1 ?_
  refine ex_getf hΦ fl_X4_38 o3 dX4_readFeast_39 ?_
  obtain ⟨o7, h⟩ := h
  refine ex_if_ne 64 hΦ dX4_readFeast_42 (by decide) o7 (fun c => ?_) (fun c => ?_)
  · have h := h.1 c
    refine ex_aload_n hΦ dX4_readFeast_64 rfl o3.1 ?_
    refine ex_callVv [] [(2, x0)] hΦ lkV_X4_76 ⟨by decide, by decide⟩ (Nat.le_of_ble_eq_true rfl) rfl (by decide) 4 (by decide) rfl o3 dX4_readFeast_65 rfl h (fun μ8 h => ?_)
    refine ex_aload_n hΦ dX4_readFeast_68 rfl o3.1 ?_
    refine ex_getf hΦ fl_X4_38 o3 dX4_readFeast_69 ?_
    obtain ⟨o9, h⟩ := h
    refine ex_if_ne 81 hΦ dX4_readFeast_72 (by decide) o9 (fun c => ?_) (fun c => ?_)
    · have h := h.1 c
      exact ex_returnv hΦ hR dX4_readFeast_81 h
    · have h := h.2 c
      refine ex_aload_n hΦ dX4_readFeast_75 rfl o4.1 ?_
      refine ex_iload_n hΦ dX4_readFeast_76 rfl ?_
      refine ex_iload_n hΦ dX4_readFeast_77 rfl ?_
      refine ex_callVv [(0, r5), (0, r6)] [(0, r6), (0, r5), (2, x1)] hΦ lkV_X4_109 ⟨by decide, by decide⟩ (Nat.le_of_ble_eq_true rfl) rfl (by decide) 6 (by decide) rfl o4 dX4_readFeast_78 rfl h (fun μ10 h => ?_)
      exact ex_returnv hΦ hR dX4_readFeast_81 h
  · have h := h.2 c
    refine ex_iload_n hΦ dX4_readFeast_45 rfl ?_
    refine ex_aload_n hΦ dX4_readFeast_46 rfl o4.1 ?_
    refine ex_getf hΦ fl_X4_105 o4 dX4_readFeast_47 ?_
    refine ex_iload_n hΦ dX4_readFeast_50 rfl ?_
    obtain ⟨o11, h⟩ := h
    refine ex_iald' hΦ o11 dX4_readFeast_51 ?_
    obtain ⟨o12, h⟩ := h
    obtain ⟨o13, h⟩ := h
    refine ex_icmp_lt 64 hΦ dX4_readFeast_52 (by decide) o12 o13 (fun c => ?_) (fun c => ?_)
    · have h := h.1 c
      refine ex_aload_n hΦ dX4_readFeast_64 rfl o3.1 ?_
      refine ex_callVv [] [(2, x0)] hΦ lkV_X4_76 ⟨by decide, by decide⟩ (Nat.le_of_ble_eq_true rfl) rfl (by decide) 4 (by decide) rfl o3 dX4_readFeast_65 rfl h (fun μ14 h => ?_)
      refine ex_aload_n hΦ dX4_readFeast_68 rfl o3.1 ?_
      refine ex_getf hΦ fl_X4_38 o3 dX4_readFeast_69 ?_
      obtain ⟨o15, h⟩ := h
      refine ex_if_ne 81 hΦ dX4_readFeast_72 (by decide) o15 (fun c => ?_) (fun c => ?_)
      · have h := h.1 c
        exact ex_returnv hΦ hR dX4_readFeast_81 h
      · have h := h.2 c
        refine ex_aload_n hΦ dX4_readFeast_75 rfl o4.1 ?_
        refine ex_iload_n hΦ dX4_readFeast_76 rfl ?_
        refine ex_iload_n hΦ dX4_readFeast_77 rfl ?_
        refine ex_callVv [(0, r5), (0, r6)] [(0, r6), (0, r5), (2, x1)] hΦ lkV_X4_109 ⟨by decide, by decide⟩ (Nat.le_of_ble_eq_true rfl) rfl (by decide) 6 (by decide) rfl o4 dX4_readFeast_78 rfl h (fun μ16 h => ?_)
        exact ex_returnv hΦ hR dX4_readFeast_81 h
    · have h := h.2 c
      refine ex_aload_n hΦ dX4_readFeast_55 rfl o3.1 ?_
      refine ex_iconst hΦ dX4_readFeast_56 ?_
      refine ex_aload_n hΦ dX4_readFeast_57 rfl o3.1 ?_
      refine ex_getf hΦ fl_X4_89 o3 dX4_readFeast_58 ?_
      refine ex_callVv [(0, 4), (0, (μ6 x0 4))] [(0, (μ6 x0 4)), (0, 4), (2, x0)] hΦ lkV_X4_61 ⟨by decide, by decide⟩ (Nat.le_of_ble_eq_true rfl) rfl (by decide) 4 (by decide) rfl o3 dX4_readFeast_61 rfl h (fun μ17 h => ?_)
      refine ex_aload_n hΦ dX4_readFeast_64 rfl o3.1 ?_
      refine ex_callVv [] [(2, x0)] hΦ lkV_X4_76 ⟨by decide, by decide⟩ (Nat.le_of_ble_eq_true rfl) rfl (by decide) 4 (by decide) rfl o3 dX4_readFeast_65 rfl h (fun μ18 h => ?_)
      refine ex_aload_n hΦ dX4_readFeast_68 rfl o3.1 ?_
      refine ex_getf hΦ fl_X4_38 o3 dX4_readFeast_69 ?_
      obtain ⟨o19, h⟩ := h
      refine ex_if_ne 81 hΦ dX4_readFeast_72 (by decide) o19 (fun c => ?_) (fun c => ?_)
      · have h := h.1 c
        exact ex_returnv hΦ hR dX4_readFeast_81 h
      · have h := h.2 c
        refine ex_aload_n hΦ dX4_readFeast_75 rfl o4.1 ?_
        refine ex_iload_n hΦ dX4_readFeast_76 rfl ?_
        refine ex_iload_n hΦ dX4_readFeast_77 rfl ?_
        refine ex_callVv [(0, r5), (0, r6)] [(0, r6), (0, r5), (2, x1)] hΦ lkV_X4_109 ⟨by decide, by decide⟩ (Nat.le_of_ble_eq_true rfl) rfl (by decide) 6 (by decide) rfl o4 dX4_readFeast_78 rfl h (fun μ20 h => ?_)
        exact ex_returnv hΦ hR dX4_readFeast_81 h
theorem eX4_readFeast {G : Gm} {S : List Sh} {μ : Mem} {Q : Mem → Prop} {x0 x1 : Int} (h : ∀ Φ : Fr, St G Φ cX4_readFeast RX4 4 2 45 0 0 → Rt G Φ (Pv S Q) 0 0 none → Ex G Φ 4 0 [some (2, x0), some (2, x1), none, none] [] S μ 0 0) : Cv G mX4_readFeast [(2, x0), (2, x1)] S μ Q :=
  call_of' (plainFor_of_name (by decide +kernel)) [some (2, x0), some (2, x1), none, none] rfl (Nat.le_of_ble_eq_true rfl) (fun Φ hΦ hR => h Φ hΦ hR)
theorem bX4_readFeast_0 {G : Gm} {Φ : Fr} {S : List Sh} {μ : Mem} {Q : Mem → Prop} (hΦ : St G Φ cX4_readFeast RX4 4 2 45 0 0) (hR : Rt G Φ (Pv S Q) 0 0 none) {x0 x1 : Int} (h : So S x0 (.inl 4) ∧ (So S x1 (.inl 6) ∧ (R32 (μ x1 2) ∧ (((μ x1 2) < 6 → Ex G Φ 4 15 [some (2, x0), some (2, x1), none, none] [(0, 0), (2, x0)] S μ 0 0) ∧ (¬ ((μ x1 2) < 6) → Ex G Φ 4 15 [some (2, x0), some (2, x1), none, none] [(0, 1), (2, x0)] S μ 0 0))))) : Ex G Φ 4 0 [some (2, x0), some (2, x1), none, none] [] S μ 0 0 := by
  obtain ⟨o1, h⟩ := h
  refine ex_aload_n hΦ dX4_readFeast_0 rfl o1.1 ?_
  obtain ⟨o2, h⟩ := h
  refine ex_aload_n hΦ dX4_readFeast_1 rfl o2.1 ?_
  refine ex_getf hΦ fl_X4_102 o2 dX4_readFeast_2 ?_
  refine ex_bipush hΦ dX4_readFeast_5 (by decide) ?_
  obtain ⟨o3, h⟩ := h
  refine ex_icmp_lt 14 hΦ dX4_readFeast_7 (by decide) o3 ⟨by decide, by decide⟩ (fun c => ?_) (fun c => ?_)
  · have h := h.1 c
    refine ex_iconst hΦ dX4_readFeast_14 ?_
    exact h
  · have h := h.2 c
    refine ex_iconst hΦ dX4_readFeast_10 ?_
    refine ex_goto 15 hΦ dX4_readFeast_11 (by decide) ?_
    exact h
theorem eX4_passWord {G : Gm} {S : List Sh} {μ : Mem} {Q : Mem → Prop} {x0 x1 : Int} (h : ∀ Φ : Fr, St G Φ cX4_passWord RX4 2 1 22 0 0 → Rt G Φ (Pv S Q) 0 0 none → Ex G Φ 2 0 [some (2, x0), some (0, x1)] [] S μ 0 0) : Cv G mX4_passWord [(2, x0), (0, x1)] S μ Q :=
  call_of' (plainFor_of_name (by decide +kernel)) [some (2, x0), some (0, x1)] rfl (Nat.le_of_ble_eq_true rfl) (fun Φ hΦ hR => h Φ hΦ hR)
theorem bX4_passWord_0 {G : Gm} {Φ : Fr} {S : List Sh} {μ : Mem} {Q : Mem → Prop} (hΦ : St G Φ cX4_passWord RX4 2 1 22 0 0) (hR : Rt G Φ (Pv S Q) 0 0 none) {x0 x1 : Int} (h : R32 x1 ∧ ((x1 = 0 → So S x0 (.inl 4) ∧ (∀ m3 : Mem, m3 = mu μ x0 3 ((μ x0 3) + 1) → (Q m3))) ∧ (¬ (x1 = 0) → So S x0 (.inl 4) ∧ (Cv G mX4_fail [(2, x0), (0, 3), (0, (μ x0 3))] S μ (fun μ5 => ∀ m6 : Mem, m6 = mu μ5 x0 3 ((μ5 x0 3) + 1) → (Q m6)))))) : Ex G Φ 2 0 [some (2, x0), some (0, x1)] [] S μ 0 0 := by
  refine ex_iload_n hΦ dX4_passWord_0 rfl ?_
  obtain ⟨o1, h⟩ := h
  refine ex_if_eq 13 hΦ dX4_passWord_1 (by decide) o1 (fun c => ?_) (fun c => ?_)
  · have h := h.1 c
    obtain ⟨o2, h⟩ := h
    refine ex_aload_n hΦ dX4_passWord_13 rfl o2.1 ?_
    refine ex_dup hΦ dX4_passWord_14 (Nat.ne_of_beq_eq_false rfl) ?_
    refine ex_getf hΦ fl_X4_31 o2 dX4_passWord_15 ?_
    refine ex_iconst hΦ dX4_passWord_18 ?_
    refine ex_iadd hΦ dX4_passWord_19 ?_
    obtain ⟨m3, hm3⟩ : ∃ m : Mem, m = mu μ x0 3 ((μ x0 3) + 1) := ⟨_, rfl⟩
    have h := h m3 hm3
    refine ex_putf' hΦ fl_X4_31 o2 rfl rfl dX4_passWord_20 hm3 ?_
    exact ex_returnv hΦ hR dX4_passWord_23 h
  · have h := h.2 c
    obtain ⟨o4, h⟩ := h
    refine ex_aload_n hΦ dX4_passWord_4 rfl o4.1 ?_
    refine ex_iconst hΦ dX4_passWord_5 ?_
    refine ex_aload_n hΦ dX4_passWord_6 rfl o4.1 ?_
    refine ex_getf hΦ fl_X4_31 o4 dX4_passWord_7 ?_
    refine ex_callVv [(0, 3), (0, (μ x0 3))] [(0, (μ x0 3)), (0, 3), (2, x0)] hΦ lkV_X4_61 ⟨by decide, by decide⟩ (Nat.le_of_ble_eq_true rfl) rfl (by decide) 4 (by decide) rfl o4 dX4_passWord_10 rfl h (fun μ5 h => ?_)
    refine ex_aload_n hΦ dX4_passWord_13 rfl o4.1 ?_
    refine ex_dup hΦ dX4_passWord_14 (Nat.ne_of_beq_eq_false rfl) ?_
    refine ex_getf hΦ fl_X4_31 o4 dX4_passWord_15 ?_
    refine ex_iconst hΦ dX4_passWord_18 ?_
    refine ex_iadd hΦ dX4_passWord_19 ?_
    obtain ⟨m6, hm6⟩ : ∃ m : Mem, m = mu μ5 x0 3 ((μ5 x0 3) + 1) := ⟨_, rfl⟩
    have h := h m6 hm6
    refine ex_putf' hΦ fl_X4_31 o4 rfl rfl dX4_passWord_20 hm6 ?_
    exact ex_returnv hΦ hR dX4_passWord_23 h
theorem eX4_passEnd {G : Gm} {S : List Sh} {μ : Mem} {Q : Mem → Prop} {x0 : Int} (h : ∀ Φ : Fr, St G Φ cX4_passEnd RX4 1 1 22 0 0 → Rt G Φ (Pv S Q) 0 0 none → Ex G Φ 1 0 [some (2, x0)] [] S μ 0 0) : Cv G mX4_passEnd [(2, x0)] S μ Q :=
  call_of' (plainFor_of_name (by decide +kernel)) [some (2, x0)] rfl (Nat.le_of_ble_eq_true rfl) (fun Φ hΦ hR => h Φ hΦ hR)
theorem bX4_passEnd_0 {G : Gm} {Φ : Fr} {S : List Sh} {μ : Mem} {Q : Mem → Prop} (hΦ : St G Φ cX4_passEnd RX4 1 1 22 0 0) (hR : Rt G Φ (Pv S Q) 0 0 none) {x0 : Int} (h : So S x0 (.inl 4) ∧ (Cv G mX4_skipBlanks [(2, x0)] S μ (fun μ2 => R32 (μ2 x0 3) ∧ (R32 (μ2 x0 2) ∧ (((μ2 x0 2) ≤ (μ2 x0 3) → Cv G mX4_fail [(2, x0), (0, 1), (0, (μ2 x0 3))] S μ2 (fun μ5 => Q μ5)) ∧ (¬ ((μ2 x0 2) ≤ (μ2 x0 3)) → Ai S (μ2 x0 0) 2 (μ2 x0 3) ∧ (R32 (μ2 (μ2 x0 0) (μ2 x0 3)) ∧ (((μ2 (μ2 x0 0) (μ2 x0 3)) ≠ 59 → Cv G mX4_fail [(2, x0), (0, 1), (0, (μ2 x0 3))] S μ2 (fun μ8 => Q μ8)) ∧ ((μ2 (μ2 x0 0) (μ2 x0 3)) = 59 → ∀ m9 : Mem, m9 = mu μ2 x0 3 ((μ2 x0 3) + 1) → (Q m9)))))))))) : Ex G Φ 1 0 [some (2, x0)] [] S μ 0 0 := by
  obtain ⟨o1, h⟩ := h
  refine ex_aload_n hΦ dX4_passEnd_0 rfl o1.1 ?_
  refine ex_callVv [] [(2, x0)] hΦ lkV_X4_41 ⟨by decide, by decide⟩ (Nat.le_of_ble_eq_true rfl) rfl (by decide) 4 (by decide) rfl o1 dX4_passEnd_1 rfl h (fun μ2 h => ?_)
  refine ex_aload_n hΦ dX4_passEnd_4 rfl o1.1 ?_
  refine ex_getf hΦ fl_X4_31 o1 dX4_passEnd_5 ?_
  refine ex_aload_n hΦ dX4_passEnd_8 rfl o1.1 ?_
  refine ex_getf hΦ fl_X4_28 o1 dX4_passEnd_9 ?_
  obtain ⟨o3, h⟩ := h
  obtain ⟨o4, h⟩ := h
  refine ex_icmp_ge 42 hΦ dX4_passEnd_12 (by decide) o3 o4 (fun c => ?_) (fun c => ?_)
  · have h := h.1 c
    refine ex_aload_n hΦ dX4_passEnd_42 rfl o1.1 ?_
    refine ex_iconst hΦ dX4_passEnd_43 ?_
    refine ex_aload_n hΦ dX4_passEnd_44 rfl o1.1 ?_
    refine ex_getf hΦ fl_X4_31 o1 dX4_passEnd_45 ?_
    refine ex_callVv [(0, 1), (0, (μ2 x0 3))] [(0, (μ2 x0 3)), (0, 1), (2, x0)] hΦ lkV_X4_61 ⟨by decide, by decide⟩ (Nat.le_of_ble_eq_true rfl) rfl (by decide) 4 (by decide) rfl o1 dX4_passEnd_48 rfl h (fun μ5 h => ?_)
    exact ex_returnv hΦ hR dX4_passEnd_51 h
  · have h := h.2 c
    refine ex_aload_n hΦ dX4_passEnd_15 rfl o1.1 ?_
    refine ex_getf hΦ fl_X4_9 o1 dX4_passEnd_16 ?_
    refine ex_aload_n hΦ dX4_passEnd_19 rfl o1.1 ?_
    refine ex_getf hΦ fl_X4_31 o1 dX4_passEnd_20 ?_
    obtain ⟨o6, h⟩ := h
    refine ex_cald' hΦ o6 dX4_passEnd_23 ?_
    refine ex_bipush hΦ dX4_passEnd_24 (by decide) ?_
    obtain ⟨o7, h⟩ := h
    refine ex_icmp_ne 42 hΦ dX4_passEnd_26 (by decide) o7 ⟨by decide, by decide⟩ (fun c => ?_) (fun c => ?_)
    · have h := h.1 c
      refine ex_aload_n hΦ dX4_passEnd_42 rfl o1.1 ?_
      refine ex_iconst hΦ dX4_passEnd_43 ?_
      refine ex_aload_n hΦ dX4_passEnd_44 rfl o1.1 ?_
      refine ex_getf hΦ fl_X4_31 o1 dX4_passEnd_45 ?_
      refine ex_callVv [(0, 1), (0, (μ2 x0 3))] [(0, (μ2 x0 3)), (0, 1), (2, x0)] hΦ lkV_X4_61 ⟨by decide, by decide⟩ (Nat.le_of_ble_eq_true rfl) rfl (by decide) 4 (by decide) rfl o1 dX4_passEnd_48 rfl h (fun μ8 h => ?_)
      exact ex_returnv hΦ hR dX4_passEnd_51 h
    · have h := h.2 c
      refine ex_aload_n hΦ dX4_passEnd_29 rfl o1.1 ?_
      refine ex_dup hΦ dX4_passEnd_30 (Nat.ne_of_beq_eq_false rfl) ?_
      refine ex_getf hΦ fl_X4_31 o1 dX4_passEnd_31 ?_
      refine ex_iconst hΦ dX4_passEnd_34 ?_
      refine ex_iadd hΦ dX4_passEnd_35 ?_
      obtain ⟨m9, hm9⟩ : ∃ m : Mem, m = mu μ2 x0 3 ((μ2 x0 3) + 1) := ⟨_, rfl⟩
      have h := h m9 hm9
      refine ex_putf' hΦ fl_X4_31 o1 rfl rfl dX4_passEnd_36 hm9 ?_
      refine ex_goto 51 hΦ dX4_passEnd_39 (by decide) ?_
      exact ex_returnv hΦ hR dX4_passEnd_51 h
theorem bX4_readKind_29 {G : Gm} {Φ : Fr} {S : List Sh} {μ : Mem} {Q : Int → Mem → Prop} (hΦ : St G Φ cX4_readKind RX4 3 1 22 0 0) (hR : Rt G Φ (Pi S Q) 0 0 (some .int)) {x0 t0 : Int} (h : R32 t0 ∧ ((t0 ≠ 109 → (t0 ≠ 98 → (t0 ≠ 97 → Ex G Φ 3 61 [some (2, x0), some (0, t0), none] [(0, (-1))] S μ 0 0) ∧ (t0 = 97 → Ex G Φ 3 61 [some (2, x0), some (0, t0), none] [(0, 2)] S μ 0 0)) ∧ (t0 = 98 → Ex G Φ 3 61 [some (2, x0), some (0, t0), none] [(0, 1)] S μ 0 0)) ∧ (t0 = 109 → Ex G Φ 3 61 [some (2, x0), some (0, t0), none] [(0, 0)] S μ 0 0))) : Ex G Φ 3 29 [some (2, x0), none, none] [(0, t0)] S μ 0 0 := by
  refine ex_istore_n (L' := [some (2, x0), some (0, t0), none]) hΦ dX4_readKind_29 (by decide) rfl ?_
  refine ex_iload_n hΦ dX4_readKind_30 rfl ?_
  refine ex_bipush hΦ dX4_readKind_31 (by decide) ?_
  obtain ⟨o1, h⟩ := h
  refine ex_icmp_ne 40 hΦ dX4_readKind_33 (by decide) o1 ⟨by decide, by decide⟩ (fun c => ?_) (fun c => ?_)
  · have h := h.1 c
    refine ex_iload_n hΦ dX4_readKind_40 rfl ?_
    refine ex_bipush hΦ dX4_readKind_41 (by decide) ?_
    refine ex_icmp_ne 50 hΦ dX4_readKind_43 (by decide) o1 ⟨by decide, by decide⟩ (fun c => ?_) (fun c => ?_)
    · have h := h.1 c
      refine ex_iload_n hΦ dX4_readKind_50 rfl ?_
      refine ex_bipush hΦ dX4_readKind_51 (by decide) ?_
      refine ex_icmp_ne 60 hΦ dX4_readKind_53 (by decide) o1 ⟨by decide, by decide⟩ (fun c => ?_) (fun c => ?_)
      · have h := h.1 c
        refine ex_iconst hΦ dX4_readKind_60 ?_
        exact h
      · have h := h.2 c
        refine ex_iconst hΦ dX4_readKind_56 ?_
        refine ex_goto 61 hΦ dX4_readKind_57 (by decide) ?_
        exact h
    · have h := h.2 c
      refine ex_iconst hΦ dX4_readKind_46 ?_
      refine ex_goto 61 hΦ dX4_readKind_47 (by decide) ?_
      exact h
  · have h := h.2 c
    refine ex_iconst hΦ dX4_readKind_36 ?_
    refine ex_goto 61 hΦ dX4_readKind_37 (by decide) ?_
    exact h
theorem bX4_readKind_61 {G : Gm} {Φ : Fr} {S : List Sh} {μ : Mem} {Q : Int → Mem → Prop} (hΦ : St G Φ cX4_readKind RX4 3 1 22 0 0) (hR : Rt G Φ (Pi S Q) 0 0 (some .int)) {x0 x1 t0 : Int} (h : R32 t0 ∧ ((t0 ≠ (-1) → So S x0 (.inl 4) ∧ (∀ m3 : Mem, m3 = mu μ x0 3 ((μ x0 3) + 1) → (Q t0 m3))) ∧ (t0 = (-1) → So S x0 (.inl 4) ∧ (Cv G mX4_fail [(2, x0), (0, 1), (0, (μ x0 3))] S μ (fun μ5 => ∀ m6 : Mem, m6 = mu μ5 x0 3 ((μ5 x0 3) + 1) → (Q t0 m6)))))) : Ex G Φ 3 61 [some (2, x0), some (0, x1), none] [(0, t0)] S μ 0 0 := by
  refine ex_istore_n (L' := [some (2, x0), some (0, x1), some (0, t0)]) hΦ dX4_readKind_61 (by decide) rfl ?_
  refine ex_iload_n hΦ dX4_readKind_62 rfl ?_
  refine ex_iconst hΦ dX4_readKind_63 ?_
  obtain ⟨o1, h⟩ := h
  refine ex_icmp_ne 76 hΦ dX4_readKind_64 (by decide) o1 ⟨by decide, by decide⟩ (fun c => ?_) (fun c => ?_)
  · have h := h.1 c
    obtain ⟨o2, h⟩ := h
    refine ex_aload_n hΦ dX4_readKind_76 rfl o2.1 ?_
    refine ex_dup hΦ dX4_readKind_77 (Nat.ne_of_beq_eq_false rfl) ?_
    refine ex_getf hΦ fl_X4_31 o2 dX4_readKind_78 ?_
    refine ex_iconst hΦ dX4_readKind_81 ?_
    refine ex_iadd hΦ dX4_readKind_82 ?_
    obtain ⟨m3, hm3⟩ : ∃ m : Mem, m = mu μ x0 3 ((μ x0 3) + 1) := ⟨_, rfl⟩
    have h := h m3 hm3
    refine ex_putf' hΦ fl_X4_31 o2 rfl rfl dX4_readKind_83 hm3 ?_
    refine ex_iload_n hΦ dX4_readKind_86 rfl ?_
    exact ex_returni hΦ hR dX4_readKind_87 h
  · have h := h.2 c
    obtain ⟨o4, h⟩ := h
    refine ex_aload_n hΦ dX4_readKind_67 rfl o4.1 ?_
    refine ex_iconst hΦ dX4_readKind_68 ?_
    refine ex_aload_n hΦ dX4_readKind_69 rfl o4.1 ?_
    refine ex_getf hΦ fl_X4_31 o4 dX4_readKind_70 ?_
    refine ex_callVv [(0, 1), (0, (μ x0 3))] [(0, (μ x0 3)), (0, 1), (2, x0)] hΦ lkV_X4_61 ⟨by decide, by decide⟩ (Nat.le_of_ble_eq_true rfl) rfl (by decide) 4 (by decide) rfl o4 dX4_readKind_73 rfl h (fun μ5 h => ?_)
    refine ex_aload_n hΦ dX4_readKind_76 rfl o4.1 ?_
    refine ex_dup hΦ dX4_readKind_77 (Nat.ne_of_beq_eq_false rfl) ?_
    refine ex_getf hΦ fl_X4_31 o4 dX4_readKind_78 ?_
    refine ex_iconst hΦ dX4_readKind_81 ?_
    refine ex_iadd hΦ dX4_readKind_82 ?_
    obtain ⟨m6, hm6⟩ : ∃ m : Mem, m = mu μ5 x0 3 ((μ5 x0 3) + 1) := ⟨_, rfl⟩
    have h := h m6 hm6
    refine ex_putf' hΦ fl_X4_31 o4 rfl rfl dX4_readKind_83 hm6 ?_
    refine ex_iload_n hΦ dX4_readKind_86 rfl ?_
    exact ex_returni hΦ hR dX4_readKind_87 h
theorem eX4_readKind {G : Gm} {S : List Sh} {μ : Mem} {Q : Int → Mem → Prop} {x0 : Int} (h : ∀ Φ : Fr, St G Φ cX4_readKind RX4 3 1 22 0 0 → Rt G Φ (Pi S Q) 0 0 (some .int) → Ex G Φ 3 0 [some (2, x0), none, none] [] S μ 0 0) : Ci G mX4_readKind [(2, x0)] S μ Q :=
  call_of' (plainFor_of_name (by decide +kernel)) [some (2, x0), none, none] rfl (Nat.le_of_ble_eq_true rfl) (fun Φ hΦ hR => h Φ hΦ hR)
theorem bX4_readKind_0 {G : Gm} {Φ : Fr} {S : List Sh} {μ : Mem} {Q : Int → Mem → Prop} (hΦ : St G Φ cX4_readKind RX4 3 1 22 0 0) (hR : Rt G Φ (Pi S Q) 0 0 (some .int)) {x0 : Int} (h : So S x0 (.inl 4) ∧ (Cv G mX4_skipBlanks [(2, x0)] S μ (fun μ2 => R32 (μ2 x0 3) ∧ (R32 (μ2 x0 2) ∧ (((μ2 x0 2) ≤ (μ2 x0 3) → Ex G Φ 3 29 [some (2, x0), none, none] [(0, 32)] S μ2 0 0) ∧ (¬ ((μ2 x0 2) ≤ (μ2 x0 3)) → Ai S (μ2 x0 0) 2 (μ2 x0 3) ∧ Ex G Φ 3 29 [some (2, x0), none, none] [(0, (μ2 (μ2 x0 0) (μ2 x0 3)))] S μ2 0 0)))))) : Ex G Φ 3 0 [some (2, x0), none, none] [] S μ 0 0 := by
  obtain ⟨o1, h⟩ := h
  refine ex_aload_n hΦ dX4_readKind_0 rfl o1.1 ?_
  refine ex_callVv [] [(2, x0)] hΦ lkV_X4_41 ⟨by decide, by decide⟩ (Nat.le_of_ble_eq_true rfl) rfl (by decide) 4 (by decide) rfl o1 dX4_readKind_1 rfl h (fun μ2 h => ?_)
  refine ex_aload_n hΦ dX4_readKind_4 rfl o1.1 ?_
  refine ex_getf hΦ fl_X4_31 o1 dX4_readKind_5 ?_
  refine ex_aload_n hΦ dX4_readKind_8 rfl o1.1 ?_
  refine ex_getf hΦ fl_X4_28 o1 dX4_readKind_9 ?_
  obtain ⟨o3, h⟩ := h
  obtain ⟨o4, h⟩ := h
  refine ex_icmp_ge 27 hΦ dX4_readKind_12 (by decide) o3 o4 (fun c => ?_) (fun c => ?_)
  · have h := h.1 c
    refine ex_bipush hΦ dX4_readKind_27 (by decide) ?_
    exact h
  · have h := h.2 c
    refine ex_aload_n hΦ dX4_readKind_15 rfl o1.1 ?_
    refine ex_getf hΦ fl_X4_9 o1 dX4_readKind_16 ?_
    refine ex_aload_n hΦ dX4_readKind_19 rfl o1.1 ?_
    refine ex_getf hΦ fl_X4_31 o1 dX4_readKind_20 ?_
    obtain ⟨o5, h⟩ := h
    refine ex_cald' hΦ o5 dX4_readKind_23 ?_
    refine ex_goto 29 hΦ dX4_readKind_24 (by decide) ?_
    exact h
theorem bX4_readNumber_14 {G : Gm} {Φ : Fr} {S : List Sh} {μ : Mem} {Q : Int → Mem → Prop} (hΦ : St G Φ cX4_readNumber RX4 4 1 22 0 0) (hR : Rt G Φ (Pi S Q) 0 0 (some .int)) {x0 x1 x2 x3 : Int} (h : So S x0 (.inl 4) ∧ (R32 (μ x0 3) ∧ (R32 (μ x0 2) ∧ (((μ x0 2) ≤ (μ x0 3) → Ex G Φ 4 97 [some (2, x0), some (0, x1), some (0, x2), some (0, x3)] [] S μ 0 0) ∧ (¬ ((μ x0 2) ≤ (μ x0 3)) → Ai S (μ x0 0) 2 (μ x0 3) ∧ (R32 (μ (μ x0 0) (μ x0 3)) ∧ (((μ (μ x0 0) (μ x0 3)) < 48 → Ex G Φ 4 97 [some (2, x0), some (0, x1), some (0, x2), some (0, x3)] [] S μ 0 0) ∧ (¬ ((μ (μ x0 0) (μ x0 3)) < 48) → (57 < (μ (μ x0 0) (μ x0 3)) → Ex G Φ 4 97 [some (2, x0), some (0, x1), some (0, x2), some (0, x3)] [] S μ 0 0) ∧ (¬ (57 < (μ (μ x0 0) (μ x0 3))) → R32 ((μ x0 3) - (μ x0 4)) ∧ ((4 ≤ ((μ x0 3) - (μ x0 4)) → ∀ m7 : Mem, m7 = mu μ x0 3 ((μ x0 3) + 1) → (Ex G Φ 4 14 [some (2, x0), some (0, x1), some (0, x2), some (0, x3)] [] S m7 0 0)) ∧ (¬ (4 ≤ ((μ x0 3) - (μ x0 4))) → ∀ m8 : Mem, m8 = mu μ x0 3 ((μ x0 3) + 1) → (Ex G Φ 4 14 [some (2, x0), some (0, x1), some (0, x2), some (0, (((10 * x3) + (μ (μ x0 0) (μ x0 3))) - 48))] [] S m8 0 0)))))))))))) : Ex G Φ 4 14 [some (2, x0), some (0, x1), some (0, x2), some (0, x3)] [] S μ 0 0 := by
  obtain ⟨o1, h⟩ := h
  refine ex_aload_n hΦ dX4_readNumber_14 rfl o1.1 ?_
  refine ex_getf hΦ fl_X4_31 o1 dX4_readNumber_15 ?_
  refine ex_aload_n hΦ dX4_readNumber_18 rfl o1.1 ?_
  refine ex_getf hΦ fl_X4_28 o1 dX4_readNumber_19 ?_
  obtain ⟨o2, h⟩ := h
  obtain ⟨o3, h⟩ := h
  refine ex_icmp_ge 97 hΦ dX4_readNumber_22 (by decide) o2 o3 (fun c => ?_) (fun c => ?_)
  · have h := h.1 c
    exact h
  · have h := h.2 c
    refine ex_aload_n hΦ dX4_readNumber_25 rfl o1.1 ?_
    refine ex_getf hΦ fl_X4_9 o1 dX4_readNumber_26 ?_
    refine ex_aload_n hΦ dX4_readNumber_29 rfl o1.1 ?_
    refine ex_getf hΦ fl_X4_31 o1 dX4_readNumber_30 ?_
    obtain ⟨o4, h⟩ := h
    refine ex_cald' hΦ o4 dX4_readNumber_33 ?_
    refine ex_bipush hΦ dX4_readNumber_34 (by decide) ?_
    obtain ⟨o5, h⟩ := h
    refine ex_icmp_lt 97 hΦ dX4_readNumber_36 (by decide) o5 ⟨by decide, by decide⟩ (fun c => ?_) (fun c => ?_)
    · have h := h.1 c
      exact h
    · have h := h.2 c
      refine ex_aload_n hΦ dX4_readNumber_39 rfl o1.1 ?_
      refine ex_getf hΦ fl_X4_9 o1 dX4_readNumber_40 ?_
      refine ex_aload_n hΦ dX4_readNumber_43 rfl o1.1 ?_
      refine ex_getf hΦ fl_X4_31 o1 dX4_readNumber_44 ?_
      refine ex_cald' hΦ o4 dX4_readNumber_47 ?_
      refine ex_bipush hΦ dX4_readNumber_48 (by decide) ?_
      refine ex_icmp_gt 97 hΦ dX4_readNumber_50 (by decide) o5 ⟨by decide, by decide⟩ (fun c => ?_) (fun c => ?_)
      · have h := h.1 c
        exact h
      · have h := h.2 c
        refine ex_aload_n hΦ dX4_readNumber_53 rfl o1.1 ?_
        refine ex_getf hΦ fl_X4_31 o1 dX4_readNumber_54 ?_
        refine ex_aload_n hΦ dX4_readNumber_57 rfl o1.1 ?_
        refine ex_getf hΦ fl_X4_89 o1 dX4_readNumber_58 ?_
        refine ex_isub hΦ dX4_readNumber_61 ?_
        refine ex_iconst hΦ dX4_readNumber_62 ?_
        obtain ⟨o6, h⟩ := h
        refine ex_icmp_ge 84 hΦ dX4_readNumber_63 (by decide) o6 ⟨by decide, by decide⟩ (fun c => ?_) (fun c => ?_)
        · have h := h.1 c
          refine ex_aload_n hΦ dX4_readNumber_84 rfl o1.1 ?_
          refine ex_dup hΦ dX4_readNumber_85 (Nat.ne_of_beq_eq_false rfl) ?_
          refine ex_getf hΦ fl_X4_31 o1 dX4_readNumber_86 ?_
          refine ex_iconst hΦ dX4_readNumber_89 ?_
          refine ex_iadd hΦ dX4_readNumber_90 ?_
          obtain ⟨m7, hm7⟩ : ∃ m : Mem, m = mu μ x0 3 ((μ x0 3) + 1) := ⟨_, rfl⟩
          have h := h m7 hm7
          refine ex_putf' hΦ fl_X4_31 o1 rfl rfl dX4_readNumber_91 hm7 ?_
          refine ex_goto 14 hΦ dX4_readNumber_94 (by decide) ?_
          exact h
        · have h := h.2 c
          refine ex_bipush hΦ dX4_readNumber_66 (by decide) ?_
          refine ex_iload_n hΦ dX4_readNumber_68 rfl ?_
          refine ex_imul hΦ dX4_readNumber_69 ?_
          refine ex_aload_n hΦ dX4_readNumber_70 rfl o1.1 ?_
          refine ex_getf hΦ fl_X4_9 o1 dX4_readNumber_71 ?_
          refine ex_aload_n hΦ dX4_readNumber_74 rfl o1.1 ?_
          refine ex_getf hΦ fl_X4_31 o1 dX4_readNumber_75 ?_
          refine ex_cald' hΦ o4 dX4_readNumber_78 ?_
          refine ex_iadd hΦ dX4_readNumber_79 ?_
          refine ex_bipush hΦ dX4_readNumber_80 (by decide) ?_
          refine ex_isub hΦ dX4_readNumber_82 ?_
          refine ex_istore_n (L' := [some (2, x0), some (0, x1), some (0, x2), some (0, (((10 * x3) + (μ (μ x0 0) (μ x0 3))) - 48))]) hΦ dX4_readNumber_83 (by decide) rfl ?_
          refine ex_aload_n hΦ dX4_readNumber_84 rfl o1.1 ?_
          refine ex_dup hΦ dX4_readNumber_85 (Nat.ne_of_beq_eq_false rfl) ?_
          refine ex_getf hΦ fl_X4_31 o1 dX4_readNumber_86 ?_
          refine ex_iconst hΦ dX4_readNumber_89 ?_
          refine ex_iadd hΦ dX4_readNumber_90 ?_
          obtain ⟨m8, hm8⟩ : ∃ m : Mem, m = mu μ x0 3 ((μ x0 3) + 1) := ⟨_, rfl⟩
          have h := h m8 hm8
          refine ex_putf' hΦ fl_X4_31 o1 rfl rfl dX4_readNumber_91 hm8 ?_
          refine ex_goto 14 hΦ dX4_readNumber_94 (by decide) ?_
          exact h
theorem bX4_readNumber_97 {G : Gm} {Φ : Fr} {S : List Sh} {μ : Mem} {Q : Int → Mem → Prop} (hΦ : St G Φ cX4_readNumber RX4 4 1 22 0 0) (hR : Rt G Φ (Pi S Q) 0 0 (some .int)) {x0 x1 x2 x3 : Int} (h : So S x0 (.inl 4) ∧ (R32 (μ x0 3) ∧ (R32 (μ x0 4) ∧ (((μ x0 3) ≠ (μ x0 4) → R32 ((μ x0 3) - (μ x0 4)) ∧ ((3 < ((μ x0 3) - (μ x0 4)) → Cv G mX4_fail [(2, x0), (0, 2), (0, (μ x0 4))] S μ (fun μ5 => Q x3 μ5)) ∧ (¬ (3 < ((μ x0 3) - (μ x0 4))) → R32 x3 ∧ (R32 x1 ∧ ((x3 < x1 → Cv G mX4_fail [(2, x0), (0, 2), (0, (μ x0 4))] S μ (fun μ8 => Q x3 μ8)) ∧ (¬ (x3 < x1) → R32 x2 ∧ ((x3 ≤ x2 → Q x3 μ) ∧ (¬ (x3 ≤ x2) → Cv G mX4_fail [(2, x0), (0, 2), (0, (μ x0 4))] S μ (fun μ10 => Q x3 μ10))))))))) ∧ ((μ x0 3) = (μ x0 4) → Cv G mX4_fail [(2, x0), (0, 1), (0, (μ x0 3))] S μ (fun μ11 => Q x3 μ11)))))) : Ex G Φ 4 97 [some (2, x0), some (0, x1), some (0, x2), some (0, x3)] [] S μ 0 0 := by
  obtain ⟨o1, h⟩ := h
  refine ex_aload_n hΦ dX4_readNumber_97 rfl o1.1 ?_
  refine ex_getf hΦ fl_X4_31 o1 dX4_readNumber_98 ?_
  refine ex_aload_n hΦ dX4_readNumber_101 rfl o1.1 ?_
  refine ex_getf hΦ fl_X4_89 o1 dX4_readNumber_102 ?_
  obtain ⟨o2, h⟩ := h
  obtain ⟨o3, h⟩ := h
  refine ex_icmp_ne 120 hΦ dX4_readNumber_105 (by decide) o2 o3 (fun c => ?_) (fun c => ?_)
  · have h := h.1 c
    refine ex_aload_n hΦ dX4_readNumber_120 rfl o1.1 ?_
    refine ex_getf hΦ fl_X4_31 o1 dX4_readNumber_121 ?_
    refine ex_aload_n hΦ dX4_readNumber_124 rfl o1.1 ?_
    refine ex_getf hΦ fl_X4_89 o1 dX4_readNumber_125 ?_
    refine ex_isub hΦ dX4_readNumber_128 ?_
    refine ex_iconst hΦ dX4_readNumber_129 ?_
    obtain ⟨o4, h⟩ := h
    refine ex_icmp_gt 143 hΦ dX4_readNumber_130 (by decide) o4 ⟨by decide, by decide⟩ (fun c => ?_) (fun c => ?_)
    · have h := h.1 c
      refine ex_aload_n hΦ dX4_readNumber_143 rfl o1.1 ?_
      refine ex_iconst hΦ dX4_readNumber_144 ?_
      refine ex_aload_n hΦ dX4_readNumber_145 rfl o1.1 ?_
      refine ex_getf hΦ fl_X4_89 o1 dX4_readNumber_146 ?_
      refine ex_callVv [(0, 2), (0, (μ x0 4))] [(0, (μ x0 4)), (0, 2), (2, x0)] hΦ lkV_X4_61 ⟨by decide, by decide⟩ (Nat.le_of_ble_eq_true rfl) rfl (by decide) 4 (by decide) rfl o1 dX4_readNumber_149 rfl h (fun μ5 h => ?_)
      refine ex_iload_n hΦ dX4_readNumber_152 rfl ?_
      exact ex_returni hΦ hR dX4_readNumber_153 h
    · have h := h.2 c
      refine ex_iload_n hΦ dX4_readNumber_133 rfl ?_
      refine ex_iload_n hΦ dX4_readNumber_134 rfl ?_
      obtain ⟨o6, h⟩ := h
      obtain ⟨o7, h⟩ := h
      refine ex_icmp_lt 143 hΦ dX4_readNumber_135 (by decide) o6 o7 (fun c => ?_) (fun c => ?_)
      · have h := h.1 c
        refine ex_aload_n hΦ dX4_readNumber_143 rfl o1.1 ?_
        refine ex_iconst hΦ dX4_readNumber_144 ?_
        refine ex_aload_n hΦ dX4_readNumber_145 rfl o1.1 ?_
        refine ex_getf hΦ fl_X4_89 o1 dX4_readNumber_146 ?_
        refine ex_callVv [(0, 2), (0, (μ x0 4))] [(0, (μ x0 4)), (0, 2), (2, x0)] hΦ lkV_X4_61 ⟨by decide, by decide⟩ (Nat.le_of_ble_eq_true rfl) rfl (by decide) 4 (by decide) rfl o1 dX4_readNumber_149 rfl h (fun μ8 h => ?_)
        refine ex_iload_n hΦ dX4_readNumber_152 rfl ?_
        exact ex_returni hΦ hR dX4_readNumber_153 h
      · have h := h.2 c
        refine ex_iload_n hΦ dX4_readNumber_138 rfl ?_
        refine ex_iload_n hΦ dX4_readNumber_139 rfl ?_
        obtain ⟨o9, h⟩ := h
        refine ex_icmp_le 152 hΦ dX4_readNumber_140 (by decide) o6 o9 (fun c => ?_) (fun c => ?_)
        · have h := h.1 c
          refine ex_iload_n hΦ dX4_readNumber_152 rfl ?_
          exact ex_returni hΦ hR dX4_readNumber_153 h
        · have h := h.2 c
          refine ex_aload_n hΦ dX4_readNumber_143 rfl o1.1 ?_
          refine ex_iconst hΦ dX4_readNumber_144 ?_
          refine ex_aload_n hΦ dX4_readNumber_145 rfl o1.1 ?_
          refine ex_getf hΦ fl_X4_89 o1 dX4_readNumber_146 ?_
          refine ex_callVv [(0, 2), (0, (μ x0 4))] [(0, (μ x0 4)), (0, 2), (2, x0)] hΦ lkV_X4_61 ⟨by decide, by decide⟩ (Nat.le_of_ble_eq_true rfl) rfl (by decide) 4 (by decide) rfl o1 dX4_readNumber_149 rfl h (fun μ10 h => ?_)
          refine ex_iload_n hΦ dX4_readNumber_152 rfl ?_
          exact ex_returni hΦ hR dX4_readNumber_153 h
  · have h := h.2 c
    refine ex_aload_n hΦ dX4_readNumber_108 rfl o1.1 ?_
    refine ex_iconst hΦ dX4_readNumber_109 ?_
    refine ex_aload_n hΦ dX4_readNumber_110 rfl o1.1 ?_
    refine ex_getf hΦ fl_X4_31 o1 dX4_readNumber_111 ?_
    refine ex_callVv [(0, 1), (0, (μ x0 3))] [(0, (μ x0 3)), (0, 1), (2, x0)] hΦ lkV_X4_61 ⟨by decide, by decide⟩ (Nat.le_of_ble_eq_true rfl) rfl (by decide) 4 (by decide) rfl o1 dX4_readNumber_114 rfl h (fun μ11 h => ?_)
    refine ex_goto 152 hΦ dX4_readNumber_117 (by decide) ?_
    refine ex_iload_n hΦ dX4_readNumber_152 rfl ?_
    exact ex_returni hΦ hR dX4_readNumber_153 h
theorem eX4_readNumber {G : Gm} {S : List Sh} {μ : Mem} {Q : Int → Mem → Prop} {x0 x1 x2 : Int} (h : ∀ Φ : Fr, St G Φ cX4_readNumber RX4 4 1 22 0 0 → Rt G Φ (Pi S Q) 0 0 (some .int) → Ex G Φ 4 0 [some (2, x0), some (0, x1), some (0, x2), none] [] S μ 0 0) : Ci G mX4_readNumber [(2, x0), (0, x1), (0, x2)] S μ Q :=
  call_of' (plainFor_of_name (by decide +kernel)) [some (2, x0), some (0, x1), some (0, x2), none] rfl (Nat.le_of_ble_eq_true rfl) (fun Φ hΦ hR => h Φ hΦ hR)
theorem bX4_readNumber_0 {G : Gm} {Φ : Fr} {S : List Sh} {μ : Mem} {Q : Int → Mem → Prop} (hΦ : St G Φ cX4_readNumber RX4 4 1 22 0 0) (hR : Rt G Φ (Pi S Q) 0 0 (some .int)) {x0 x1 x2 : Int} (h : So S x0 (.inl 4) ∧ (Cv G mX4_skipBlanks [(2, x0)] S μ (fun μ2 => ∀ m3 : Mem, m3 = mu μ2 x0 4 (μ2 x0 3) → (Ex G Φ 4 14 [some (2, x0), some (0, x1), some (0, x2), some (0, 0)] [] S m3 0 0)))) : Ex G Φ 4 0 [some (2, x0), some (0, x1), some (0, x2), none] [] S μ 0 0 := by
  obtain ⟨o1, h⟩ := h
  refine ex_aload_n hΦ dX4_readNumber_0 rfl o1.1 ?_
  refine ex_callVv [] [(2, x0)] hΦ lkV_X4_41 ⟨by decide, by decide⟩ (Nat.le_of_ble_eq_true rfl) rfl (by decide) 4 (by decide) rfl o1 dX4_readNumber_1 rfl h (fun μ2 h => ?_)
  refine ex_aload_n hΦ dX4_readNumber_4 rfl o1.1 ?_
  refine ex_aload_n hΦ dX4_readNumber_5 rfl o1.1 ?_
  refine ex_getf hΦ fl_X4_31 o1 dX4_readNumber_6 ?_
  obtain ⟨m3, hm3⟩ : ∃ m : Mem, m = mu μ2 x0 4 (μ2 x0 3) := ⟨_, rfl⟩
  have h := h m3 hm3
  refine ex_putf' hΦ fl_X4_89 o1 rfl rfl dX4_readNumber_9 hm3 ?_
  refine ex_iconst hΦ dX4_readNumber_12 ?_
  refine ex_istore_n (L' := [some (2, x0), some (0, x1), some (0, x2), some (0, 0)]) hΦ dX4_readNumber_13 (by decide) rfl ?_
  exact h
theorem eX4_skipBlanks {G : Gm} {S : List Sh} {μ : Mem} {Q : Mem → Prop} {x0 : Int} (h : ∀ Φ : Fr, St G Φ cX4_skipBlanks RX4 1 0 0 0 0 → Rt G Φ (Pv S Q) 0 0 none → Ex G Φ 1 0 [some (2, x0)] [] S μ 0 0) : Cv G mX4_skipBlanks [(2, x0)] S μ Q :=
  call_of' (plainFor_of_name (by decide +kernel)) [some (2, x0)] rfl (Nat.le_of_ble_eq_true rfl) (fun Φ hΦ hR => h Φ hΦ hR)
theorem bX4_skipBlanks_0 {G : Gm} {Φ : Fr} {S : List Sh} {μ : Mem} {Q : Mem → Prop} (hΦ : St G Φ cX4_skipBlanks RX4 1 0 0 0 0) (hR : Rt G Φ (Pv S Q) 0 0 none) {x0 : Int} (h : So S x0 (.inl 4) ∧ (R32 (μ x0 3) ∧ (R32 (μ x0 2) ∧ (((μ x0 2) ≤ (μ x0 3) → Q μ) ∧ (¬ ((μ x0 2) ≤ (μ x0 3)) → Ai S (μ x0 0) 2 (μ x0 3) ∧ (R32 (μ (μ x0 0) (μ x0 3)) ∧ (((μ (μ x0 0) (μ x0 3)) ≠ 32 → Q μ) ∧ ((μ (μ x0 0) (μ x0 3)) = 32 → ∀ m6 : Mem, m6 = mu μ x0 3 ((μ x0 3) + 1) → (Ex G Φ 1 0 [some (2, x0)] [] S m6 0 0))))))))) : Ex G Φ 1 0 [some (2, x0)] [] S μ 0 0 := by
  obtain ⟨o1, h⟩ := h
  refine ex_aload_n hΦ dX4_skipBlanks_0 rfl o1.1 ?_
  refine ex_getf hΦ fl_X4_31 o1 dX4_skipBlanks_1 ?_
  refine ex_aload_n hΦ dX4_skipBlanks_4 rfl o1.1 ?_
  refine ex_getf hΦ fl_X4_28 o1 dX4_skipBlanks_5 ?_
  obtain ⟨o2, h⟩ := h
  obtain ⟨o3, h⟩ := h
  refine ex_icmp_ge 38 hΦ dX4_skipBlanks_8 (by decide) o2 o3 (fun c => ?_) (fun c => ?_)
  · have h := h.1 c
    exact ex_returnv hΦ hR dX4_skipBlanks_38 h
  · have h := h.2 c
    refine ex_aload_n hΦ dX4_skipBlanks_11 rfl o1.1 ?_
    refine ex_getf hΦ fl_X4_9 o1 dX4_skipBlanks_12 ?_
    refine ex_aload_n hΦ dX4_skipBlanks_15 rfl o1.1 ?_
    refine ex_getf hΦ fl_X4_31 o1 dX4_skipBlanks_16 ?_
    obtain ⟨o4, h⟩ := h
    refine ex_cald' hΦ o4 dX4_skipBlanks_19 ?_
    refine ex_bipush hΦ dX4_skipBlanks_20 (by decide) ?_
    obtain ⟨o5, h⟩ := h
    refine ex_icmp_ne 38 hΦ dX4_skipBlanks_22 (by decide) o5 ⟨by decide, by decide⟩ (fun c => ?_) (fun c => ?_)
    · have h := h.1 c
      exact ex_returnv hΦ hR dX4_skipBlanks_38 h
    · have h := h.2 c
      refine ex_aload_n hΦ dX4_skipBlanks_25 rfl o1.1 ?_
      refine ex_dup hΦ dX4_skipBlanks_26 (Nat.ne_of_beq_eq_false rfl) ?_
      refine ex_getf hΦ fl_X4_31 o1 dX4_skipBlanks_27 ?_
      refine ex_iconst hΦ dX4_skipBlanks_30 ?_
      refine ex_iadd hΦ dX4_skipBlanks_31 ?_
      obtain ⟨m6, hm6⟩ : ∃ m : Mem, m = mu μ x0 3 ((μ x0 3) + 1) := ⟨_, rfl⟩
      have h := h m6 hm6
      refine ex_putf' hΦ fl_X4_31 o1 rfl rfl dX4_skipBlanks_32 hm6 ?_
      refine ex_goto 0 hΦ dX4_skipBlanks_35 (by decide) ?_
      exact h
theorem eX4_fail {G : Gm} {S : List Sh} {μ : Mem} {Q : Mem → Prop} {x0 x1 x2 : Int} (h : ∀ Φ : Fr, St G Φ cX4_fail RX4 3 0 0 0 0 → Rt G Φ (Pv S Q) 0 0 none → Ex G Φ 3 0 [some (2, x0), some (0, x1), some (0, x2)] [] S μ 0 0) : Cv G mX4_fail [(2, x0), (0, x1), (0, x2)] S μ Q :=
  call_of' (plainFor_of_name (by decide +kernel)) [some (2, x0), some (0, x1), some (0, x2)] rfl (Nat.le_of_ble_eq_true rfl) (fun Φ hΦ hR => h Φ hΦ hR)
theorem bX4_fail_0 {G : Gm} {Φ : Fr} {S : List Sh} {μ : Mem} {Q : Mem → Prop} (hΦ : St G Φ cX4_fail RX4 3 0 0 0 0) (hR : Rt G Φ (Pv S Q) 0 0 none) {x0 x1 x2 : Int} (h : So S x0 (.inl 4) ∧ (R32 (μ x0 6) ∧ (((μ x0 6) ≠ 0 → Q μ) ∧ ((μ x0 6) = 0 → ∀ m3 : Mem, m3 = mu μ x0 6 x1 → (∀ m4 : Mem, m4 = mu m3 x0 7 x2 → (Q m4)))))) : Ex G Φ 3 0 [some (2, x0), some (0, x1), some (0, x2)] [] S μ 0 0 := by
  obtain ⟨o1, h⟩ := h
  refine ex_aload_n hΦ dX4_fail_0 rfl o1.1 ?_
  refine ex_getf hΦ fl_X4_38 o1 dX4_fail_1 ?_
  obtain ⟨o2, h⟩ := h
  refine ex_if_ne 17 hΦ dX4_fail_4 (by decide) o2 (fun c => ?_) (fun c => ?_)
  · have h := h.1 c
    exact ex_returnv hΦ hR dX4_fail_17 h
  · have h := h.2 c
    refine ex_aload_n hΦ dX4_fail_7 rfl o1.1 ?_
    refine ex_iload_n hΦ dX4_fail_8 rfl ?_
    obtain ⟨m3, hm3⟩ : ∃ m : Mem, m = mu μ x0 6 x1 := ⟨_, rfl⟩
    have h := h m3 hm3
    refine ex_putf' hΦ fl_X4_38 o1 rfl rfl dX4_fail_9 hm3 ?_
    refine ex_aload_n hΦ dX4_fail_12 rfl o1.1 ?_
    refine ex_iload_n hΦ dX4_fail_13 rfl ?_
    obtain ⟨m4, hm4⟩ : ∃ m : Mem, m = mu m3 x0 7 x2 := ⟨_, rfl⟩
    have h := h m4 hm4
    refine ex_putf' hΦ fl_X4_15 o1 rfl rfl dX4_fail_14 hm4 ?_
    exact ex_returnv hΦ hR dX4_fail_17 h
theorem eX5_become {G : Gm} {S : List Sh} {μ : Mem} {Q : Mem → Prop} {x0 x1 : Int} (h : ∀ Φ : Fr, St G Φ cX5_become RX5 2 1 26 0 0 → Rt G Φ (Pv S Q) 0 0 none → Ex G Φ 2 0 [some (2, x0), some (2, x1)] [] S μ 0 0) : Cv G mX5_become [(2, x0), (2, x1)] S μ Q :=
  call_of' (plainFor_of_name (by decide +kernel)) [some (2, x0), some (2, x1)] rfl (Nat.le_of_ble_eq_true rfl) (fun Φ hΦ hR => h Φ hΦ hR)
theorem bX5_become_0 {G : Gm} {Φ : Fr} {S : List Sh} {μ : Mem} {Q : Mem → Prop} (hΦ : St G Φ cX5_become RX5 2 1 26 0 0) (hR : Rt G Φ (Pv S Q) 0 0 none) {x0 x1 : Int} (h : So S x0 (.inl 5) ∧ (So S x1 (.inl 5) ∧ (∀ m3 : Mem, m3 = mu μ x0 0 (μ x1 0) → (∀ m4 : Mem, m4 = mu m3 x0 1 (m3 x1 1) → (∀ m5 : Mem, m5 = mu m4 x0 2 (m4 x1 2) → (Ac S (m5 x1 3) 0 (m5 x0 3) 0 8 ∧ (∀ m7 : Mem, m7 = mcpy m5 (m5 x1 3) 0 (m5 x0 3) 0 8 → (Q m7)))))))) : Ex G Φ 2 0 [some (2, x0), some (2, x1)] [] S μ 0 0 := by
  obtain ⟨o1, h⟩ := h
  refine ex_aload_n hΦ dX5_become_0 rfl o1.1 ?_
  obtain ⟨o2, h⟩ := h
  refine ex_aload_n hΦ dX5_become_1 rfl o2.1 ?_
  refine ex_getf hΦ fl_X5_15 o2 dX5_become_2 ?_
  obtain ⟨m3, hm3⟩ : ∃ m : Mem, m = mu μ x0 0 (μ x1 0) := ⟨_, rfl⟩
  have h := h m3 hm3
  refine ex_putf' hΦ fl_X5_15 o1 rfl rfl dX5_become_5 hm3 ?_
  refine ex_aload_n hΦ dX5_become_8 rfl o1.1 ?_
  refine ex_aload_n hΦ dX5_become_9 rfl o2.1 ?_
  refine ex_getf hΦ fl_X5_19 o2 dX5_become_10 ?_
  obtain ⟨m4, hm4⟩ : ∃ m : Mem, m = mu m3 x0 1 (m3 x1 1) := ⟨_, rfl⟩
  have h := h m4 hm4
  refine ex_putf' hΦ fl_X5_19 o1 rfl rfl dX5_become_13 hm4 ?_
  refine ex_aload_n hΦ dX5_become_16 rfl o1.1 ?_
  refine ex_aload_n hΦ dX5_become_17 rfl o2.1 ?_
  refine ex_getf hΦ fl_X5_22 o2 dX5_become_18 ?_
  obtain ⟨m5, hm5⟩ : ∃ m : Mem, m = mu m4 x0 2 (m4 x1 2) := ⟨_, rfl⟩
  have h := h m5 hm5
  refine ex_putf' hΦ fl_X5_22 o1 rfl rfl dX5_become_21 hm5 ?_
  refine ex_aload_n hΦ dX5_become_24 rfl o2.1 ?_
  refine ex_getf hΦ fl_X5_9 o2 dX5_become_25 ?_
  refine ex_iconst hΦ dX5_become_28 ?_
  refine ex_aload_n hΦ dX5_become_29 rfl o1.1 ?_
  refine ex_getf hΦ fl_X5_9 o1 dX5_become_30 ?_
  refine ex_iconst hΦ dX5_become_33 ?_
  refine ex_bipush hΦ dX5_become_34 (by decide) ?_
  obtain ⟨o6, h⟩ := h
  obtain ⟨m7, hm7⟩ : ∃ m : Mem, m = mcpy m5 (m5 x1 3) 0 (m5 x0 3) 0 8 := ⟨_, rfl⟩
  have h := h m7 hm7
  refine ex_acopy'' hΦ qw592 qw470 qw469 qw94 ⟨by decide, by decide⟩ (Nat.le_of_ble_eq_true rfl) o6 dX5_become_36 hm7 ?_
  exact ex_returnv hΦ hR dX5_become_39 h
theorem eX6_forgetAll {G : Gm} {S : List Sh} {μ : Mem} {Q : Mem → Prop} {x0 : Int} (h : ∀ Φ : Fr, St G Φ cX6_forgetAll RX6 1 0 0 0 0 → Rt G Φ (Pv S Q) 0 0 none → Ex G Φ 1 0 [some (2, x0)] [] S μ 0 0) : Cv G mX6_forgetAll [(2, x0)] S μ Q :=
  call_of' (plainFor_of_name (by decide +kernel)) [some (2, x0)] rfl (Nat.le_of_ble_eq_true rfl) (fun Φ hΦ hR => h Φ hΦ hR)
theorem bX6_forgetAll_0 {G : Gm} {Φ : Fr} {S : List Sh} {μ : Mem} {Q : Mem → Prop} (hΦ : St G Φ cX6_forgetAll RX6 1 0 0 0 0) (hR : Rt G Φ (Pv S Q) 0 0 none) {x0 : Int} (h : So S x0 (.inl 6) ∧ (∀ m2 : Mem, m2 = mu μ x0 0 0 → (∀ m3 : Mem, m3 = mu m2 x0 1 0 → (∀ m4 : Mem, m4 = mu m3 x0 2 0 → (∀ m5 : Mem, m5 = mu m4 x0 3 0 → (∀ m6 : Mem, m6 = mu m5 x0 4 1 → (Q m6))))))) : Ex G Φ 1 0 [some (2, x0)] [] S μ 0 0 := by
  obtain ⟨o1, h⟩ := h
  refine ex_aload_n hΦ dX6_forgetAll_0 rfl o1.1 ?_
  refine ex_iconst hΦ dX6_forgetAll_1 ?_
  obtain ⟨m2, hm2⟩ : ∃ m : Mem, m = mu μ x0 0 0 := ⟨_, rfl⟩
  have h := h m2 hm2
  refine ex_putf' hΦ fl_X6_40 o1 rfl rfl dX6_forgetAll_2 hm2 ?_
  refine ex_aload_n hΦ dX6_forgetAll_5 rfl o1.1 ?_
  refine ex_iconst hΦ dX6_forgetAll_6 ?_
  obtain ⟨m3, hm3⟩ : ∃ m : Mem, m = mu m2 x0 1 0 := ⟨_, rfl⟩
  have h := h m3 hm3
  refine ex_putf' hΦ fl_X6_43 o1 rfl rfl dX6_forgetAll_7 hm3 ?_
  refine ex_aload_n hΦ dX6_forgetAll_10 rfl o1.1 ?_
  refine ex_iconst hΦ dX6_forgetAll_11 ?_
  obtain ⟨m4, hm4⟩ : ∃ m : Mem, m = mu m3 x0 2 0 := ⟨_, rfl⟩
  have h := h m4 hm4
  refine ex_putf' hΦ fl_X6_46 o1 rfl rfl dX6_forgetAll_12 hm4 ?_
  refine ex_aload_n hΦ dX6_forgetAll_15 rfl o1.1 ?_
  refine ex_iconst hΦ dX6_forgetAll_16 ?_
  obtain ⟨m5, hm5⟩ : ∃ m : Mem, m = mu m4 x0 3 0 := ⟨_, rfl⟩
  have h := h m5 hm5
  refine ex_putf' hΦ fl_X6_49 o1 rfl rfl dX6_forgetAll_17 hm5 ?_
  refine ex_aload_n hΦ dX6_forgetAll_20 rfl o1.1 ?_
  refine ex_iconst hΦ dX6_forgetAll_21 ?_
  obtain ⟨m6, hm6⟩ : ∃ m : Mem, m = mu m5 x0 4 1 := ⟨_, rfl⟩
  have h := h m6 hm6
  refine ex_putf' hΦ fl_X6_9 o1 rfl rfl dX6_forgetAll_22 hm6 ?_
  exact ex_returnv hΦ hR dX6_forgetAll_25 h
theorem eX6_addWheel {G : Gm} {S : List Sh} {μ : Mem} {Q : Mem → Prop} {x0 x1 x2 : Int} (h : ∀ Φ : Fr, St G Φ cX6_addWheel RX6 3 2 48 0 0 → Rt G Φ (Pv S Q) 0 0 none → Ex G Φ 3 0 [some (2, x0), some (0, x1), some (0, x2)] [] S μ 0 0) : Cv G mX6_addWheel [(2, x0), (0, x1), (0, x2)] S μ Q :=
  call_of' (plainFor_of_name (by decide +kernel)) [some (2, x0), some (0, x1), some (0, x2)] rfl (Nat.le_of_ble_eq_true rfl) (fun Φ hΦ hR => h Φ hΦ hR)
theorem bX6_addWheel_0 {G : Gm} {Φ : Fr} {S : List Sh} {μ : Mem} {Q : Mem → Prop} (hΦ : St G Φ cX6_addWheel RX6 3 2 48 0 0) (hR : Rt G Φ (Pv S Q) 0 0 none) {x0 x1 x2 : Int} (h : So S x0 (.inl 6) ∧ (Ai S (μ x0 5) 0 (μ x0 0) ∧ (∀ m3 : Mem, m3 = mu μ (μ x0 5) (μ x0 0) x1 → (R32 x2 ∧ (R32 x1 ∧ (Cj G mX7_leftOver [(1, x2), (1, x1)] S m3 (fun r6 μ6 => Ai S (m3 x0 6) 0 (m3 x0 0) ∧ (∀ m8 : Mem, m8 = mu μ6 (m3 x0 6) (m3 x0 0) r6 → (∀ m9 : Mem, m9 = mu m8 x0 0 ((m8 x0 0) + 1) → (Q m9)))))))))) : Ex G Φ 3 0 [some (2, x0), some (0, x1), some (0, x2)] [] S μ 0 0 := by
  obtain ⟨o1, h⟩ := h
  refine ex_aload_n hΦ dX6_addWheel_0 rfl o1.1 ?_
  refine ex_getf hΦ fl_X6_15 o1 dX6_addWheel_1 ?_
  refine ex_aload_n hΦ dX6_addWheel_4 rfl o1.1 ?_
  refine ex_getf hΦ fl_X6_40 o1 dX6_addWheel_5 ?_
  refine ex_iload_n hΦ dX6_addWheel_8 rfl ?_
  obtain ⟨o2, h⟩ := h
  obtain ⟨m3, hm3⟩ : ∃ m : Mem, m = mu μ (μ x0 5) (μ x0 0) x1 := ⟨_, rfl⟩
  have h := h m3 hm3
  refine ex_iast'' hΦ o2 dX6_addWheel_9 hm3 ?_
  refine ex_aload_n hΦ dX6_addWheel_10 rfl o1.1 ?_
  refine ex_getf hΦ fl_X6_19 o1 dX6_addWheel_11 ?_
  refine ex_aload_n hΦ dX6_addWheel_14 rfl o1.1 ?_
  refine ex_getf hΦ fl_X6_40 o1 dX6_addWheel_15 ?_
  refine ex_iload_n hΦ dX6_addWheel_18 rfl ?_
  obtain ⟨o4, h⟩ := h
  refine ex_i2l hΦ dX6_addWheel_19 o4 ?_
  refine ex_iload_n hΦ dX6_addWheel_20 rfl ?_
  obtain ⟨o5, h⟩ := h
  refine ex_i2l hΦ dX6_addWheel_21 o5 ?_
  refine ex_callSNj [(1, x2), (1, x1)] [(1, x1), (1, x2), (0, (m3 x0 0)), (2, (m3 x0 6))] hΦ lkSN_X6_52 ⟨by decide, by decide⟩ (Nat.le_of_ble_eq_true rfl) rfl (by decide) dX6_addWheel_22 rfl h (fun r6 μ6 h => ?_)
  refine ex_l2i hΦ dX6_addWheel_25 ?_
  obtain ⟨o7, h⟩ := h
  obtain ⟨m8, hm8⟩ : ∃ m : Mem, m = mu μ6 (m3 x0 6) (m3 x0 0) r6 := ⟨_, rfl⟩
  have h := h m8 hm8
  refine ex_iast'' hΦ o7 dX6_addWheel_26 hm8 ?_
  refine ex_aload_n hΦ dX6_addWheel_27 rfl o1.1 ?_
  refine ex_dup hΦ dX6_addWheel_28 (Nat.ne_of_beq_eq_false rfl) ?_
  refine ex_getf hΦ fl_X6_40 o1 dX6_addWheel_29 ?_
  refine ex_iconst hΦ dX6_addWheel_32 ?_
  refine ex_iadd hΦ dX6_addWheel_33 ?_
  obtain ⟨m9, hm9⟩ : ∃ m : Mem, m = mu m8 x0 0 ((m8 x0 0) + 1) := ⟨_, rfl⟩
  have h := h m9 hm9
  refine ex_putf' hΦ fl_X6_40 o1 rfl rfl dX6_addWheel_34 hm9 ?_
  exact ex_returnv hΦ hR dX6_addWheel_37 h
theorem eX6_setLink {G : Gm} {S : List Sh} {μ : Mem} {Q : Mem → Prop} {x0 x1 x2 x3 x4 : Int} (h : ∀ Φ : Fr, St G Φ cX6_setLink RX6 5 0 0 0 0 → Rt G Φ (Pv S Q) 0 0 none → Ex G Φ 5 0 [some (2, x0), some (0, x1), some (0, x2), some (0, x3), some (0, x4)] [] S μ 0 0) : Cv G mX6_setLink [(2, x0), (0, x1), (0, x2), (0, x3), (0, x4)] S μ Q :=
  call_of' (plainFor_of_name (by decide +kernel)) [some (2, x0), some (0, x1), some (0, x2), some (0, x3), some (0, x4)] rfl (Nat.le_of_ble_eq_true rfl) (fun Φ hΦ hR => h Φ hΦ hR)
theorem bX6_setLink_0 {G : Gm} {Φ : Fr} {S : List Sh} {μ : Mem} {Q : Mem → Prop} (hΦ : St G Φ cX6_setLink RX6 5 0 0 0 0) (hR : Rt G Φ (Pv S Q) 0 0 none) {x0 x1 x2 x3 x4 : Int} (h : So S x0 (.inl 6) ∧ (Ai S (μ x0 8) 0 x1 ∧ (∀ m3 : Mem, m3 = mu μ (μ x0 8) x1 x2 → (Ai S (m3 x0 9) 0 x1 ∧ (∀ m5 : Mem, m5 = mu m3 (m3 x0 9) x1 x3 → (Ai S (m5 x0 10) 0 x1 ∧ (∀ m7 : Mem, m7 = mu m5 (m5 x0 10) x1 x4 → (Q m7)))))))) : Ex G Φ 5 0 [some (2, x0), some (0, x1), some (0, x2), some (0, x3), some (0, x4)] [] S μ 0 0 := by
  obtain ⟨o1, h⟩ := h
  refine ex_aload_n hΦ dX6_setLink_0 rfl o1.1 ?_
  refine ex_getf hΦ fl_X6_25 o1 dX6_setLink_1 ?_
  refine ex_iload_n hΦ dX6_setLink_4 rfl ?_
  refine ex_iload_n hΦ dX6_setLink_5 rfl ?_
  obtain ⟨o2, h⟩ := h
  obtain ⟨m3, hm3⟩ : ∃ m : Mem, m = mu μ (μ x0 8) x1 x2 := ⟨_, rfl⟩
  have h := h m3 hm3
  refine ex_iast'' hΦ o2 dX6_setLink_6 hm3 ?_
  refine ex_aload_n hΦ dX6_setLink_7 rfl o1.1 ?_
  refine ex_getf hΦ fl_X6_28 o1 dX6_setLink_8 ?_
  refine ex_iload_n hΦ dX6_setLink_11 rfl ?_
  refine ex_iload_n hΦ dX6_setLink_12 rfl ?_
  obtain ⟨o4, h⟩ := h
  obtain ⟨m5, hm5⟩ : ∃ m : Mem, m = mu m3 (m3 x0 9) x1 x3 := ⟨_, rfl⟩
  have h := h m5 hm5
  refine ex_iast'' hΦ o4 dX6_setLink_13 hm5 ?_
  refine ex_aload_n hΦ dX6_setLink_14 rfl o1.1 ?_
  refine ex_getf hΦ fl_X6_31 o1 dX6_setLink_15 ?_
  refine ex_iload_n hΦ dX6_setLink_18 rfl ?_
  refine ex_iload hΦ dX6_setLink_19 rfl ?_
  obtain ⟨o6, h⟩ := h
  obtain ⟨m7, hm7⟩ : ∃ m : Mem, m = mu m5 (m5 x0 10) x1 x4 := ⟨_, rfl⟩
  have h := h m7 hm7
  refine ex_iast'' hΦ o6 dX6_setLink_21 hm7 ?_
  exact ex_returnv hΦ hR dX6_setLink_22 h
theorem eX6_addLink {G : Gm} {S : List Sh} {μ : Mem} {Q : Mem → Prop} {x0 x1 x2 x3 x4 : Int} (h : ∀ Φ : Fr, St G Φ cX6_addLink RX6 5 1 24 0 0 → Rt G Φ (Pv S Q) 0 0 none → Ex G Φ 5 0 [some (2, x0), some (0, x1), some (0, x2), some (0, x3), some (0, x4)] [] S μ 0 0) : Cv G mX6_addLink [(2, x0), (0, x1), (0, x2), (0, x3), (0, x4)] S μ Q :=
  call_of' (plainFor_of_name (by decide +kernel)) [some (2, x0), some (0, x1), some (0, x2), some (0, x3), some (0, x4)] rfl (Nat.le_of_ble_eq_true rfl) (fun Φ hΦ hR => h Φ hΦ hR)
theorem bX6_addLink_0 {G : Gm} {Φ : Fr} {S : List Sh} {μ : Mem} {Q : Mem → Prop} (hΦ : St G Φ cX6_addLink RX6 5 1 24 0 0) (hR : Rt G Φ (Pv S Q) 0 0 none) {x0 x1 x2 x3 x4 : Int} (h : So S x0 (.inl 6) ∧ (Cv G mX6_setLink [(2, x0), (0, (μ x0 1)), (0, x1), (0, x2), (0, x3)] S μ (fun μ2 => Ai S (μ2 x0 7) 0 (μ2 x0 1) ∧ (∀ m4 : Mem, m4 = mu μ2 (μ2 x0 7) (μ2 x0 1) x4 → (∀ m5 : Mem, m5 = mu m4 x0 1 ((m4 x0 1) + 1) → (Q m5)))))) : Ex G Φ 5 0 [some (2, x0), some (0, x1), some (0, x2), some (0, x3), some (0, x4)] [] S μ 0 0 := by
  obtain ⟨o1, h⟩ := h
  refine ex_aload_n hΦ dX6_addLink_0 rfl o1.1 ?_
  refine ex_aload_n hΦ dX6_addLink_1 rfl o1.1 ?_
  refine ex_getf hΦ fl_X6_43 o1 dX6_addLink_2 ?_
  refine ex_iload_n hΦ dX6_addLink_5 rfl ?_
  refine ex_iload_n hΦ dX6_addLink_6 rfl ?_
  refine ex_iload_n hΦ dX6_addLink_7 rfl ?_
  refine ex_callVv [(0, (μ x0 1)), (0, x1), (0, x2), (0, x3)] [(0, x3), (0, x2), (0, x1), (0, (μ x0 1)), (2, x0)] hΦ lkV_X6_56 ⟨by decide, by decide⟩ (Nat.le_of_ble_eq_true rfl) rfl (by decide) 6 (by decide) rfl o1 dX6_addLink_8 rfl h (fun μ2 h => ?_)
  refine ex_aload_n hΦ dX6_addLink_11 rfl o1.1 ?_
  refine ex_getf hΦ fl_X6_22 o1 dX6_addLink_12 ?_
  refine ex_aload_n hΦ dX6_addLink_15 rfl o1.1 ?_
  refine ex_getf hΦ fl_X6_43 o1 dX6_addLink_16 ?_
  refine ex_iload hΦ dX6_addLink_19 rfl ?_
  obtain ⟨o3, h⟩ := h
  obtain ⟨m4, hm4⟩ : ∃ m : Mem, m = mu μ2 (μ2 x0 7) (μ2 x0 1) x4 := ⟨_, rfl⟩
  have h := h m4 hm4
  refine ex_iast'' hΦ o3 dX6_addLink_21 hm4 ?_
  refine ex_aload_n hΦ dX6_addLink_22 rfl o1.1 ?_
  refine ex_dup hΦ dX6_addLink_23 (Nat.ne_of_beq_eq_false rfl) ?_
  refine ex_getf hΦ fl_X6_43 o1 dX6_addLink_24 ?_
  refine ex_iconst hΦ dX6_addLink_27 ?_
  refine ex_iadd hΦ dX6_addLink_28 ?_
  obtain ⟨m5, hm5⟩ : ∃ m : Mem, m = mu m4 x0 1 ((m4 x0 1) + 1) := ⟨_, rfl⟩
  have h := h m5 hm5
  refine ex_putf' hΦ fl_X6_43 o1 rfl rfl dX6_addLink_29 hm5 ?_
  exact ex_returnv hΦ hR dX6_addLink_32 h
theorem eX6_addFeast {G : Gm} {S : List Sh} {μ : Mem} {Q : Mem → Prop} {x0 x1 x2 : Int} (h : ∀ Φ : Fr, St G Φ cX6_addFeast RX6 3 0 0 0 0 → Rt G Φ (Pv S Q) 0 0 none → Ex G Φ 3 0 [some (2, x0), some (0, x1), some (0, x2)] [] S μ 0 0) : Cv G mX6_addFeast [(2, x0), (0, x1), (0, x2)] S μ Q :=
  call_of' (plainFor_of_name (by decide +kernel)) [some (2, x0), some (0, x1), some (0, x2)] rfl (Nat.le_of_ble_eq_true rfl) (fun Φ hΦ hR => h Φ hΦ hR)
theorem bX6_addFeast_0 {G : Gm} {Φ : Fr} {S : List Sh} {μ : Mem} {Q : Mem → Prop} (hΦ : St G Φ cX6_addFeast RX6 3 0 0 0 0) (hR : Rt G Φ (Pv S Q) 0 0 none) {x0 x1 x2 : Int} (h : So S x0 (.inl 6) ∧ (Ai S (μ x0 11) 0 (μ x0 2) ∧ (∀ m3 : Mem, m3 = mu μ (μ x0 11) (μ x0 2) x1 → (Ai S (m3 x0 12) 0 (m3 x0 2) ∧ (∀ m5 : Mem, m5 = mu m3 (m3 x0 12) (m3 x0 2) x2 → (∀ m6 : Mem, m6 = mu m5 x0 2 ((m5 x0 2) + 1) → (Q m6))))))) : Ex G Φ 3 0 [some (2, x0), some (0, x1), some (0, x2)] [] S μ 0 0 := by
  obtain ⟨o1, h⟩ := h
  refine ex_aload_n hΦ dX6_addFeast_0 rfl o1.1 ?_
  refine ex_getf hΦ fl_X6_34 o1 dX6_addFeast_1 ?_
  refine ex_aload_n hΦ dX6_addFeast_4 rfl o1.1 ?_
  refine ex_getf hΦ fl_X6_46 o1 dX6_addFeast_5 ?_
  refine ex_iload_n hΦ dX6_addFeast_8 rfl ?_
  obtain ⟨o2, h⟩ := h
  obtain ⟨m3, hm3⟩ : ∃ m : Mem, m = mu μ (μ x0 11) (μ x0 2) x1 := ⟨_, rfl⟩
  have h := h m3 hm3
  refine ex_iast'' hΦ o2 dX6_addFeast_9 hm3 ?_
  refine ex_aload_n hΦ dX6_addFeast_10 rfl o1.1 ?_
  refine ex_getf hΦ fl_X6_37 o1 dX6_addFeast_11 ?_
  refine ex_aload_n hΦ dX6_addFeast_14 rfl o1.1 ?_
  refine ex_getf hΦ fl_X6_46 o1 dX6_addFeast_15 ?_
  refine ex_iload_n hΦ dX6_addFeast_18 rfl ?_
  obtain ⟨o4, h⟩ := h
  obtain ⟨m5, hm5⟩ : ∃ m : Mem, m = mu m3 (m3 x0 12) (m3 x0 2) x2 := ⟨_, rfl⟩
  have h := h m5 hm5
  refine ex_iast'' hΦ o4 dX6_addFeast_19 hm5 ?_
  refine ex_aload_n hΦ dX6_addFeast_20 rfl o1.1 ?_
  refine ex_dup hΦ dX6_addFeast_21 (Nat.ne_of_beq_eq_false rfl) ?_
  refine ex_getf hΦ fl_X6_46 o1 dX6_addFeast_22 ?_
  refine ex_iconst hΦ dX6_addFeast_25 ?_
  refine ex_iadd hΦ dX6_addFeast_26 ?_
  obtain ⟨m6, hm6⟩ : ∃ m : Mem, m = mu m5 x0 2 ((m5 x0 2) + 1) := ⟨_, rfl⟩
  have h := h m6 hm6
  refine ex_putf' hΦ fl_X6_46 o1 rfl rfl dX6_addFeast_27 hm6 ?_
  exact ex_returnv hΦ hR dX6_addFeast_30 h
theorem eX6_across {G : Gm} {S : List Sh} {μ : Mem} {Q : Int → Mem → Prop} {x0 x1 x2 : Int} (h : ∀ Φ : Fr, St G Φ cX6_across RX6 3 0 0 0 0 → Rt G Φ (Pi S Q) 0 0 (some .int) → Ex G Φ 3 0 [some (2, x0), some (0, x1), some (0, x2)] [] S μ 0 0) : Ci G mX6_across [(2, x0), (0, x1), (0, x2)] S μ Q :=
  call_of' (plainFor_of_name (by decide +kernel)) [some (2, x0), some (0, x1), some (0, x2)] rfl (Nat.le_of_ble_eq_true rfl) (fun Φ hΦ hR => h Φ hΦ hR)
theorem bX6_across_0 {G : Gm} {Φ : Fr} {S : List Sh} {μ : Mem} {Q : Int → Mem → Prop} (hΦ : St G Φ cX6_across RX6 3 0 0 0 0) (hR : Rt G Φ (Pi S Q) 0 0 (some .int)) {x0 x1 x2 : Int} (h : So S x0 (.inl 6) ∧ (Ai S (μ x0 9) 0 x1 ∧ (R32 (μ (μ x0 9) x1) ∧ (R32 x2 ∧ (((μ (μ x0 9) x1) ≠ x2 → Ai S (μ x0 10) 0 x1 ∧ (R32 (μ (μ x0 10) x1) ∧ (((μ (μ x0 10) x1) ≠ x2 → Q (-1) μ) ∧ ((μ (μ x0 10) x1) = x2 → Q (μ (μ x0 9) x1) μ)))) ∧ ((μ (μ x0 9) x1) = x2 → Ai S (μ x0 10) 0 x1 ∧ Q (μ (μ x0 10) x1) μ)))))) : Ex G Φ 3 0 [some (2, x0), some (0, x1), some (0, x2)] [] S μ 0 0 := by
  obtain ⟨o1, h⟩ := h
  refine ex_aload_n hΦ dX6_across_0 rfl o1.1 ?_
  refine ex_getf hΦ fl_X6_28 o1 dX6_across_1 ?_
  refine ex_iload_n hΦ dX6_across_4 rfl ?_
  obtain ⟨o2, h⟩ := h
  refine ex_iald' hΦ o2 dX6_across_5 ?_
  refine ex_iload_n hΦ dX6_across_6 rfl ?_
  obtain ⟨o3, h⟩ := h
  obtain ⟨o4, h⟩ := h
  refine ex_icmp_ne 17 hΦ dX6_across_7 (by decide) o3 o4 (fun c => ?_) (fun c => ?_)
  · have h := h.1 c
    refine ex_aload_n hΦ dX6_across_17 rfl o1.1 ?_
    refine ex_getf hΦ fl_X6_31 o1 dX6_across_18 ?_
    refine ex_iload_n hΦ dX6_across_21 rfl ?_
    obtain ⟨o5, h⟩ := h
    refine ex_iald' hΦ o5 dX6_across_22 ?_
    refine ex_iload_n hΦ dX6_across_23 rfl ?_
    obtain ⟨o6, h⟩ := h
    refine ex_icmp_ne 36 hΦ dX6_across_24 (by decide) o6 o4 (fun c => ?_) (fun c => ?_)
    · have h := h.1 c
      refine ex_iconst hΦ dX6_across_36 ?_
      exact ex_returni hΦ hR dX6_across_37 h
    · have h := h.2 c
      refine ex_aload_n hΦ dX6_across_27 rfl o1.1 ?_
      refine ex_getf hΦ fl_X6_28 o1 dX6_across_28 ?_
      refine ex_iload_n hΦ dX6_across_31 rfl ?_
      refine ex_iald' hΦ o2 dX6_across_32 ?_
      refine ex_goto 37 hΦ dX6_across_33 (by decide) ?_
      exact ex_returni hΦ hR dX6_across_37 h
  · have h := h.2 c
    refine ex_aload_n hΦ dX6_across_10 rfl o1.1 ?_
    refine ex_getf hΦ fl_X6_31 o1 dX6_across_11 ?_
    refine ex_iload_n hΦ dX6_across_14 rfl ?_
    obtain ⟨o7, h⟩ := h
    refine ex_iald' hΦ o7 dX6_across_15 ?_
    exact ex_returni hΦ hR dX6_across_16 h
theorem bX6_linksThatMesh_4 {G : Gm} {Φ : Fr} {S : List Sh} {μ : Mem} {Q : Int → Mem → Prop} (hΦ : St G Φ cX6_linksThatMesh RX6 3 0 0 0 0) (hR : Rt G Φ (Pi S Q) 0 0 (some .int)) {x0 x1 x2 : Int} (h : So S x0 (.inl 6) ∧ (R32 x2 ∧ (R32 (μ x0 1) ∧ (((μ x0 1) ≤ x2 → Q x1 μ) ∧ (¬ ((μ x0 1) ≤ x2) → Ai S (μ x0 8) 0 x2 ∧ (R32 (μ (μ x0 8) x2) ∧ (((μ (μ x0 8) x2) ≠ 0 → Ex G Φ 3 4 [some (2, x0), some (0, x1), some (0, (x2 + 1))] [] S μ 0 0) ∧ ((μ (μ x0 8) x2) = 0 → 0 ≤ x2 ∧ (x2 ≤ 31 ∧ Ex G Φ 3 4 [some (2, x0), some (0, (mor x1 (1 * 2 ^ (Int.toNat x2)))), some (0, (x2 + 1))] [] S μ 0 0))))))))) : Ex G Φ 3 4 [some (2, x0), some (0, x1), some (0, x2)] [] S μ 0 0 := by
  refine ex_iload_n hΦ dX6_linksThatMesh_4 rfl ?_
  obtain ⟨o1, h⟩ := h
  refine ex_aload_n hΦ dX6_linksThatMesh_5 rfl o1.1 ?_
  refine ex_getf hΦ fl_X6_43 o1 dX6_linksThatMesh_6 ?_
  obtain ⟨o2, h⟩ := h
  obtain ⟨o3, h⟩ := h
  refine ex_icmp_ge 33 hΦ dX6_linksThatMesh_9 (by decide) o2 o3 (fun c => ?_) (fun c => ?_)
  · have h := h.1 c
    refine ex_iload_n hΦ dX6_linksThatMesh_33 rfl ?_
    exact ex_returni hΦ hR dX6_linksThatMesh_34 h
  · have h := h.2 c
    refine ex_aload_n hΦ dX6_linksThatMesh_12 rfl o1.1 ?_
    refine ex_getf hΦ fl_X6_25 o1 dX6_linksThatMesh_13 ?_
    refine ex_iload_n hΦ dX6_linksThatMesh_16 rfl ?_
    obtain ⟨o4, h⟩ := h
    refine ex_iald' hΦ o4 dX6_linksThatMesh_17 ?_
    obtain ⟨o5, h⟩ := h
    refine ex_if_ne 27 hΦ dX6_linksThatMesh_18 (by decide) o5 (fun c => ?_) (fun c => ?_)
    · have h := h.1 c
      refine ex_iinc (L' := [some (2, x0), some (0, x1), some (0, (x2 + 1))]) hΦ dX6_linksThatMesh_27 rfl (by decide) rfl ?_
      refine ex_goto 4 hΦ dX6_linksThatMesh_30 (by decide) ?_
      exact h
    · have h := h.2 c
      refine ex_iload_n hΦ dX6_linksThatMesh_21 rfl ?_
      refine ex_iconst hΦ dX6_linksThatMesh_22 ?_
      refine ex_iload_n hΦ dX6_linksThatMesh_23 rfl ?_
      obtain ⟨o6, h⟩ := h
      obtain ⟨o7, h⟩ := h
      refine ex_ishl hΦ dX6_linksThatMesh_24 o6 o7 ?_
      refine ex_ior hΦ dX6_linksThatMesh_25 ?_
      refine ex_istore_n (L' := [some (2, x0), some (0, (mor x1 (1 * 2 ^ (Int.toNat x2)))), some (0, x2)]) hΦ dX6_linksThatMesh_26 (by decide) rfl ?_
      refine ex_iinc (L' := [some (2, x0), some (0, (mor x1 (1 * 2 ^ (Int.toNat x2)))), some (0, (x2 + 1))]) hΦ dX6_linksThatMesh_27 rfl (by decide) rfl ?_
      refine ex_goto 4 hΦ dX6_linksThatMesh_30 (by decide) ?_
      exact h
theorem eX6_linksThatMesh {G : Gm} {S : List Sh} {μ : Mem} {Q : Int → Mem → Prop} {x0 : Int} (h : ∀ Φ : Fr, St G Φ cX6_linksThatMesh RX6 3 0 0 0 0 → Rt G Φ (Pi S Q) 0 0 (some .int) → Ex G Φ 3 0 [some (2, x0), none, none] [] S μ 0 0) : Ci G mX6_linksThatMesh [(2, x0)] S μ Q :=
  call_of' (plainFor_of_name (by decide +kernel)) [some (2, x0), none, none] rfl (Nat.le_of_ble_eq_true rfl) (fun Φ hΦ hR => h Φ hΦ hR)
theorem bX6_linksThatMesh_0 {G : Gm} {Φ : Fr} {S : List Sh} {μ : Mem} {Q : Int → Mem → Prop} (hΦ : St G Φ cX6_linksThatMesh RX6 3 0 0 0 0) (hR : Rt G Φ (Pi S Q) 0 0 (some .int)) {x0 : Int} (h : Ex G Φ 3 4 [some (2, x0), some (0, 0), some (0, 0)] [] S μ 0 0) : Ex G Φ 3 0 [some (2, x0), none, none] [] S μ 0 0 := by
  refine ex_iconst hΦ dX6_linksThatMesh_0 ?_
  refine ex_istore_n (L' := [some (2, x0), some (0, 0), none]) hΦ dX6_linksThatMesh_1 (by decide) rfl ?_
  refine ex_iconst hΦ dX6_linksThatMesh_2 ?_
  refine ex_istore_n (L' := [some (2, x0), some (0, 0), some (0, 0)]) hΦ dX6_linksThatMesh_3 (by decide) rfl ?_
  exact h
