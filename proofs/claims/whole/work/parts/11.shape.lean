/-! THE CELLS behind both constructors, and the references that stay -/
def SHl : List Sh := [.inl 7, .inl 4, .inr (2, 250), .inl 6, .inr (0, 8), .inr (0, 8), .inr (0, 10), .inr (0, 11), .inr (0, 11), .inr (0, 11), .inr (0, 6), .inr (0, 6), .inl 6, .inr (0, 8), .inr (0, 8), .inr (0, 10), .inr (0, 11), .inr (0, 11), .inr (0, 11), .inr (0, 6), .inr (0, 6), .inl 3, .inr (1, 8), .inr (1, 8), .inr (0, 8), .inl 3, .inr (1, 8), .inr (1, 8), .inr (0, 8), .inl 5, .inr (0, 8), .inl 0, .inr (5, 30), .inl 5, .inr (0, 8), .inl 5, .inr (0, 8), .inl 5, .inr (0, 8), .inl 5, .inr (0, 8), .inl 5, .inr (0, 8), .inl 5, .inr (0, 8), .inl 5, .inr (0, 8), .inl 5, .inr (0, 8), .inl 5, .inr (0, 8), .inl 5, .inr (0, 8), .inl 5, .inr (0, 8), .inl 5, .inr (0, 8), .inl 5, .inr (0, 8), .inl 5, .inr (0, 8), .inl 5, .inr (0, 8), .inl 5, .inr (0, 8), .inl 5, .inr (0, 8), .inl 5, .inr (0, 8), .inl 5, .inr (0, 8), .inl 5, .inr (0, 8), .inl 5, .inr (0, 8), .inl 5, .inr (0, 8), .inl 5, .inr (0, 8), .inl 5, .inr (0, 8), .inl 5, .inr (0, 8), .inl 5, .inr (0, 8), .inl 5, .inr (0, 8), .inl 5, .inr (0, 8), .inl 5, .inr (0, 8), .inl 5, .inr (0, 8), .inr (4, 2), .inl 2, .inr (0, 12), .inr (0, 12), .inr (0, 12), .inl 2, .inr (0, 15), .inr (0, 15), .inr (0, 15), .inr (0, 8), .inr (0, 30), .inl 1, .inl 5, .inr (0, 8), .inl 1, .inl 5, .inr (0, 8), .inl 8, .inr (0, 396), .inr (3, 2), .inr (0, 16), .inr (0, 16), .inr (0, 21), .inr (0, 21), .inr (0, 21), .inr (0, 20), .inr (0, 12), .inr (0, 12), .inr (0, 250), .inr (1, 8), .inr (1, 8), .inr (0, 8), .inr (1, 8), .inr (0, 12), .inr (0, 12), .inr (0, 12), .inr (0, 30), .inr (0, 15), .inr (0, 15), .inr (0, 15)]
def wfl : List (Int × Int × Int) := [(0, 0, 1), (0, 3, 21), (0, 4, 25), (0, 5, 29), (0, 6, 31), (0, 7, 93), (0, 8, 94), (0, 9, 98), (0, 10, 102), (0, 11, 103), (1, 0, 2), (3, 5, 4), (3, 6, 5), (3, 7, 6), (3, 8, 7), (3, 9, 8), (3, 10, 9), (3, 11, 10), (3, 12, 11), (12, 5, 13), (12, 6, 14), (12, 7, 15), (12, 8, 16), (12, 9, 17), (12, 10, 18), (12, 11, 19), (12, 12, 20), (21, 0, 22), (21, 1, 23), (21, 2, 24), (25, 0, 26), (25, 1, 27), (25, 2, 28), (29, 3, 30), (31, 0, 32), (33, 3, 34), (32, 0, 33), (35, 3, 36), (32, 1, 35), (37, 3, 38), (32, 2, 37), (39, 3, 40), (32, 3, 39), (41, 3, 42), (32, 4, 41), (43, 3, 44), (32, 5, 43), (45, 3, 46), (32, 6, 45), (47, 3, 48), (32, 7, 47), (49, 3, 50), (32, 8, 49), (51, 3, 52), (32, 9, 51), (53, 3, 54), (32, 10, 53), (55, 3, 56), (32, 11, 55), (57, 3, 58), (32, 12, 57), (59, 3, 60), (32, 13, 59), (61, 3, 62), (32, 14, 61), (63, 3, 64), (32, 15, 63), (65, 3, 66), (32, 16, 65), (67, 3, 68), (32, 17, 67), (69, 3, 70), (32, 18, 69), (71, 3, 72), (32, 19, 71), (73, 3, 74), (32, 20, 73), (75, 3, 76), (32, 21, 75), (77, 3, 78), (32, 22, 77), (79, 3, 80), (32, 23, 79), (81, 3, 82), (32, 24, 81), (83, 3, 84), (32, 25, 83), (85, 3, 86), (32, 26, 85), (87, 3, 88), (32, 27, 87), (89, 3, 90), (32, 28, 89), (91, 3, 92), (32, 29, 91), (94, 0, 95), (94, 1, 96), (94, 2, 97), (98, 0, 99), (98, 1, 100), (98, 2, 101), (105, 3, 106), (104, 0, 105), (93, 0, 104), (108, 3, 109), (107, 0, 108), (93, 1, 107), (110, 0, 111), (110, 1, 112), (110, 13, 113), (110, 14, 114), (110, 15, 115), (110, 16, 116), (110, 17, 117), (110, 18, 118), (110, 19, 119), (110, 20, 120), (110, 21, 121), (110, 27, 122), (110, 28, 123), (110, 32, 124), (110, 33, 125), (110, 34, 126), (110, 35, 127), (110, 36, 128), (110, 38, 129), (110, 39, 130), (110, 40, 131), (110, 41, 132)]
def WF (μ : Mem) : Prop := ∀ q ∈ wfl, μ q.1 q.2.1 = q.2.2
theorem so_of {z : Int} {s : Sh} (h0 : 0 ≤ z) (h : SHl[z.toNat]? = some s) : So SHl z s := ⟨h0, h⟩
theorem so_0 : So SHl 0 (.inl 7) := ⟨by decide, by decide +kernel⟩
theorem so_1 : So SHl 1 (.inl 4) := ⟨by decide, by decide +kernel⟩
theorem so_2 : So SHl 2 (.inr (2, 250)) := ⟨by decide, by decide +kernel⟩
theorem ai_2 {i : Int} (h0 : 0 ≤ i) (h1 : i < 250) : Ai SHl 2 2 i := ⟨250, so_2, h0, h1, by decide⟩
theorem so_3 : So SHl 3 (.inl 6) := ⟨by decide, by decide +kernel⟩
theorem so_4 : So SHl 4 (.inr (0, 8)) := ⟨by decide, by decide +kernel⟩
theorem ai_4 {i : Int} (h0 : 0 ≤ i) (h1 : i < 8) : Ai SHl 4 0 i := ⟨8, so_4, h0, h1, by decide⟩
theorem so_5 : So SHl 5 (.inr (0, 8)) := ⟨by decide, by decide +kernel⟩
theorem ai_5 {i : Int} (h0 : 0 ≤ i) (h1 : i < 8) : Ai SHl 5 0 i := ⟨8, so_5, h0, h1, by decide⟩
theorem so_6 : So SHl 6 (.inr (0, 10)) := ⟨by decide, by decide +kernel⟩
theorem ai_6 {i : Int} (h0 : 0 ≤ i) (h1 : i < 10) : Ai SHl 6 0 i := ⟨10, so_6, h0, h1, by decide⟩
theorem so_7 : So SHl 7 (.inr (0, 11)) := ⟨by decide, by decide +kernel⟩
theorem ai_7 {i : Int} (h0 : 0 ≤ i) (h1 : i < 11) : Ai SHl 7 0 i := ⟨11, so_7, h0, h1, by decide⟩
theorem so_8 : So SHl 8 (.inr (0, 11)) := ⟨by decide, by decide +kernel⟩
theorem ai_8 {i : Int} (h0 : 0 ≤ i) (h1 : i < 11) : Ai SHl 8 0 i := ⟨11, so_8, h0, h1, by decide⟩
theorem so_9 : So SHl 9 (.inr (0, 11)) := ⟨by decide, by decide +kernel⟩
theorem ai_9 {i : Int} (h0 : 0 ≤ i) (h1 : i < 11) : Ai SHl 9 0 i := ⟨11, so_9, h0, h1, by decide⟩
theorem so_10 : So SHl 10 (.inr (0, 6)) := ⟨by decide, by decide +kernel⟩
theorem ai_10 {i : Int} (h0 : 0 ≤ i) (h1 : i < 6) : Ai SHl 10 0 i := ⟨6, so_10, h0, h1, by decide⟩
theorem so_11 : So SHl 11 (.inr (0, 6)) := ⟨by decide, by decide +kernel⟩
theorem ai_11 {i : Int} (h0 : 0 ≤ i) (h1 : i < 6) : Ai SHl 11 0 i := ⟨6, so_11, h0, h1, by decide⟩
theorem so_12 : So SHl 12 (.inl 6) := ⟨by decide, by decide +kernel⟩
theorem so_13 : So SHl 13 (.inr (0, 8)) := ⟨by decide, by decide +kernel⟩
theorem ai_13 {i : Int} (h0 : 0 ≤ i) (h1 : i < 8) : Ai SHl 13 0 i := ⟨8, so_13, h0, h1, by decide⟩
theorem so_14 : So SHl 14 (.inr (0, 8)) := ⟨by decide, by decide +kernel⟩
theorem ai_14 {i : Int} (h0 : 0 ≤ i) (h1 : i < 8) : Ai SHl 14 0 i := ⟨8, so_14, h0, h1, by decide⟩
theorem so_15 : So SHl 15 (.inr (0, 10)) := ⟨by decide, by decide +kernel⟩
theorem ai_15 {i : Int} (h0 : 0 ≤ i) (h1 : i < 10) : Ai SHl 15 0 i := ⟨10, so_15, h0, h1, by decide⟩
theorem so_16 : So SHl 16 (.inr (0, 11)) := ⟨by decide, by decide +kernel⟩
theorem ai_16 {i : Int} (h0 : 0 ≤ i) (h1 : i < 11) : Ai SHl 16 0 i := ⟨11, so_16, h0, h1, by decide⟩
theorem so_17 : So SHl 17 (.inr (0, 11)) := ⟨by decide, by decide +kernel⟩
theorem ai_17 {i : Int} (h0 : 0 ≤ i) (h1 : i < 11) : Ai SHl 17 0 i := ⟨11, so_17, h0, h1, by decide⟩
theorem so_18 : So SHl 18 (.inr (0, 11)) := ⟨by decide, by decide +kernel⟩
theorem ai_18 {i : Int} (h0 : 0 ≤ i) (h1 : i < 11) : Ai SHl 18 0 i := ⟨11, so_18, h0, h1, by decide⟩
theorem so_19 : So SHl 19 (.inr (0, 6)) := ⟨by decide, by decide +kernel⟩
theorem ai_19 {i : Int} (h0 : 0 ≤ i) (h1 : i < 6) : Ai SHl 19 0 i := ⟨6, so_19, h0, h1, by decide⟩
theorem so_20 : So SHl 20 (.inr (0, 6)) := ⟨by decide, by decide +kernel⟩
theorem ai_20 {i : Int} (h0 : 0 ≤ i) (h1 : i < 6) : Ai SHl 20 0 i := ⟨6, so_20, h0, h1, by decide⟩
theorem so_21 : So SHl 21 (.inl 3) := ⟨by decide, by decide +kernel⟩
theorem so_22 : So SHl 22 (.inr (1, 8)) := ⟨by decide, by decide +kernel⟩
theorem ai_22 {i : Int} (h0 : 0 ≤ i) (h1 : i < 8) : Ai SHl 22 1 i := ⟨8, so_22, h0, h1, by decide⟩
theorem so_23 : So SHl 23 (.inr (1, 8)) := ⟨by decide, by decide +kernel⟩
theorem ai_23 {i : Int} (h0 : 0 ≤ i) (h1 : i < 8) : Ai SHl 23 1 i := ⟨8, so_23, h0, h1, by decide⟩
theorem so_24 : So SHl 24 (.inr (0, 8)) := ⟨by decide, by decide +kernel⟩
theorem ai_24 {i : Int} (h0 : 0 ≤ i) (h1 : i < 8) : Ai SHl 24 0 i := ⟨8, so_24, h0, h1, by decide⟩
theorem so_25 : So SHl 25 (.inl 3) := ⟨by decide, by decide +kernel⟩
theorem so_26 : So SHl 26 (.inr (1, 8)) := ⟨by decide, by decide +kernel⟩
theorem ai_26 {i : Int} (h0 : 0 ≤ i) (h1 : i < 8) : Ai SHl 26 1 i := ⟨8, so_26, h0, h1, by decide⟩
theorem so_27 : So SHl 27 (.inr (1, 8)) := ⟨by decide, by decide +kernel⟩
theorem ai_27 {i : Int} (h0 : 0 ≤ i) (h1 : i < 8) : Ai SHl 27 1 i := ⟨8, so_27, h0, h1, by decide⟩
theorem so_28 : So SHl 28 (.inr (0, 8)) := ⟨by decide, by decide +kernel⟩
theorem ai_28 {i : Int} (h0 : 0 ≤ i) (h1 : i < 8) : Ai SHl 28 0 i := ⟨8, so_28, h0, h1, by decide⟩
theorem so_29 : So SHl 29 (.inl 5) := ⟨by decide, by decide +kernel⟩
theorem so_30 : So SHl 30 (.inr (0, 8)) := ⟨by decide, by decide +kernel⟩
theorem ai_30 {i : Int} (h0 : 0 ≤ i) (h1 : i < 8) : Ai SHl 30 0 i := ⟨8, so_30, h0, h1, by decide⟩
theorem so_31 : So SHl 31 (.inl 0) := ⟨by decide, by decide +kernel⟩
theorem so_32 : So SHl 32 (.inr (5, 30)) := ⟨by decide, by decide +kernel⟩
theorem ai_32 {i : Int} (h0 : 0 ≤ i) (h1 : i < 30) : Ai SHl 32 5 i := ⟨30, so_32, h0, h1, by decide⟩
theorem so_33 : So SHl 33 (.inl 5) := ⟨by decide, by decide +kernel⟩
theorem so_34 : So SHl 34 (.inr (0, 8)) := ⟨by decide, by decide +kernel⟩
theorem ai_34 {i : Int} (h0 : 0 ≤ i) (h1 : i < 8) : Ai SHl 34 0 i := ⟨8, so_34, h0, h1, by decide⟩
theorem so_35 : So SHl 35 (.inl 5) := ⟨by decide, by decide +kernel⟩
theorem so_36 : So SHl 36 (.inr (0, 8)) := ⟨by decide, by decide +kernel⟩
theorem ai_36 {i : Int} (h0 : 0 ≤ i) (h1 : i < 8) : Ai SHl 36 0 i := ⟨8, so_36, h0, h1, by decide⟩
theorem so_37 : So SHl 37 (.inl 5) := ⟨by decide, by decide +kernel⟩
theorem so_38 : So SHl 38 (.inr (0, 8)) := ⟨by decide, by decide +kernel⟩
theorem ai_38 {i : Int} (h0 : 0 ≤ i) (h1 : i < 8) : Ai SHl 38 0 i := ⟨8, so_38, h0, h1, by decide⟩
theorem so_39 : So SHl 39 (.inl 5) := ⟨by decide, by decide +kernel⟩
theorem so_40 : So SHl 40 (.inr (0, 8)) := ⟨by decide, by decide +kernel⟩
theorem ai_40 {i : Int} (h0 : 0 ≤ i) (h1 : i < 8) : Ai SHl 40 0 i := ⟨8, so_40, h0, h1, by decide⟩
theorem so_41 : So SHl 41 (.inl 5) := ⟨by decide, by decide +kernel⟩
theorem so_42 : So SHl 42 (.inr (0, 8)) := ⟨by decide, by decide +kernel⟩
theorem ai_42 {i : Int} (h0 : 0 ≤ i) (h1 : i < 8) : Ai SHl 42 0 i := ⟨8, so_42, h0, h1, by decide⟩
theorem so_43 : So SHl 43 (.inl 5) := ⟨by decide, by decide +kernel⟩
theorem so_44 : So SHl 44 (.inr (0, 8)) := ⟨by decide, by decide +kernel⟩
theorem ai_44 {i : Int} (h0 : 0 ≤ i) (h1 : i < 8) : Ai SHl 44 0 i := ⟨8, so_44, h0, h1, by decide⟩
theorem so_45 : So SHl 45 (.inl 5) := ⟨by decide, by decide +kernel⟩
theorem so_46 : So SHl 46 (.inr (0, 8)) := ⟨by decide, by decide +kernel⟩
theorem ai_46 {i : Int} (h0 : 0 ≤ i) (h1 : i < 8) : Ai SHl 46 0 i := ⟨8, so_46, h0, h1, by decide⟩
theorem so_47 : So SHl 47 (.inl 5) := ⟨by decide, by decide +kernel⟩
theorem so_48 : So SHl 48 (.inr (0, 8)) := ⟨by decide, by decide +kernel⟩
theorem ai_48 {i : Int} (h0 : 0 ≤ i) (h1 : i < 8) : Ai SHl 48 0 i := ⟨8, so_48, h0, h1, by decide⟩
theorem so_49 : So SHl 49 (.inl 5) := ⟨by decide, by decide +kernel⟩
theorem so_50 : So SHl 50 (.inr (0, 8)) := ⟨by decide, by decide +kernel⟩
theorem ai_50 {i : Int} (h0 : 0 ≤ i) (h1 : i < 8) : Ai SHl 50 0 i := ⟨8, so_50, h0, h1, by decide⟩
theorem so_51 : So SHl 51 (.inl 5) := ⟨by decide, by decide +kernel⟩
theorem so_52 : So SHl 52 (.inr (0, 8)) := ⟨by decide, by decide +kernel⟩
theorem ai_52 {i : Int} (h0 : 0 ≤ i) (h1 : i < 8) : Ai SHl 52 0 i := ⟨8, so_52, h0, h1, by decide⟩
theorem so_53 : So SHl 53 (.inl 5) := ⟨by decide, by decide +kernel⟩
theorem so_54 : So SHl 54 (.inr (0, 8)) := ⟨by decide, by decide +kernel⟩
theorem ai_54 {i : Int} (h0 : 0 ≤ i) (h1 : i < 8) : Ai SHl 54 0 i := ⟨8, so_54, h0, h1, by decide⟩
theorem so_55 : So SHl 55 (.inl 5) := ⟨by decide, by decide +kernel⟩
theorem so_56 : So SHl 56 (.inr (0, 8)) := ⟨by decide, by decide +kernel⟩
theorem ai_56 {i : Int} (h0 : 0 ≤ i) (h1 : i < 8) : Ai SHl 56 0 i := ⟨8, so_56, h0, h1, by decide⟩
theorem so_57 : So SHl 57 (.inl 5) := ⟨by decide, by decide +kernel⟩
theorem so_58 : So SHl 58 (.inr (0, 8)) := ⟨by decide, by decide +kernel⟩
theorem ai_58 {i : Int} (h0 : 0 ≤ i) (h1 : i < 8) : Ai SHl 58 0 i := ⟨8, so_58, h0, h1, by decide⟩
theorem so_59 : So SHl 59 (.inl 5) := ⟨by decide, by decide +kernel⟩
theorem so_60 : So SHl 60 (.inr (0, 8)) := ⟨by decide, by decide +kernel⟩
theorem ai_60 {i : Int} (h0 : 0 ≤ i) (h1 : i < 8) : Ai SHl 60 0 i := ⟨8, so_60, h0, h1, by decide⟩
theorem so_61 : So SHl 61 (.inl 5) := ⟨by decide, by decide +kernel⟩
theorem so_62 : So SHl 62 (.inr (0, 8)) := ⟨by decide, by decide +kernel⟩
theorem ai_62 {i : Int} (h0 : 0 ≤ i) (h1 : i < 8) : Ai SHl 62 0 i := ⟨8, so_62, h0, h1, by decide⟩
theorem so_63 : So SHl 63 (.inl 5) := ⟨by decide, by decide +kernel⟩
theorem so_64 : So SHl 64 (.inr (0, 8)) := ⟨by decide, by decide +kernel⟩
theorem ai_64 {i : Int} (h0 : 0 ≤ i) (h1 : i < 8) : Ai SHl 64 0 i := ⟨8, so_64, h0, h1, by decide⟩
theorem so_65 : So SHl 65 (.inl 5) := ⟨by decide, by decide +kernel⟩
theorem so_66 : So SHl 66 (.inr (0, 8)) := ⟨by decide, by decide +kernel⟩
theorem ai_66 {i : Int} (h0 : 0 ≤ i) (h1 : i < 8) : Ai SHl 66 0 i := ⟨8, so_66, h0, h1, by decide⟩
theorem so_67 : So SHl 67 (.inl 5) := ⟨by decide, by decide +kernel⟩
theorem so_68 : So SHl 68 (.inr (0, 8)) := ⟨by decide, by decide +kernel⟩
theorem ai_68 {i : Int} (h0 : 0 ≤ i) (h1 : i < 8) : Ai SHl 68 0 i := ⟨8, so_68, h0, h1, by decide⟩
theorem so_69 : So SHl 69 (.inl 5) := ⟨by decide, by decide +kernel⟩
theorem so_70 : So SHl 70 (.inr (0, 8)) := ⟨by decide, by decide +kernel⟩
theorem ai_70 {i : Int} (h0 : 0 ≤ i) (h1 : i < 8) : Ai SHl 70 0 i := ⟨8, so_70, h0, h1, by decide⟩
theorem so_71 : So SHl 71 (.inl 5) := ⟨by decide, by decide +kernel⟩
theorem so_72 : So SHl 72 (.inr (0, 8)) := ⟨by decide, by decide +kernel⟩
theorem ai_72 {i : Int} (h0 : 0 ≤ i) (h1 : i < 8) : Ai SHl 72 0 i := ⟨8, so_72, h0, h1, by decide⟩
theorem so_73 : So SHl 73 (.inl 5) := ⟨by decide, by decide +kernel⟩
theorem so_74 : So SHl 74 (.inr (0, 8)) := ⟨by decide, by decide +kernel⟩
theorem ai_74 {i : Int} (h0 : 0 ≤ i) (h1 : i < 8) : Ai SHl 74 0 i := ⟨8, so_74, h0, h1, by decide⟩
theorem so_75 : So SHl 75 (.inl 5) := ⟨by decide, by decide +kernel⟩
theorem so_76 : So SHl 76 (.inr (0, 8)) := ⟨by decide, by decide +kernel⟩
theorem ai_76 {i : Int} (h0 : 0 ≤ i) (h1 : i < 8) : Ai SHl 76 0 i := ⟨8, so_76, h0, h1, by decide⟩
theorem so_77 : So SHl 77 (.inl 5) := ⟨by decide, by decide +kernel⟩
theorem so_78 : So SHl 78 (.inr (0, 8)) := ⟨by decide, by decide +kernel⟩
theorem ai_78 {i : Int} (h0 : 0 ≤ i) (h1 : i < 8) : Ai SHl 78 0 i := ⟨8, so_78, h0, h1, by decide⟩
theorem so_79 : So SHl 79 (.inl 5) := ⟨by decide, by decide +kernel⟩
theorem so_80 : So SHl 80 (.inr (0, 8)) := ⟨by decide, by decide +kernel⟩
theorem ai_80 {i : Int} (h0 : 0 ≤ i) (h1 : i < 8) : Ai SHl 80 0 i := ⟨8, so_80, h0, h1, by decide⟩
theorem so_81 : So SHl 81 (.inl 5) := ⟨by decide, by decide +kernel⟩
theorem so_82 : So SHl 82 (.inr (0, 8)) := ⟨by decide, by decide +kernel⟩
theorem ai_82 {i : Int} (h0 : 0 ≤ i) (h1 : i < 8) : Ai SHl 82 0 i := ⟨8, so_82, h0, h1, by decide⟩
theorem so_83 : So SHl 83 (.inl 5) := ⟨by decide, by decide +kernel⟩
theorem so_84 : So SHl 84 (.inr (0, 8)) := ⟨by decide, by decide +kernel⟩
theorem ai_84 {i : Int} (h0 : 0 ≤ i) (h1 : i < 8) : Ai SHl 84 0 i := ⟨8, so_84, h0, h1, by decide⟩
theorem so_85 : So SHl 85 (.inl 5) := ⟨by decide, by decide +kernel⟩
theorem so_86 : So SHl 86 (.inr (0, 8)) := ⟨by decide, by decide +kernel⟩
theorem ai_86 {i : Int} (h0 : 0 ≤ i) (h1 : i < 8) : Ai SHl 86 0 i := ⟨8, so_86, h0, h1, by decide⟩
theorem so_87 : So SHl 87 (.inl 5) := ⟨by decide, by decide +kernel⟩
theorem so_88 : So SHl 88 (.inr (0, 8)) := ⟨by decide, by decide +kernel⟩
theorem ai_88 {i : Int} (h0 : 0 ≤ i) (h1 : i < 8) : Ai SHl 88 0 i := ⟨8, so_88, h0, h1, by decide⟩
theorem so_89 : So SHl 89 (.inl 5) := ⟨by decide, by decide +kernel⟩
theorem so_90 : So SHl 90 (.inr (0, 8)) := ⟨by decide, by decide +kernel⟩
theorem ai_90 {i : Int} (h0 : 0 ≤ i) (h1 : i < 8) : Ai SHl 90 0 i := ⟨8, so_90, h0, h1, by decide⟩
theorem so_91 : So SHl 91 (.inl 5) := ⟨by decide, by decide +kernel⟩
theorem so_92 : So SHl 92 (.inr (0, 8)) := ⟨by decide, by decide +kernel⟩
theorem ai_92 {i : Int} (h0 : 0 ≤ i) (h1 : i < 8) : Ai SHl 92 0 i := ⟨8, so_92, h0, h1, by decide⟩
theorem so_93 : So SHl 93 (.inr (4, 2)) := ⟨by decide, by decide +kernel⟩
theorem ai_93 {i : Int} (h0 : 0 ≤ i) (h1 : i < 2) : Ai SHl 93 4 i := ⟨2, so_93, h0, h1, by decide⟩
theorem so_94 : So SHl 94 (.inl 2) := ⟨by decide, by decide +kernel⟩
theorem so_95 : So SHl 95 (.inr (0, 12)) := ⟨by decide, by decide +kernel⟩
theorem ai_95 {i : Int} (h0 : 0 ≤ i) (h1 : i < 12) : Ai SHl 95 0 i := ⟨12, so_95, h0, h1, by decide⟩
theorem so_96 : So SHl 96 (.inr (0, 12)) := ⟨by decide, by decide +kernel⟩
theorem ai_96 {i : Int} (h0 : 0 ≤ i) (h1 : i < 12) : Ai SHl 96 0 i := ⟨12, so_96, h0, h1, by decide⟩
theorem so_97 : So SHl 97 (.inr (0, 12)) := ⟨by decide, by decide +kernel⟩
theorem ai_97 {i : Int} (h0 : 0 ≤ i) (h1 : i < 12) : Ai SHl 97 0 i := ⟨12, so_97, h0, h1, by decide⟩
theorem so_98 : So SHl 98 (.inl 2) := ⟨by decide, by decide +kernel⟩
theorem so_99 : So SHl 99 (.inr (0, 15)) := ⟨by decide, by decide +kernel⟩
theorem ai_99 {i : Int} (h0 : 0 ≤ i) (h1 : i < 15) : Ai SHl 99 0 i := ⟨15, so_99, h0, h1, by decide⟩
theorem so_100 : So SHl 100 (.inr (0, 15)) := ⟨by decide, by decide +kernel⟩
theorem ai_100 {i : Int} (h0 : 0 ≤ i) (h1 : i < 15) : Ai SHl 100 0 i := ⟨15, so_100, h0, h1, by decide⟩
theorem so_101 : So SHl 101 (.inr (0, 15)) := ⟨by decide, by decide +kernel⟩
theorem ai_101 {i : Int} (h0 : 0 ≤ i) (h1 : i < 15) : Ai SHl 101 0 i := ⟨15, so_101, h0, h1, by decide⟩
theorem so_102 : So SHl 102 (.inr (0, 8)) := ⟨by decide, by decide +kernel⟩
theorem ai_102 {i : Int} (h0 : 0 ≤ i) (h1 : i < 8) : Ai SHl 102 0 i := ⟨8, so_102, h0, h1, by decide⟩
theorem so_103 : So SHl 103 (.inr (0, 30)) := ⟨by decide, by decide +kernel⟩
theorem ai_103 {i : Int} (h0 : 0 ≤ i) (h1 : i < 30) : Ai SHl 103 0 i := ⟨30, so_103, h0, h1, by decide⟩
theorem so_104 : So SHl 104 (.inl 1) := ⟨by decide, by decide +kernel⟩
theorem so_105 : So SHl 105 (.inl 5) := ⟨by decide, by decide +kernel⟩
theorem so_106 : So SHl 106 (.inr (0, 8)) := ⟨by decide, by decide +kernel⟩
theorem ai_106 {i : Int} (h0 : 0 ≤ i) (h1 : i < 8) : Ai SHl 106 0 i := ⟨8, so_106, h0, h1, by decide⟩
theorem so_107 : So SHl 107 (.inl 1) := ⟨by decide, by decide +kernel⟩
theorem so_108 : So SHl 108 (.inl 5) := ⟨by decide, by decide +kernel⟩
theorem so_109 : So SHl 109 (.inr (0, 8)) := ⟨by decide, by decide +kernel⟩
theorem ai_109 {i : Int} (h0 : 0 ≤ i) (h1 : i < 8) : Ai SHl 109 0 i := ⟨8, so_109, h0, h1, by decide⟩
theorem so_110 : So SHl 110 (.inl 8) := ⟨by decide, by decide +kernel⟩
theorem so_111 : So SHl 111 (.inr (0, 396)) := ⟨by decide, by decide +kernel⟩
theorem ai_111 {i : Int} (h0 : 0 ≤ i) (h1 : i < 396) : Ai SHl 111 0 i := ⟨396, so_111, h0, h1, by decide⟩
theorem so_112 : So SHl 112 (.inr (3, 2)) := ⟨by decide, by decide +kernel⟩
theorem ai_112 {i : Int} (h0 : 0 ≤ i) (h1 : i < 2) : Ai SHl 112 3 i := ⟨2, so_112, h0, h1, by decide⟩
theorem so_113 : So SHl 113 (.inr (0, 16)) := ⟨by decide, by decide +kernel⟩
theorem ai_113 {i : Int} (h0 : 0 ≤ i) (h1 : i < 16) : Ai SHl 113 0 i := ⟨16, so_113, h0, h1, by decide⟩
theorem so_114 : So SHl 114 (.inr (0, 16)) := ⟨by decide, by decide +kernel⟩
theorem ai_114 {i : Int} (h0 : 0 ≤ i) (h1 : i < 16) : Ai SHl 114 0 i := ⟨16, so_114, h0, h1, by decide⟩
theorem so_115 : So SHl 115 (.inr (0, 21)) := ⟨by decide, by decide +kernel⟩
theorem ai_115 {i : Int} (h0 : 0 ≤ i) (h1 : i < 21) : Ai SHl 115 0 i := ⟨21, so_115, h0, h1, by decide⟩
theorem so_116 : So SHl 116 (.inr (0, 21)) := ⟨by decide, by decide +kernel⟩
theorem ai_116 {i : Int} (h0 : 0 ≤ i) (h1 : i < 21) : Ai SHl 116 0 i := ⟨21, so_116, h0, h1, by decide⟩
theorem so_117 : So SHl 117 (.inr (0, 21)) := ⟨by decide, by decide +kernel⟩
theorem ai_117 {i : Int} (h0 : 0 ≤ i) (h1 : i < 21) : Ai SHl 117 0 i := ⟨21, so_117, h0, h1, by decide⟩
theorem so_118 : So SHl 118 (.inr (0, 20)) := ⟨by decide, by decide +kernel⟩
theorem ai_118 {i : Int} (h0 : 0 ≤ i) (h1 : i < 20) : Ai SHl 118 0 i := ⟨20, so_118, h0, h1, by decide⟩
theorem so_119 : So SHl 119 (.inr (0, 12)) := ⟨by decide, by decide +kernel⟩
theorem ai_119 {i : Int} (h0 : 0 ≤ i) (h1 : i < 12) : Ai SHl 119 0 i := ⟨12, so_119, h0, h1, by decide⟩
theorem so_120 : So SHl 120 (.inr (0, 12)) := ⟨by decide, by decide +kernel⟩
theorem ai_120 {i : Int} (h0 : 0 ≤ i) (h1 : i < 12) : Ai SHl 120 0 i := ⟨12, so_120, h0, h1, by decide⟩
theorem so_121 : So SHl 121 (.inr (0, 250)) := ⟨by decide, by decide +kernel⟩
theorem ai_121 {i : Int} (h0 : 0 ≤ i) (h1 : i < 250) : Ai SHl 121 0 i := ⟨250, so_121, h0, h1, by decide⟩
theorem so_122 : So SHl 122 (.inr (1, 8)) := ⟨by decide, by decide +kernel⟩
theorem ai_122 {i : Int} (h0 : 0 ≤ i) (h1 : i < 8) : Ai SHl 122 1 i := ⟨8, so_122, h0, h1, by decide⟩
theorem so_123 : So SHl 123 (.inr (1, 8)) := ⟨by decide, by decide +kernel⟩
theorem ai_123 {i : Int} (h0 : 0 ≤ i) (h1 : i < 8) : Ai SHl 123 1 i := ⟨8, so_123, h0, h1, by decide⟩
theorem so_124 : So SHl 124 (.inr (0, 8)) := ⟨by decide, by decide +kernel⟩
theorem ai_124 {i : Int} (h0 : 0 ≤ i) (h1 : i < 8) : Ai SHl 124 0 i := ⟨8, so_124, h0, h1, by decide⟩
theorem so_125 : So SHl 125 (.inr (1, 8)) := ⟨by decide, by decide +kernel⟩
theorem ai_125 {i : Int} (h0 : 0 ≤ i) (h1 : i < 8) : Ai SHl 125 1 i := ⟨8, so_125, h0, h1, by decide⟩
theorem so_126 : So SHl 126 (.inr (0, 12)) := ⟨by decide, by decide +kernel⟩
theorem ai_126 {i : Int} (h0 : 0 ≤ i) (h1 : i < 12) : Ai SHl 126 0 i := ⟨12, so_126, h0, h1, by decide⟩
theorem so_127 : So SHl 127 (.inr (0, 12)) := ⟨by decide, by decide +kernel⟩
theorem ai_127 {i : Int} (h0 : 0 ≤ i) (h1 : i < 12) : Ai SHl 127 0 i := ⟨12, so_127, h0, h1, by decide⟩
theorem so_128 : So SHl 128 (.inr (0, 12)) := ⟨by decide, by decide +kernel⟩
theorem ai_128 {i : Int} (h0 : 0 ≤ i) (h1 : i < 12) : Ai SHl 128 0 i := ⟨12, so_128, h0, h1, by decide⟩
theorem so_129 : So SHl 129 (.inr (0, 30)) := ⟨by decide, by decide +kernel⟩
theorem ai_129 {i : Int} (h0 : 0 ≤ i) (h1 : i < 30) : Ai SHl 129 0 i := ⟨30, so_129, h0, h1, by decide⟩
theorem so_130 : So SHl 130 (.inr (0, 15)) := ⟨by decide, by decide +kernel⟩
theorem ai_130 {i : Int} (h0 : 0 ≤ i) (h1 : i < 15) : Ai SHl 130 0 i := ⟨15, so_130, h0, h1, by decide⟩
theorem so_131 : So SHl 131 (.inr (0, 15)) := ⟨by decide, by decide +kernel⟩
theorem ai_131 {i : Int} (h0 : 0 ≤ i) (h1 : i < 15) : Ai SHl 131 0 i := ⟨15, so_131, h0, h1, by decide⟩
theorem so_132 : So SHl 132 (.inr (0, 15)) := ⟨by decide, by decide +kernel⟩
theorem ai_132 {i : Int} (h0 : 0 ≤ i) (h1 : i < 15) : Ai SHl 132 0 i := ⟨15, so_132, h0, h1, by decide⟩
theorem wf_0_0 {μ : Mem} (h : WF μ) : μ 0 0 = 1 := h (0, 0, 1) (by decide +kernel)
theorem wf_0_3 {μ : Mem} (h : WF μ) : μ 0 3 = 21 := h (0, 3, 21) (by decide +kernel)
theorem wf_0_4 {μ : Mem} (h : WF μ) : μ 0 4 = 25 := h (0, 4, 25) (by decide +kernel)
theorem wf_0_5 {μ : Mem} (h : WF μ) : μ 0 5 = 29 := h (0, 5, 29) (by decide +kernel)
theorem wf_0_6 {μ : Mem} (h : WF μ) : μ 0 6 = 31 := h (0, 6, 31) (by decide +kernel)
theorem wf_0_7 {μ : Mem} (h : WF μ) : μ 0 7 = 93 := h (0, 7, 93) (by decide +kernel)
theorem wf_0_8 {μ : Mem} (h : WF μ) : μ 0 8 = 94 := h (0, 8, 94) (by decide +kernel)
theorem wf_0_9 {μ : Mem} (h : WF μ) : μ 0 9 = 98 := h (0, 9, 98) (by decide +kernel)
theorem wf_0_10 {μ : Mem} (h : WF μ) : μ 0 10 = 102 := h (0, 10, 102) (by decide +kernel)
theorem wf_0_11 {μ : Mem} (h : WF μ) : μ 0 11 = 103 := h (0, 11, 103) (by decide +kernel)
theorem wf_1_0 {μ : Mem} (h : WF μ) : μ 1 0 = 2 := h (1, 0, 2) (by decide +kernel)
theorem wf_3_5 {μ : Mem} (h : WF μ) : μ 3 5 = 4 := h (3, 5, 4) (by decide +kernel)
theorem wf_3_6 {μ : Mem} (h : WF μ) : μ 3 6 = 5 := h (3, 6, 5) (by decide +kernel)
theorem wf_3_7 {μ : Mem} (h : WF μ) : μ 3 7 = 6 := h (3, 7, 6) (by decide +kernel)
theorem wf_3_8 {μ : Mem} (h : WF μ) : μ 3 8 = 7 := h (3, 8, 7) (by decide +kernel)
theorem wf_3_9 {μ : Mem} (h : WF μ) : μ 3 9 = 8 := h (3, 9, 8) (by decide +kernel)
theorem wf_3_10 {μ : Mem} (h : WF μ) : μ 3 10 = 9 := h (3, 10, 9) (by decide +kernel)
theorem wf_3_11 {μ : Mem} (h : WF μ) : μ 3 11 = 10 := h (3, 11, 10) (by decide +kernel)
theorem wf_3_12 {μ : Mem} (h : WF μ) : μ 3 12 = 11 := h (3, 12, 11) (by decide +kernel)
theorem wf_12_5 {μ : Mem} (h : WF μ) : μ 12 5 = 13 := h (12, 5, 13) (by decide +kernel)
theorem wf_12_6 {μ : Mem} (h : WF μ) : μ 12 6 = 14 := h (12, 6, 14) (by decide +kernel)
theorem wf_12_7 {μ : Mem} (h : WF μ) : μ 12 7 = 15 := h (12, 7, 15) (by decide +kernel)
theorem wf_12_8 {μ : Mem} (h : WF μ) : μ 12 8 = 16 := h (12, 8, 16) (by decide +kernel)
theorem wf_12_9 {μ : Mem} (h : WF μ) : μ 12 9 = 17 := h (12, 9, 17) (by decide +kernel)
theorem wf_12_10 {μ : Mem} (h : WF μ) : μ 12 10 = 18 := h (12, 10, 18) (by decide +kernel)
theorem wf_12_11 {μ : Mem} (h : WF μ) : μ 12 11 = 19 := h (12, 11, 19) (by decide +kernel)
theorem wf_12_12 {μ : Mem} (h : WF μ) : μ 12 12 = 20 := h (12, 12, 20) (by decide +kernel)
theorem wf_21_0 {μ : Mem} (h : WF μ) : μ 21 0 = 22 := h (21, 0, 22) (by decide +kernel)
theorem wf_21_1 {μ : Mem} (h : WF μ) : μ 21 1 = 23 := h (21, 1, 23) (by decide +kernel)
theorem wf_21_2 {μ : Mem} (h : WF μ) : μ 21 2 = 24 := h (21, 2, 24) (by decide +kernel)
theorem wf_25_0 {μ : Mem} (h : WF μ) : μ 25 0 = 26 := h (25, 0, 26) (by decide +kernel)
theorem wf_25_1 {μ : Mem} (h : WF μ) : μ 25 1 = 27 := h (25, 1, 27) (by decide +kernel)
theorem wf_25_2 {μ : Mem} (h : WF μ) : μ 25 2 = 28 := h (25, 2, 28) (by decide +kernel)
theorem wf_29_3 {μ : Mem} (h : WF μ) : μ 29 3 = 30 := h (29, 3, 30) (by decide +kernel)
theorem wf_31_0 {μ : Mem} (h : WF μ) : μ 31 0 = 32 := h (31, 0, 32) (by decide +kernel)
theorem wf_33_3 {μ : Mem} (h : WF μ) : μ 33 3 = 34 := h (33, 3, 34) (by decide +kernel)
theorem wf_32_0 {μ : Mem} (h : WF μ) : μ 32 0 = 33 := h (32, 0, 33) (by decide +kernel)
theorem wf_35_3 {μ : Mem} (h : WF μ) : μ 35 3 = 36 := h (35, 3, 36) (by decide +kernel)
theorem wf_32_1 {μ : Mem} (h : WF μ) : μ 32 1 = 35 := h (32, 1, 35) (by decide +kernel)
theorem wf_37_3 {μ : Mem} (h : WF μ) : μ 37 3 = 38 := h (37, 3, 38) (by decide +kernel)
theorem wf_32_2 {μ : Mem} (h : WF μ) : μ 32 2 = 37 := h (32, 2, 37) (by decide +kernel)
theorem wf_39_3 {μ : Mem} (h : WF μ) : μ 39 3 = 40 := h (39, 3, 40) (by decide +kernel)
theorem wf_32_3 {μ : Mem} (h : WF μ) : μ 32 3 = 39 := h (32, 3, 39) (by decide +kernel)
theorem wf_41_3 {μ : Mem} (h : WF μ) : μ 41 3 = 42 := h (41, 3, 42) (by decide +kernel)
theorem wf_32_4 {μ : Mem} (h : WF μ) : μ 32 4 = 41 := h (32, 4, 41) (by decide +kernel)
theorem wf_43_3 {μ : Mem} (h : WF μ) : μ 43 3 = 44 := h (43, 3, 44) (by decide +kernel)
theorem wf_32_5 {μ : Mem} (h : WF μ) : μ 32 5 = 43 := h (32, 5, 43) (by decide +kernel)
theorem wf_45_3 {μ : Mem} (h : WF μ) : μ 45 3 = 46 := h (45, 3, 46) (by decide +kernel)
theorem wf_32_6 {μ : Mem} (h : WF μ) : μ 32 6 = 45 := h (32, 6, 45) (by decide +kernel)
theorem wf_47_3 {μ : Mem} (h : WF μ) : μ 47 3 = 48 := h (47, 3, 48) (by decide +kernel)
theorem wf_32_7 {μ : Mem} (h : WF μ) : μ 32 7 = 47 := h (32, 7, 47) (by decide +kernel)
theorem wf_49_3 {μ : Mem} (h : WF μ) : μ 49 3 = 50 := h (49, 3, 50) (by decide +kernel)
theorem wf_32_8 {μ : Mem} (h : WF μ) : μ 32 8 = 49 := h (32, 8, 49) (by decide +kernel)
theorem wf_51_3 {μ : Mem} (h : WF μ) : μ 51 3 = 52 := h (51, 3, 52) (by decide +kernel)
theorem wf_32_9 {μ : Mem} (h : WF μ) : μ 32 9 = 51 := h (32, 9, 51) (by decide +kernel)
theorem wf_53_3 {μ : Mem} (h : WF μ) : μ 53 3 = 54 := h (53, 3, 54) (by decide +kernel)
theorem wf_32_10 {μ : Mem} (h : WF μ) : μ 32 10 = 53 := h (32, 10, 53) (by decide +kernel)
theorem wf_55_3 {μ : Mem} (h : WF μ) : μ 55 3 = 56 := h (55, 3, 56) (by decide +kernel)
theorem wf_32_11 {μ : Mem} (h : WF μ) : μ 32 11 = 55 := h (32, 11, 55) (by decide +kernel)
theorem wf_57_3 {μ : Mem} (h : WF μ) : μ 57 3 = 58 := h (57, 3, 58) (by decide +kernel)
theorem wf_32_12 {μ : Mem} (h : WF μ) : μ 32 12 = 57 := h (32, 12, 57) (by decide +kernel)
theorem wf_59_3 {μ : Mem} (h : WF μ) : μ 59 3 = 60 := h (59, 3, 60) (by decide +kernel)
theorem wf_32_13 {μ : Mem} (h : WF μ) : μ 32 13 = 59 := h (32, 13, 59) (by decide +kernel)
theorem wf_61_3 {μ : Mem} (h : WF μ) : μ 61 3 = 62 := h (61, 3, 62) (by decide +kernel)
theorem wf_32_14 {μ : Mem} (h : WF μ) : μ 32 14 = 61 := h (32, 14, 61) (by decide +kernel)
theorem wf_63_3 {μ : Mem} (h : WF μ) : μ 63 3 = 64 := h (63, 3, 64) (by decide +kernel)
theorem wf_32_15 {μ : Mem} (h : WF μ) : μ 32 15 = 63 := h (32, 15, 63) (by decide +kernel)
theorem wf_65_3 {μ : Mem} (h : WF μ) : μ 65 3 = 66 := h (65, 3, 66) (by decide +kernel)
theorem wf_32_16 {μ : Mem} (h : WF μ) : μ 32 16 = 65 := h (32, 16, 65) (by decide +kernel)
theorem wf_67_3 {μ : Mem} (h : WF μ) : μ 67 3 = 68 := h (67, 3, 68) (by decide +kernel)
theorem wf_32_17 {μ : Mem} (h : WF μ) : μ 32 17 = 67 := h (32, 17, 67) (by decide +kernel)
theorem wf_69_3 {μ : Mem} (h : WF μ) : μ 69 3 = 70 := h (69, 3, 70) (by decide +kernel)
theorem wf_32_18 {μ : Mem} (h : WF μ) : μ 32 18 = 69 := h (32, 18, 69) (by decide +kernel)
theorem wf_71_3 {μ : Mem} (h : WF μ) : μ 71 3 = 72 := h (71, 3, 72) (by decide +kernel)
theorem wf_32_19 {μ : Mem} (h : WF μ) : μ 32 19 = 71 := h (32, 19, 71) (by decide +kernel)
theorem wf_73_3 {μ : Mem} (h : WF μ) : μ 73 3 = 74 := h (73, 3, 74) (by decide +kernel)
theorem wf_32_20 {μ : Mem} (h : WF μ) : μ 32 20 = 73 := h (32, 20, 73) (by decide +kernel)
theorem wf_75_3 {μ : Mem} (h : WF μ) : μ 75 3 = 76 := h (75, 3, 76) (by decide +kernel)
theorem wf_32_21 {μ : Mem} (h : WF μ) : μ 32 21 = 75 := h (32, 21, 75) (by decide +kernel)
theorem wf_77_3 {μ : Mem} (h : WF μ) : μ 77 3 = 78 := h (77, 3, 78) (by decide +kernel)
theorem wf_32_22 {μ : Mem} (h : WF μ) : μ 32 22 = 77 := h (32, 22, 77) (by decide +kernel)
theorem wf_79_3 {μ : Mem} (h : WF μ) : μ 79 3 = 80 := h (79, 3, 80) (by decide +kernel)
theorem wf_32_23 {μ : Mem} (h : WF μ) : μ 32 23 = 79 := h (32, 23, 79) (by decide +kernel)
theorem wf_81_3 {μ : Mem} (h : WF μ) : μ 81 3 = 82 := h (81, 3, 82) (by decide +kernel)
theorem wf_32_24 {μ : Mem} (h : WF μ) : μ 32 24 = 81 := h (32, 24, 81) (by decide +kernel)
theorem wf_83_3 {μ : Mem} (h : WF μ) : μ 83 3 = 84 := h (83, 3, 84) (by decide +kernel)
theorem wf_32_25 {μ : Mem} (h : WF μ) : μ 32 25 = 83 := h (32, 25, 83) (by decide +kernel)
theorem wf_85_3 {μ : Mem} (h : WF μ) : μ 85 3 = 86 := h (85, 3, 86) (by decide +kernel)
theorem wf_32_26 {μ : Mem} (h : WF μ) : μ 32 26 = 85 := h (32, 26, 85) (by decide +kernel)
theorem wf_87_3 {μ : Mem} (h : WF μ) : μ 87 3 = 88 := h (87, 3, 88) (by decide +kernel)
theorem wf_32_27 {μ : Mem} (h : WF μ) : μ 32 27 = 87 := h (32, 27, 87) (by decide +kernel)
theorem wf_89_3 {μ : Mem} (h : WF μ) : μ 89 3 = 90 := h (89, 3, 90) (by decide +kernel)
theorem wf_32_28 {μ : Mem} (h : WF μ) : μ 32 28 = 89 := h (32, 28, 89) (by decide +kernel)
theorem wf_91_3 {μ : Mem} (h : WF μ) : μ 91 3 = 92 := h (91, 3, 92) (by decide +kernel)
theorem wf_32_29 {μ : Mem} (h : WF μ) : μ 32 29 = 91 := h (32, 29, 91) (by decide +kernel)
theorem wf_94_0 {μ : Mem} (h : WF μ) : μ 94 0 = 95 := h (94, 0, 95) (by decide +kernel)
theorem wf_94_1 {μ : Mem} (h : WF μ) : μ 94 1 = 96 := h (94, 1, 96) (by decide +kernel)
theorem wf_94_2 {μ : Mem} (h : WF μ) : μ 94 2 = 97 := h (94, 2, 97) (by decide +kernel)
theorem wf_98_0 {μ : Mem} (h : WF μ) : μ 98 0 = 99 := h (98, 0, 99) (by decide +kernel)
theorem wf_98_1 {μ : Mem} (h : WF μ) : μ 98 1 = 100 := h (98, 1, 100) (by decide +kernel)
theorem wf_98_2 {μ : Mem} (h : WF μ) : μ 98 2 = 101 := h (98, 2, 101) (by decide +kernel)
theorem wf_105_3 {μ : Mem} (h : WF μ) : μ 105 3 = 106 := h (105, 3, 106) (by decide +kernel)
theorem wf_104_0 {μ : Mem} (h : WF μ) : μ 104 0 = 105 := h (104, 0, 105) (by decide +kernel)
theorem wf_93_0 {μ : Mem} (h : WF μ) : μ 93 0 = 104 := h (93, 0, 104) (by decide +kernel)
theorem wf_108_3 {μ : Mem} (h : WF μ) : μ 108 3 = 109 := h (108, 3, 109) (by decide +kernel)
theorem wf_107_0 {μ : Mem} (h : WF μ) : μ 107 0 = 108 := h (107, 0, 108) (by decide +kernel)
theorem wf_93_1 {μ : Mem} (h : WF μ) : μ 93 1 = 107 := h (93, 1, 107) (by decide +kernel)
theorem wf_110_0 {μ : Mem} (h : WF μ) : μ 110 0 = 111 := h (110, 0, 111) (by decide +kernel)
theorem wf_110_1 {μ : Mem} (h : WF μ) : μ 110 1 = 112 := h (110, 1, 112) (by decide +kernel)
theorem wf_110_13 {μ : Mem} (h : WF μ) : μ 110 13 = 113 := h (110, 13, 113) (by decide +kernel)
theorem wf_110_14 {μ : Mem} (h : WF μ) : μ 110 14 = 114 := h (110, 14, 114) (by decide +kernel)
theorem wf_110_15 {μ : Mem} (h : WF μ) : μ 110 15 = 115 := h (110, 15, 115) (by decide +kernel)
theorem wf_110_16 {μ : Mem} (h : WF μ) : μ 110 16 = 116 := h (110, 16, 116) (by decide +kernel)
theorem wf_110_17 {μ : Mem} (h : WF μ) : μ 110 17 = 117 := h (110, 17, 117) (by decide +kernel)
theorem wf_110_18 {μ : Mem} (h : WF μ) : μ 110 18 = 118 := h (110, 18, 118) (by decide +kernel)
theorem wf_110_19 {μ : Mem} (h : WF μ) : μ 110 19 = 119 := h (110, 19, 119) (by decide +kernel)
theorem wf_110_20 {μ : Mem} (h : WF μ) : μ 110 20 = 120 := h (110, 20, 120) (by decide +kernel)
theorem wf_110_21 {μ : Mem} (h : WF μ) : μ 110 21 = 121 := h (110, 21, 121) (by decide +kernel)
theorem wf_110_27 {μ : Mem} (h : WF μ) : μ 110 27 = 122 := h (110, 27, 122) (by decide +kernel)
theorem wf_110_28 {μ : Mem} (h : WF μ) : μ 110 28 = 123 := h (110, 28, 123) (by decide +kernel)
theorem wf_110_32 {μ : Mem} (h : WF μ) : μ 110 32 = 124 := h (110, 32, 124) (by decide +kernel)
theorem wf_110_33 {μ : Mem} (h : WF μ) : μ 110 33 = 125 := h (110, 33, 125) (by decide +kernel)
theorem wf_110_34 {μ : Mem} (h : WF μ) : μ 110 34 = 126 := h (110, 34, 126) (by decide +kernel)
theorem wf_110_35 {μ : Mem} (h : WF μ) : μ 110 35 = 127 := h (110, 35, 127) (by decide +kernel)
theorem wf_110_36 {μ : Mem} (h : WF μ) : μ 110 36 = 128 := h (110, 36, 128) (by decide +kernel)
theorem wf_110_38 {μ : Mem} (h : WF μ) : μ 110 38 = 129 := h (110, 38, 129) (by decide +kernel)
theorem wf_110_39 {μ : Mem} (h : WF μ) : μ 110 39 = 130 := h (110, 39, 130) (by decide +kernel)
theorem wf_110_40 {μ : Mem} (h : WF μ) : μ 110 40 = 131 := h (110, 40, 131) (by decide +kernel)
theorem wf_110_41 {μ : Mem} (h : WF μ) : μ 110 41 = 132 := h (110, 41, 132) (by decide +kernel)
theorem wf_mu {μ : Mem} {k i x : Int} (h : WF μ) (hn : ∀ q ∈ wfl, ¬ (q.1 = k ∧ q.2.1 = i)) : WF (mu μ k i x) := fun q hq => by
  unfold mu
  rw [if_neg (hn q hq)]
  exact h q hq
theorem wf_row {μ μ' : Mem} (h : WF μ) (hn : ∀ q ∈ wfl, μ' q.1 q.2.1 = μ q.1 q.2.1) : WF μ' := fun q hq => (hn q hq).trans (h q hq)
/-! the works in use: 3 or 12 -/
def isW (o : Int) : Prop := o = 3 ∨ o = 12
theorem so_W {o : Int} (h : isW o) : So SHl o (.inl 6) := by rcases h with rfl | rfl; exact so_3; exact so_12
theorem ai_W1 {o i : Int} (h : isW o) (h0 : 0 ≤ i) (h1 : i < 8) : Ai SHl (o + 1) 0 i := by rcases h with rfl | rfl; exact ai_4 h0 h1; exact ai_13 h0 h1
theorem wf_W5 {μ : Mem} {o : Int} (w : WF μ) (h : isW o) : μ o 5 = o + 1 := by rcases h with rfl | rfl; exact wf_3_5 w; exact wf_12_5 w
theorem ai_W2 {o i : Int} (h : isW o) (h0 : 0 ≤ i) (h1 : i < 8) : Ai SHl (o + 2) 0 i := by rcases h with rfl | rfl; exact ai_5 h0 h1; exact ai_14 h0 h1
theorem wf_W6 {μ : Mem} {o : Int} (w : WF μ) (h : isW o) : μ o 6 = o + 2 := by rcases h with rfl | rfl; exact wf_3_6 w; exact wf_12_6 w
theorem ai_W3 {o i : Int} (h : isW o) (h0 : 0 ≤ i) (h1 : i < 10) : Ai SHl (o + 3) 0 i := by rcases h with rfl | rfl; exact ai_6 h0 h1; exact ai_15 h0 h1
theorem wf_W7 {μ : Mem} {o : Int} (w : WF μ) (h : isW o) : μ o 7 = o + 3 := by rcases h with rfl | rfl; exact wf_3_7 w; exact wf_12_7 w
theorem ai_W4 {o i : Int} (h : isW o) (h0 : 0 ≤ i) (h1 : i < 11) : Ai SHl (o + 4) 0 i := by rcases h with rfl | rfl; exact ai_7 h0 h1; exact ai_16 h0 h1
theorem wf_W8 {μ : Mem} {o : Int} (w : WF μ) (h : isW o) : μ o 8 = o + 4 := by rcases h with rfl | rfl; exact wf_3_8 w; exact wf_12_8 w
theorem ai_W5 {o i : Int} (h : isW o) (h0 : 0 ≤ i) (h1 : i < 11) : Ai SHl (o + 5) 0 i := by rcases h with rfl | rfl; exact ai_8 h0 h1; exact ai_17 h0 h1
theorem wf_W9 {μ : Mem} {o : Int} (w : WF μ) (h : isW o) : μ o 9 = o + 5 := by rcases h with rfl | rfl; exact wf_3_9 w; exact wf_12_9 w
theorem ai_W6 {o i : Int} (h : isW o) (h0 : 0 ≤ i) (h1 : i < 11) : Ai SHl (o + 6) 0 i := by rcases h with rfl | rfl; exact ai_9 h0 h1; exact ai_18 h0 h1
theorem wf_W10 {μ : Mem} {o : Int} (w : WF μ) (h : isW o) : μ o 10 = o + 6 := by rcases h with rfl | rfl; exact wf_3_10 w; exact wf_12_10 w
theorem ai_W7 {o i : Int} (h : isW o) (h0 : 0 ≤ i) (h1 : i < 6) : Ai SHl (o + 7) 0 i := by rcases h with rfl | rfl; exact ai_10 h0 h1; exact ai_19 h0 h1
theorem wf_W11 {μ : Mem} {o : Int} (w : WF μ) (h : isW o) : μ o 11 = o + 7 := by rcases h with rfl | rfl; exact wf_3_11 w; exact wf_12_11 w
theorem ai_W8 {o i : Int} (h : isW o) (h0 : 0 ≤ i) (h1 : i < 6) : Ai SHl (o + 8) 0 i := by rcases h with rfl | rfl; exact ai_11 h0 h1; exact ai_20 h0 h1
theorem wf_W12 {μ : Mem} {o : Int} (w : WF μ) (h : isW o) : μ o 12 = o + 8 := by rcases h with rfl | rfl; exact wf_3_12 w; exact wf_12_12 w
/-! a motion: 21 or 25 -/
def isM (o : Int) : Prop := o = 21 ∨ o = 25
theorem so_M {o : Int} (h : isM o) : So SHl o (.inl 3) := by rcases h with rfl | rfl; exact so_21; exact so_25
theorem so_M1 {o : Int} (h : isM o) : So SHl (o + 1) (.inr (1, 8)) := by rcases h with rfl | rfl; exact so_22; exact so_26
theorem ai_M1 {o i : Int} (h : isM o) (h0 : 0 ≤ i) (h1 : i < 8) : Ai SHl (o + 1) 1 i := by rcases h with rfl | rfl; exact ai_22 h0 h1; exact ai_26 h0 h1
theorem wf_M0 {μ : Mem} {o : Int} (w : WF μ) (h : isM o) : μ o 0 = o + 1 := by rcases h with rfl | rfl; exact wf_21_0 w; exact wf_25_0 w
theorem so_M2 {o : Int} (h : isM o) : So SHl (o + 2) (.inr (1, 8)) := by rcases h with rfl | rfl; exact so_23; exact so_27
theorem ai_M2 {o i : Int} (h : isM o) (h0 : 0 ≤ i) (h1 : i < 8) : Ai SHl (o + 2) 1 i := by rcases h with rfl | rfl; exact ai_23 h0 h1; exact ai_27 h0 h1
theorem wf_M1 {μ : Mem} {o : Int} (w : WF μ) (h : isM o) : μ o 1 = o + 2 := by rcases h with rfl | rfl; exact wf_21_1 w; exact wf_25_1 w
theorem so_M3 {o : Int} (h : isM o) : So SHl (o + 3) (.inr (0, 8)) := by rcases h with rfl | rfl; exact so_24; exact so_28
theorem ai_M3 {o i : Int} (h : isM o) (h0 : 0 ≤ i) (h1 : i < 8) : Ai SHl (o + 3) 0 i := by rcases h with rfl | rfl; exact ai_24 h0 h1; exact ai_28 h0 h1
theorem wf_M2 {μ : Mem} {o : Int} (w : WF μ) (h : isM o) : μ o 2 = o + 3 := by rcases h with rfl | rfl; exact wf_21_2 w; exact wf_25_2 w
/-! a stand: 29, those of the ring, those of the images -/
def isS (o : Int) : Prop := o = 29 ∨ o = 105 ∨ o = 108 ∨ ∃ j : Int, 0 ≤ j ∧ j < 30 ∧ o = 33 + 2 * j
theorem ring_so : ∀ j : Nat, j < 30 → SHl[33 + 2 * j]? = some (.inl 5) ∧ SHl[34 + 2 * j]? = some (.inr (0, 8)) := by decide +kernel
theorem ring_wf : ∀ j : Nat, j < 30 → ((33 + 2 * (j : Int), 3, 34 + 2 * (j : Int)) : Int × Int × Int) ∈ wfl ∧ ((32, (j : Int), 33 + 2 * (j : Int)) : Int × Int × Int) ∈ wfl := by decide +kernel
theorem wf_ring {μ : Mem} {j : Int} (w : WF μ) (h0 : 0 ≤ j) (h1 : j < 30) : μ 32 j = 33 + 2 * j := by
  have h := w _ (ring_wf j.toNat (by omega)).2
  rw [Int.toNat_of_nonneg h0] at h
  exact h
theorem wf_ringp {μ : Mem} {j : Int} (w : WF μ) (h0 : 0 ≤ j) (h1 : j < 30) : μ (33 + 2 * j) 3 = 34 + 2 * j := by
  have h := w _ (ring_wf j.toNat (by omega)).1
  rw [Int.toNat_of_nonneg h0] at h
  exact h
theorem so_S {o : Int} (h : isS o) : So SHl o (.inl 5) := by
  rcases h with rfl | rfl | rfl | ⟨j, h0, h1, rfl⟩
  · exact so_29
  · exact so_105
  · exact so_108
  · refine ⟨by omega, ?_⟩
    rw [show (33 + 2 * j).toNat = 33 + 2 * j.toNat by omega]
    exact (ring_so j.toNat (by omega)).1
theorem so_S1 {o : Int} (h : isS o) : So SHl (o + 1) (.inr (0, 8)) := by
  rcases h with rfl | rfl | rfl | ⟨j, h0, h1, rfl⟩
  · exact so_30
  · exact so_106
  · exact so_109
  · refine ⟨by omega, ?_⟩
    rw [show (33 + 2 * j + 1).toNat = 34 + 2 * j.toNat by omega]
    exact (ring_so j.toNat (by omega)).2
theorem ai_S1 {o i : Int} (h : isS o) (h0 : 0 ≤ i) (h1 : i < 8) : Ai SHl (o + 1) 0 i := ⟨8, so_S1 h, h0, h1, by decide⟩
theorem wf_S3 {μ : Mem} {o : Int} (w : WF μ) (h : isS o) : μ o 3 = o + 1 := by
  rcases h with rfl | rfl | rfl | ⟨j, h0, h1, rfl⟩
  · exact wf_29_3 w
  · exact wf_105_3 w
  · exact wf_108_3 w
  · rw [wf_ringp w h0 h1]; omega
theorem isS_ring {j : Int} (h0 : 0 ≤ j) (h1 : j < 30) : isS (33 + 2 * j) := Or.inr (Or.inr (Or.inr ⟨j, h0, h1, rfl⟩))
/-! lines: 94 (12) or 98 (15) -/
def isL (o n : Int) : Prop := (o = 94 ∧ n = 12) ∨ (o = 98 ∧ n = 15)
theorem so_L {o n : Int} (h : isL o n) : So SHl o (.inl 2) := by rcases h with ⟨rfl, rfl⟩ | ⟨rfl, rfl⟩; exact so_94; exact so_98
theorem aj_L {o n : Int} (h : isL o n) : Aj SHl (o + 1) 0 ∧ aln SHl (o + 1) = n := by
  rcases h with ⟨rfl, rfl⟩ | ⟨rfl, rfl⟩
  · exact ⟨⟨_, so_95⟩, by decide +kernel⟩
  · exact ⟨⟨_, so_99⟩, by decide +kernel⟩
theorem ai_L1 {o n i : Int} (h : isL o n) (h0 : 0 ≤ i) (h1 : i < n) : Ai SHl (o + 1) 0 i := by rcases h with ⟨rfl, rfl⟩ | ⟨rfl, rfl⟩; exact ai_95 h0 h1; exact ai_99 h0 h1
theorem wf_L0 {μ : Mem} {o n : Int} (w : WF μ) (h : isL o n) : μ o 0 = o + 1 := by rcases h with ⟨rfl, rfl⟩ | ⟨rfl, rfl⟩; exact wf_94_0 w; exact wf_98_0 w
theorem ai_L2 {o n i : Int} (h : isL o n) (h0 : 0 ≤ i) (h1 : i < n) : Ai SHl (o + 2) 0 i := by rcases h with ⟨rfl, rfl⟩ | ⟨rfl, rfl⟩; exact ai_96 h0 h1; exact ai_100 h0 h1
theorem wf_L1 {μ : Mem} {o n : Int} (w : WF μ) (h : isL o n) : μ o 1 = o + 2 := by rcases h with ⟨rfl, rfl⟩ | ⟨rfl, rfl⟩; exact wf_94_1 w; exact wf_98_1 w
theorem ai_L3 {o n i : Int} (h : isL o n) (h0 : 0 ≤ i) (h1 : i < n) : Ai SHl (o + 3) 0 i := by rcases h with ⟨rfl, rfl⟩ | ⟨rfl, rfl⟩; exact ai_97 h0 h1; exact ai_101 h0 h1
theorem wf_L2 {μ : Mem} {o n : Int} (w : WF μ) (h : isL o n) : μ o 2 = o + 3 := by rcases h with ⟨rfl, rfl⟩ | ⟨rfl, rfl⟩; exact wf_94_2 w; exact wf_98_2 w
/-! agreement of two memories where dep says so -/
def Agr (dep : Int → Int → Bool) (μ μ' : Mem) : Prop := ∀ k i, dep k i = true → μ' k i = μ k i
theorem agr_rf {dep : Int → Int → Bool} {μ : Mem} : Agr dep μ μ := fun _ _ _ => rfl
theorem agr_tr {dep : Int → Int → Bool} {μ μ1 μ2 : Mem} (h : Agr dep μ μ1) (h2 : Agr dep μ1 μ2) : Agr dep μ μ2 := fun k i q => (h2 k i q).trans (h k i q)
theorem agr_mu {dep : Int → Int → Bool} {μ μ1 : Mem} {k i x : Int} (d : dep k i = false) (h : Agr dep μ μ1) : Agr dep μ (mu μ1 k i x) := fun k' i' q => by
  unfold mu
  rw [if_neg]
  · exact h k' i' q
  · rintro ⟨rfl, rfl⟩
    rw [d] at q
    cases q
theorem agr_sub {dep dep' : Int → Int → Bool} {μ μ1 : Mem} (h : Agr dep μ μ1) (hs : ∀ k i, dep' k i = true → dep k i = true) : Agr dep' μ μ1 := fun k i q => h k i (hs k i q)
def depW (k i : Int) : Bool := wfl.any (fun q => q.1 == k && q.2.1 == i)
theorem wf_agr {μ μ' : Mem} (h : WF μ) (ha : Agr depW μ μ') : WF μ' := wf_row h (fun q hq => ha _ _ (List.any_eq_true.mpr ⟨q, hq, by simp⟩))
