theorem qw101 : Cond.methodLink RX7 1 Lib.objectInit ∈ wsT := wsT_of 101 (by decide +kernel) (by rfl)
theorem qw104 : Cond.classLink RX7 7 RX4 ∈ wsT := wsT_of 104 (by decide +kernel) (by rfl)
theorem qw105 : Cond.instantiable RX4 8 ∈ wsT := wsT_of 105 (by decide +kernel) (by rfl)
theorem qw108 : Cond.code yX4_init cX4_init 1 none ∈ wsT := wsT_of 108 (by decide +kernel) (by rfl)
theorem qw107 : Cond.instanceMethod yX4_init ∈ wsT := wsT_of 107 (by decide +kernel) (by rfl)
theorem lkIN_X7_9 : lfIN RX7 9 mX4_init 0 := ⟨⟨(by decide), qw108, qw84, by decide +kernel, by decide +kernel, by decide +kernel⟩, qw107, rfl, rfl⟩
theorem qw139 : Cond.classLink RX7 16 RX6 ∈ wsT := wsT_of 139 (by decide +kernel) (by rfl)
theorem qw140 : Cond.instantiable RX6 13 ∈ wsT := wsT_of 140 (by decide +kernel) (by rfl)
theorem qw143 : Cond.code yX6_init cX6_init 1 none ∈ wsT := wsT_of 143 (by decide +kernel) (by rfl)
theorem qw142 : Cond.instanceMethod yX6_init ∈ wsT := wsT_of 142 (by decide +kernel) (by rfl)
theorem lkIN_X7_18 : lfIN RX7 18 mX6_init 0 := ⟨⟨(by decide), qw143, qw85, by decide +kernel, by decide +kernel, by decide +kernel⟩, qw142, rfl, rfl⟩
theorem qw210 : Cond.classLink RX7 26 RX3 ∈ wsT := wsT_of 210 (by decide +kernel) (by rfl)
theorem qw211 : Cond.instantiable RX3 6 ∈ wsT := wsT_of 211 (by decide +kernel) (by rfl)
theorem qw212 : Cond.methodLink RX7 28 yX3_init ∈ wsT := wsT_of 212 (by decide +kernel) (by rfl)
theorem qw214 : Cond.code yX3_init cX3_init 1 none ∈ wsT := wsT_of 214 (by decide +kernel) (by rfl)
theorem qw213 : Cond.instanceMethod yX3_init ∈ wsT := wsT_of 213 (by decide +kernel) (by rfl)
theorem lkI_X7_28 : lfI RX7 28 mX3_init 0 := ⟨⟨qw212, qw214, qw86, by decide +kernel, by decide +kernel, by decide +kernel⟩, qw213, rfl, rfl⟩
theorem qw247 : Cond.classLink RX7 36 RX5 ∈ wsT := wsT_of 247 (by decide +kernel) (by rfl)
theorem lkIN_X7_38 : lfIN RX7 38 mX5_init 0 := ⟨⟨(by decide), qw251, qw88, by decide +kernel, by decide +kernel, by decide +kernel⟩, qw250, rfl, rfl⟩
theorem qw270 : Cond.classLink RX7 43 RX0 ∈ wsT := wsT_of 270 (by decide +kernel) (by rfl)
theorem qw271 : Cond.instantiable RX0 3 ∈ wsT := wsT_of 271 (by decide +kernel) (by rfl)
theorem qw272 : Cond.methodLink RX7 45 yX0_init ∈ wsT := wsT_of 272 (by decide +kernel) (by rfl)
theorem qw274 : Cond.code yX0_init cX0_init 2 none ∈ wsT := wsT_of 274 (by decide +kernel) (by rfl)
theorem qw273 : Cond.instanceMethod yX0_init ∈ wsT := wsT_of 273 (by decide +kernel) (by rfl)
theorem lkI_X7_45 : lfI RX7 45 mX0_init 0 := ⟨⟨qw272, qw274, qw89, by decide +kernel, by decide +kernel, by decide +kernel⟩, qw273, rfl, rfl⟩
theorem qw290 : Cond.classLink RX7 50 RX1 ∈ wsT := wsT_of 290 (by decide +kernel) (by rfl)
theorem qw292 : Cond.classLink RX7 56 RX2 ∈ wsT := wsT_of 292 (by decide +kernel) (by rfl)
theorem qw293 : Cond.instantiable RX2 4 ∈ wsT := wsT_of 293 (by decide +kernel) (by rfl)
theorem qw294 : Cond.methodLink RX7 58 yX2_init ∈ wsT := wsT_of 294 (by decide +kernel) (by rfl)
theorem qw296 : Cond.code yX2_init cX2_init 3 none ∈ wsT := wsT_of 296 (by decide +kernel) (by rfl)
theorem qw295 : Cond.instanceMethod yX2_init ∈ wsT := wsT_of 295 (by decide +kernel) (by rfl)
theorem lkI_X7_58 : lfI RX7 58 mX2_init 1 := ⟨⟨qw294, qw296, qw90, by decide +kernel, by decide +kernel, by decide +kernel⟩, qw295, rfl, rfl⟩
theorem qw318 : Cond.instantiable RX1 3 ∈ wsT := wsT_of 318 (by decide +kernel) (by rfl)
theorem qw92 : Cond.initialized RX1 ∈ wsT := wsT_of 92 (by decide +kernel) (by rfl)
theorem qw321 : Cond.code yX1_init cX1_init 1 none ∈ wsT := wsT_of 321 (by decide +kernel) (by rfl)
theorem qw320 : Cond.instanceMethod yX1_init ∈ wsT := wsT_of 320 (by decide +kernel) (by rfl)
theorem lkIN_X7_75 : lfIN RX7 75 mX1_init 0 := ⟨⟨(by decide), qw321, qw92, by decide +kernel, by decide +kernel, by decide +kernel⟩, qw320, rfl, rfl⟩
theorem qw844 : Cond.methodLink RX8 1 Lib.objectInit ∈ wsT := wsT_of 844 (by decide +kernel) (by rfl)
theorem qw975 : Cond.arrayClass .boolean ∈ wsT := wsT_of 975 (by decide +kernel) (by rfl)
theorem so_c {S : List Sh} {z : Int} {s : Sh} (h0 : 0 ≤ z) (h : S[z.toNat]? = some s) : So S z s := ⟨h0, h⟩
def sC1 : List Sh := [.inl 7]
def mC1 : Mem := mz (fun _ _ => 0) 0 (mdf 7)
def sC2 : List Sh := sC1 ++ [.inl 4]
def mC2 : Mem := mz mC1 1 (mdf 4)
def sC3 : List Sh := sX4_init sC2
def mC3 : Mem := tX4_init mC2 1 2
def mC4 : Mem := mu mC3 0 0 1
def sC4 : List Sh := sC3 ++ [.inl 6]
def mC5 : Mem := mz mC4 3 (mdf 6)
def sC5 : List Sh := sX6_init sC4
def mC6 : Mem := tX6_init mC5 3 4
def mC7 : Mem := mu mC6 0 1 3
def sC6 : List Sh := sC5 ++ [.inl 6]
def mC8 : Mem := mz mC7 12 (mdf 6)
def sC7 : List Sh := sX6_init sC6
def mC9 : Mem := tX6_init mC8 12 13
def mC10 : Mem := mu mC9 0 2 12
def sC8 : List Sh := sC7 ++ [.inl 3]
def mC11 : Mem := mz mC10 21 (mdf 3)
def sC9 : List Sh := sX3_init sC8
def mC12 : Mem := tX3_init mC11 21 22
def mC13 : Mem := mu mC12 0 3 21
def sC10 : List Sh := sC9 ++ [.inl 3]
def mC14 : Mem := mz mC13 25 (mdf 3)
def sC11 : List Sh := sX3_init sC10
def mC15 : Mem := tX3_init mC14 25 26
def mC16 : Mem := mu mC15 0 4 25
def sC12 : List Sh := sC11 ++ [.inl 5]
def mC17 : Mem := mz mC16 29 (mdf 5)
def sC13 : List Sh := sX5_init sC12
def mC18 : Mem := tX5_init mC17 29 30
def mC19 : Mem := mu mC18 0 5 29
def sC14 : List Sh := sC13 ++ [.inl 0]
def mC20 : Mem := mz mC19 31 (mdf 0)
def sC15 : List Sh := sDe sC14 30
def mC21 : Mem := tDe mC20 31 32 30
def mC22 : Mem := mu mC21 0 6 31
def sC16 : List Sh := sC15 ++ [.inr (4, 2)]
def mC23 : Mem := mz mC22 93 (fun _ => -1)
def mC24 : Mem := mu mC23 0 7 93
def sC17 : List Sh := sC16 ++ [.inl 2]
def mC25 : Mem := mz mC24 94 (mdf 2)
def sC18 : List Sh := sX2_init sC17 12
def mC26 : Mem := tX2_init mC25 94 95
def mC27 : Mem := mu mC26 0 8 94
def sC19 : List Sh := sC18 ++ [.inl 2]
def mC28 : Mem := mz mC27 98 (mdf 2)
def sC20 : List Sh := sX2_init sC19 15
def mC29 : Mem := tX2_init mC28 98 99
def mC30 : Mem := mu mC29 0 9 98
def sC21 : List Sh := sC20 ++ [.inr (0, 8)]
def mC31 : Mem := mz mC30 102 (fun _ => 0)
def mC32 : Mem := mu mC31 0 10 102
def sC22 : List Sh := sC21 ++ [.inr (0, 30)]
def mC33 : Mem := mz mC32 103 (fun _ => 0)
def mC34 : Mem := mu mC33 0 11 103
def sC23 : List Sh := sC22 ++ [.inl 1]
def mC35 : Mem := mz mC34 104 (mdf 1)
def sC24 : List Sh := sX1_init sC23
def mC36 : Mem := tX1_init mC35 104 105
def mC37 : Mem := mu mC36 93 0 104
def sC25 : List Sh := sC24 ++ [.inl 1]
def mC38 : Mem := mz mC37 107 (mdf 1)
def sC26 : List Sh := sX1_init sC25
def mC39 : Mem := tX1_init mC38 107 108
def mC40 : Mem := mu mC39 93 1 107
def sC27 : List Sh := sC26 ++ [.inl 8]
def mC41 : Mem := mz mC40 110 (mdf 8)
def sC28 : List Sh := sC27 ++ [.inr (0, 396)]
def mC42 : Mem := mz mC41 111 (fun _ => 0)
def mC43 : Mem := mu mC42 110 0 111
def sC29 : List Sh := sC28 ++ [.inr (3, 2)]
def mC44 : Mem := mz mC43 112 (fun _ => 0)
def mC45 : Mem := mu mC44 110 1 112
def mC46 : Mem := mu mC45 110 6 1
def sC30 : List Sh := sC29 ++ [.inr (0, 16)]
def mC47 : Mem := mz mC46 113 (fun _ => 0)
def mC48 : Mem := mu mC47 110 13 113
def sC31 : List Sh := sC30 ++ [.inr (0, 16)]
def mC49 : Mem := mz mC48 114 (fun _ => 0)
def mC50 : Mem := mu mC49 110 14 114
def sC32 : List Sh := sC31 ++ [.inr (0, 21)]
def mC51 : Mem := mz mC50 115 (fun _ => 0)
def mC52 : Mem := mu mC51 110 15 115
def sC33 : List Sh := sC32 ++ [.inr (0, 21)]
def mC53 : Mem := mz mC52 116 (fun _ => 0)
def mC54 : Mem := mu mC53 110 16 116
def sC34 : List Sh := sC33 ++ [.inr (0, 21)]
def mC55 : Mem := mz mC54 117 (fun _ => 0)
def mC56 : Mem := mu mC55 110 17 117
def sC35 : List Sh := sC34 ++ [.inr (0, 20)]
def mC57 : Mem := mz mC56 118 (fun _ => 0)
def mC58 : Mem := mu mC57 110 18 118
def sC36 : List Sh := sC35 ++ [.inr (0, 12)]
def mC59 : Mem := mz mC58 119 (fun _ => 0)
def mC60 : Mem := mu mC59 110 19 119
def sC37 : List Sh := sC36 ++ [.inr (0, 12)]
def mC61 : Mem := mz mC60 120 (fun _ => 0)
def mC62 : Mem := mu mC61 110 20 120
def sC38 : List Sh := sC37 ++ [.inr (0, 250)]
def mC63 : Mem := mz mC62 121 (fun _ => 0)
def mC64 : Mem := mu mC63 110 21 121
def mC65 : Mem := mu mC64 110 26 (-1)
def sC39 : List Sh := sC38 ++ [.inr (1, 8)]
def mC66 : Mem := mz mC65 122 (fun _ => 0)
def mC67 : Mem := mu mC66 110 27 122
def sC40 : List Sh := sC39 ++ [.inr (1, 8)]
def mC68 : Mem := mz mC67 123 (fun _ => 0)
def mC69 : Mem := mu mC68 110 28 123
def sC41 : List Sh := sC40 ++ [.inr (0, 8)]
def mC70 : Mem := mz mC69 124 (fun _ => 0)
def mC71 : Mem := mu mC70 110 32 124
def sC42 : List Sh := sC41 ++ [.inr (1, 8)]
def mC72 : Mem := mz mC71 125 (fun _ => 0)
def mC73 : Mem := mu mC72 110 33 125
def sC43 : List Sh := sC42 ++ [.inr (0, 12)]
def mC74 : Mem := mz mC73 126 (fun _ => 0)
def mC75 : Mem := mu mC74 110 34 126
def sC44 : List Sh := sC43 ++ [.inr (0, 12)]
def mC76 : Mem := mz mC75 127 (fun _ => 0)
def mC77 : Mem := mu mC76 110 35 127
def sC45 : List Sh := sC44 ++ [.inr (0, 12)]
def mC78 : Mem := mz mC77 128 (fun _ => 0)
def mC79 : Mem := mu mC78 110 36 128
def sC46 : List Sh := sC45 ++ [.inr (0, 30)]
def mC80 : Mem := mz mC79 129 (fun _ => 0)
def mC81 : Mem := mu mC80 110 38 129
def sC47 : List Sh := sC46 ++ [.inr (0, 15)]
def mC82 : Mem := mz mC81 130 (fun _ => 0)
def mC83 : Mem := mu mC82 110 39 130
def sC48 : List Sh := sC47 ++ [.inr (0, 15)]
def mC84 : Mem := mz mC83 131 (fun _ => 0)
def mC85 : Mem := mu mC84 110 40 131
def sC49 : List Sh := sC48 ++ [.inr (0, 15)]
def mC86 : Mem := mz mC85 132 (fun _ => 0)
def mC87 : Mem := mu mC86 110 41 132
set_option maxRecDepth 100000 in
set_option maxHeartbeats 8000000 in
theorem kX7_init {G : Gm} {P : Option AV → List Sh → Mem → Prop} (h : P none sC26 mC40) : Call G mX7_init 109 1050 [(2, 0)] sC1 mC1 P := by
  refine call_ofA (plainFor_of_name (by decide +kernel)) [some (2, 0), none] rfl (Nat.le_of_ble_eq_true rfl) rfl (fun Φ hΦ hR hI => ?_)
  refine ex_aload_n hΦ dX7_init_0 rfl (by decide) ?_
  refine ex_objinit hΦ qw101 qw102 qw103 ⟨by decide, by decide⟩ (Nat.le_of_ble_eq_true rfl) (by decide) dX7_init_1 ?_
  refine ex_aload_n hΦ dX7_init_4 rfl (by decide) ?_
  refine ex_new' (q := 1) (ci := 4) hΦ (by decide +kernel : ((sC1.length : Nat) : Int) = 1) (by decide) (by decide) qw104 qw105 qw84 (by decide) dX7_init_5 ?_
  show Ex G Φ 2 8 [some (2, 0), none] [(2, 1), (2, 0)] sC2 mC2 1 8
  refine ex_dup hΦ dX7_init_8 (Nat.ne_of_beq_eq_false rfl) ?_
  refine ex_callIN (P' := fun r S' μ' => r = none ∧ S' = sC3 ∧ μ' = mC3) [] [(2, 1), (2, 1), (2, 0)] hΦ lkIN_X7_9 ⟨by decide, by decide⟩ (Nat.le_of_ble_eq_true rfl) rfl (by decide) (by decide) dX7_init_9 rfl (kX4_init (by decide +kernel : ((sC2.length : Nat) : Int) = 2) (so_c (by decide) (by decide +kernel) : So sC2 1 (.inl 4)) ⟨rfl, rfl, rfl⟩) (fun r S' μ' hp => ?_)
  obtain ⟨rfl, rfl, rfl⟩ := hp
  show Ex G Φ 2 12 [some (2, 0), none] [(2, 1), (2, 0)] sC3 mC3 2 258
  refine ex_putaF hΦ fl_X7_10 (so_c (by decide) (by decide +kernel) : So sC3 0 (.inl 7)) rfl (by decide) hI rfl dX7_init_12 ?_
  show Ex G Φ 2 15 [some (2, 0), none] [] sC3 mC4 2 258
  refine ex_aload_n hΦ dX7_init_15 rfl (by decide) ?_
  refine ex_new' (q := 3) (ci := 6) hΦ (by decide +kernel : ((sC3.length : Nat) : Int) = 3) (by decide) (by decide) qw139 qw140 qw85 (by decide) dX7_init_16 ?_
  show Ex G Φ 2 19 [some (2, 0), none] [(2, 3), (2, 0)] sC4 mC5 3 271
  refine ex_dup hΦ dX7_init_19 (Nat.ne_of_beq_eq_false rfl) ?_
  refine ex_callIN (P' := fun r S' μ' => r = none ∧ S' = sC5 ∧ μ' = mC6) [] [(2, 3), (2, 3), (2, 0)] hΦ lkIN_X7_18 ⟨by decide, by decide⟩ (Nat.le_of_ble_eq_true rfl) rfl (by decide) (by decide) dX7_init_20 rfl (kX6_init (by decide +kernel : ((sC4.length : Nat) : Int) = 4) (so_c (by decide) (by decide +kernel) : So sC4 3 (.inl 6)) ⟨rfl, rfl, rfl⟩) (fun r S' μ' hp => ?_)
  obtain ⟨rfl, rfl, rfl⟩ := hp
  show Ex G Φ 2 23 [some (2, 0), none] [(2, 3), (2, 0)] sC5 mC6 11 342
  refine ex_puta hΦ fl_X7_19 (so_c (by decide) (by decide +kernel) : So sC5 0 (.inl 7)) rfl (by decide) dX7_init_23 ?_
  show Ex G Φ 2 26 [some (2, 0), none] [] sC5 mC7 11 342
  refine ex_aload_n hΦ dX7_init_26 rfl (by decide) ?_
  refine ex_new' (q := 12) (ci := 6) hΦ (by decide +kernel : ((sC5.length : Nat) : Int) = 12) (by decide) (by decide) qw139 qw140 qw85 (by decide) dX7_init_27 ?_
  show Ex G Φ 2 30 [some (2, 0), none] [(2, 12), (2, 0)] sC6 mC8 12 355
  refine ex_dup hΦ dX7_init_30 (Nat.ne_of_beq_eq_false rfl) ?_
  refine ex_callIN (P' := fun r S' μ' => r = none ∧ S' = sC7 ∧ μ' = mC9) [] [(2, 12), (2, 12), (2, 0)] hΦ lkIN_X7_18 ⟨by decide, by decide⟩ (Nat.le_of_ble_eq_true rfl) rfl (by decide) (by decide) dX7_init_31 rfl (kX6_init (by decide +kernel : ((sC6.length : Nat) : Int) = 13) (so_c (by decide) (by decide +kernel) : So sC6 12 (.inl 6)) ⟨rfl, rfl, rfl⟩) (fun r S' μ' hp => ?_)
  obtain ⟨rfl, rfl, rfl⟩ := hp
  show Ex G Φ 2 34 [some (2, 0), none] [(2, 12), (2, 0)] sC7 mC9 20 426
  refine ex_puta hΦ fl_X7_23 (so_c (by decide) (by decide +kernel) : So sC7 0 (.inl 7)) rfl (by decide) dX7_init_34 ?_
  show Ex G Φ 2 37 [some (2, 0), none] [] sC7 mC10 20 426
  refine ex_aload_n hΦ dX7_init_37 rfl (by decide) ?_
  refine ex_new' (q := 21) (ci := 3) hΦ (by decide +kernel : ((sC7.length : Nat) : Int) = 21) (by decide) (by decide) qw210 qw211 qw86 (by decide) dX7_init_38 ?_
  show Ex G Φ 2 41 [some (2, 0), none] [(2, 21), (2, 0)] sC8 mC11 21 432
  refine ex_dup hΦ dX7_init_41 (Nat.ne_of_beq_eq_false rfl) ?_
  refine ex_callI (P' := fun r S' μ' => r = none ∧ S' = sC9 ∧ μ' = mC12) [] [(2, 21), (2, 21), (2, 0)] hΦ lkI_X7_28 ⟨by decide, by decide⟩ (Nat.le_of_ble_eq_true rfl) rfl (by decide) (by decide) dX7_init_42 rfl (kX3_init (by decide +kernel : ((sC8.length : Nat) : Int) = 22) (so_c (by decide) (by decide +kernel) : So sC8 21 (.inl 3)) ⟨rfl, rfl, rfl⟩) (fun r S' μ' hp => ?_)
  obtain ⟨rfl, rfl, rfl⟩ := hp
  show Ex G Φ 2 45 [some (2, 0), none] [(2, 21), (2, 0)] sC9 mC12 24 456
  refine ex_putaF hΦ fl_X7_29 (so_c (by decide) (by decide +kernel) : So sC9 0 (.inl 7)) rfl (by decide) hI rfl dX7_init_45 ?_
  show Ex G Φ 2 48 [some (2, 0), none] [] sC9 mC13 24 456
  refine ex_aload_n hΦ dX7_init_48 rfl (by decide) ?_
  refine ex_new' (q := 25) (ci := 3) hΦ (by decide +kernel : ((sC9.length : Nat) : Int) = 25) (by decide) (by decide) qw210 qw211 qw86 (by decide) dX7_init_49 ?_
  show Ex G Φ 2 52 [some (2, 0), none] [(2, 25), (2, 0)] sC10 mC14 25 462
  refine ex_dup hΦ dX7_init_52 (Nat.ne_of_beq_eq_false rfl) ?_
  refine ex_callI (P' := fun r S' μ' => r = none ∧ S' = sC11 ∧ μ' = mC15) [] [(2, 25), (2, 25), (2, 0)] hΦ lkI_X7_28 ⟨by decide, by decide⟩ (Nat.le_of_ble_eq_true rfl) rfl (by decide) (by decide) dX7_init_53 rfl (kX3_init (by decide +kernel : ((sC10.length : Nat) : Int) = 26) (so_c (by decide) (by decide +kernel) : So sC10 25 (.inl 3)) ⟨rfl, rfl, rfl⟩) (fun r S' μ' hp => ?_)
  obtain ⟨rfl, rfl, rfl⟩ := hp
  show Ex G Φ 2 56 [some (2, 0), none] [(2, 25), (2, 0)] sC11 mC15 28 486
  refine ex_putaF hΦ fl_X7_33 (so_c (by decide) (by decide +kernel) : So sC11 0 (.inl 7)) rfl (by decide) hI rfl dX7_init_56 ?_
  show Ex G Φ 2 59 [some (2, 0), none] [] sC11 mC16 28 486
  refine ex_aload_n hΦ dX7_init_59 rfl (by decide) ?_
  refine ex_new' (q := 29) (ci := 5) hΦ (by decide +kernel : ((sC11.length : Nat) : Int) = 29) (by decide) (by decide) qw247 qw248 qw88 (by decide) dX7_init_60 ?_
  show Ex G Φ 2 63 [some (2, 0), none] [(2, 29), (2, 0)] sC12 mC17 29 490
  refine ex_dup hΦ dX7_init_63 (Nat.ne_of_beq_eq_false rfl) ?_
  refine ex_callIN (P' := fun r S' μ' => r = none ∧ S' = sC13 ∧ μ' = mC18) [] [(2, 29), (2, 29), (2, 0)] hΦ lkIN_X7_38 ⟨by decide, by decide⟩ (Nat.le_of_ble_eq_true rfl) rfl (by decide) (by decide) dX7_init_64 rfl (kX5_init (by decide +kernel : ((sC12.length : Nat) : Int) = 30) (so_c (by decide) (by decide +kernel) : So sC12 29 (.inl 5)) ⟨rfl, rfl, rfl⟩) (fun r S' μ' hp => ?_)
  obtain ⟨rfl, rfl, rfl⟩ := hp
  show Ex G Φ 2 67 [some (2, 0), none] [(2, 29), (2, 0)] sC13 mC18 30 498
  refine ex_putaF hΦ fl_X7_39 (so_c (by decide) (by decide +kernel) : So sC13 0 (.inl 7)) rfl (by decide) hI rfl dX7_init_67 ?_
  show Ex G Φ 2 70 [some (2, 0), none] [] sC13 mC19 30 498
  refine ex_aload_n hΦ dX7_init_70 rfl (by decide) ?_
  refine ex_new' (q := 31) (ci := 0) hΦ (by decide +kernel : ((sC13.length : Nat) : Int) = 31) (by decide) (by decide) qw270 qw271 qw89 (by decide) dX7_init_71 ?_
  show Ex G Φ 2 74 [some (2, 0), none] [(2, 31), (2, 0)] sC14 mC20 31 501
  refine ex_dup hΦ dX7_init_74 (Nat.ne_of_beq_eq_false rfl) ?_
  refine ex_callI (P' := fun r S' μ' => r = none ∧ S' = sC15 ∧ μ' = mC21) [] [(2, 31), (2, 31), (2, 0)] hΦ lkI_X7_45 ⟨by decide, by decide⟩ (Nat.le_of_ble_eq_true rfl) rfl (by decide) (by decide) dX7_init_75 rfl (kX0_init (by decide +kernel : ((sC14.length : Nat) : Int) = 32) (so_c (by decide) (by decide +kernel) : So sC14 31 (.inl 0)) ⟨rfl, rfl, rfl⟩) (fun r S' μ' hp => ?_)
  obtain ⟨rfl, rfl, rfl⟩ := hp
  show Ex G Φ 2 78 [some (2, 0), none] [(2, 31), (2, 0)] sC15 mC21 92 891
  refine ex_putaF hΦ fl_X7_46 (so_c (by decide) (by decide +kernel) : So sC15 0 (.inl 7)) rfl (by decide) hI rfl dX7_init_78 ?_
  show Ex G Φ 2 81 [some (2, 0), none] [] sC15 mC22 92 891
  refine ex_aload_n hΦ dX7_init_81 rfl (by decide) ?_
  refine ex_iconst hΦ dX7_init_82 ?_
  refine ex_newq4' (q := 93) (n := 2) hΦ (by decide +kernel : ((sC15.length : Nat) : Int) = 93) rfl (by decide) qw290 (by decide) dX7_init_83 ?_
  show Ex G Φ 2 86 [some (2, 0), none] [(2, 93), (2, 0)] sC16 mC23 93 893
  refine ex_putaF hΦ fl_X7_52 (so_c (by decide) (by decide +kernel) : So sC16 0 (.inl 7)) rfl (by decide) hI rfl dX7_init_86 ?_
  show Ex G Φ 2 89 [some (2, 0), none] [] sC16 mC24 93 893
  refine ex_aload_n hΦ dX7_init_89 rfl (by decide) ?_
  refine ex_new' (q := 94) (ci := 2) hΦ (by decide +kernel : ((sC16.length : Nat) : Int) = 94) (by decide) (by decide) qw292 qw293 qw90 (by decide) dX7_init_90 ?_
  show Ex G Φ 2 93 [some (2, 0), none] [(2, 94), (2, 0)] sC17 mC25 94 897
  refine ex_dup hΦ dX7_init_93 (Nat.ne_of_beq_eq_false rfl) ?_
  refine ex_bipush hΦ dX7_init_94 (by decide) ?_
  refine ex_callI (P' := fun r S' μ' => r = none ∧ S' = sC18 ∧ μ' = mC26) [(0, 12)] [(0, 12), (2, 94), (2, 94), (2, 0)] hΦ lkI_X7_58 ⟨by decide, by decide⟩ (Nat.le_of_ble_eq_true rfl) rfl (by decide) (by decide) dX7_init_96 rfl (kX2_init (a := 12) (by decide +kernel : ((sC17.length : Nat) : Int) = 95) (so_c (by decide) (by decide +kernel) : So sC17 94 (.inl 2)) rfl (by decide) ⟨rfl, rfl, rfl⟩) (fun r S' μ' hp => ?_)
  obtain ⟨rfl, rfl, rfl⟩ := hp
  show Ex G Φ 2 99 [some (2, 0), none] [(2, 94), (2, 0)] sC18 mC26 97 933
  refine ex_putaF hΦ fl_X7_61 (so_c (by decide) (by decide +kernel) : So sC18 0 (.inl 7)) rfl (by decide) hI rfl dX7_init_99 ?_
  show Ex G Φ 2 102 [some (2, 0), none] [] sC18 mC27 97 933
  refine ex_aload_n hΦ dX7_init_102 rfl (by decide) ?_
  refine ex_new' (q := 98) (ci := 2) hΦ (by decide +kernel : ((sC18.length : Nat) : Int) = 98) (by decide) (by decide) qw292 qw293 qw90 (by decide) dX7_init_103 ?_
  show Ex G Φ 2 106 [some (2, 0), none] [(2, 98), (2, 0)] sC19 mC28 98 937
  refine ex_dup hΦ dX7_init_106 (Nat.ne_of_beq_eq_false rfl) ?_
  refine ex_bipush hΦ dX7_init_107 (by decide) ?_
  refine ex_callI (P' := fun r S' μ' => r = none ∧ S' = sC20 ∧ μ' = mC29) [(0, 15)] [(0, 15), (2, 98), (2, 98), (2, 0)] hΦ lkI_X7_58 ⟨by decide, by decide⟩ (Nat.le_of_ble_eq_true rfl) rfl (by decide) (by decide) dX7_init_109 rfl (kX2_init (a := 15) (by decide +kernel : ((sC19.length : Nat) : Int) = 99) (so_c (by decide) (by decide +kernel) : So sC19 98 (.inl 2)) rfl (by decide) ⟨rfl, rfl, rfl⟩) (fun r S' μ' hp => ?_)
  obtain ⟨rfl, rfl, rfl⟩ := hp
  show Ex G Φ 2 112 [some (2, 0), none] [(2, 98), (2, 0)] sC20 mC29 101 982
  refine ex_putaF hΦ fl_X7_65 (so_c (by decide) (by decide +kernel) : So sC20 0 (.inl 7)) rfl (by decide) hI rfl dX7_init_112 ?_
  show Ex G Φ 2 115 [some (2, 0), none] [] sC20 mC30 101 982
  refine ex_aload_n hΦ dX7_init_115 rfl (by decide) ?_
  refine ex_bipush hΦ dX7_init_116 (by decide) ?_
  refine ex_newa0' (q := 102) (n := 8) hΦ (by decide +kernel : ((sC20.length : Nat) : Int) = 102) rfl (by decide) qw209 (by decide) dX7_init_118 ?_
  show Ex G Φ 2 120 [some (2, 0), none] [(2, 102), (2, 0)] sC21 mC31 102 990
  refine ex_putaF hΦ fl_X7_68 (so_c (by decide) (by decide +kernel) : So sC21 0 (.inl 7)) rfl (by decide) hI rfl dX7_init_120 ?_
  show Ex G Φ 2 123 [some (2, 0), none] [] sC21 mC32 102 990
  refine ex_aload_n hΦ dX7_init_123 rfl (by decide) ?_
  refine ex_bipush hΦ dX7_init_124 (by decide) ?_
  refine ex_newa0' (q := 103) (n := 30) hΦ (by decide +kernel : ((sC21.length : Nat) : Int) = 103) rfl (by decide) qw209 (by decide) dX7_init_126 ?_
  show Ex G Φ 2 128 [some (2, 0), none] [(2, 103), (2, 0)] sC22 mC33 103 1020
  refine ex_putaF hΦ fl_X7_72 (so_c (by decide) (by decide +kernel) : So sC22 0 (.inl 7)) rfl (by decide) hI rfl dX7_init_128 ?_
  show Ex G Φ 2 131 [some (2, 0), none] [] sC22 mC34 103 1020
  refine ex_iconst hΦ dX7_init_131 ?_
  refine ex_istore_n (L' := [some (2, 0), some (0, 0)]) hΦ dX7_init_132 (by decide) rfl ?_
  refine ex_iload_n hΦ dX7_init_133 rfl ?_
  refine ex_iconst hΦ dX7_init_134 ?_
  refine ex_icmp_ge 157 hΦ dX7_init_135 (by decide) ⟨by decide, by decide⟩ ⟨by decide, by decide⟩ (fun c => absurd c (by decide)) (fun c => ?_)
  refine ex_aload_n hΦ dX7_init_138 rfl (by decide) ?_
  refine ex_getf hΦ fl_X7_52 (so_c (by decide) (by decide +kernel) : So sC22 0 (.inl 7)) dX7_init_139 ?_
  rw [show mC34 0 ((7 : Nat) : Int) = 93 by decide +kernel]
  refine ex_iload_n hΦ dX7_init_142 rfl ?_
  refine ex_new' (q := 104) (ci := 1) hΦ (by decide +kernel : ((sC22.length : Nat) : Int) = 104) (by decide) (by decide) qw290 qw318 qw92 (by decide) dX7_init_143 ?_
  show Ex G Φ 2 146 [some (2, 0), some (0, 0)] [(2, 104), (0, 0), (2, 93)] sC23 mC35 104 1023
  refine ex_dup hΦ dX7_init_146 (Nat.ne_of_beq_eq_false rfl) ?_
  refine ex_callIN (P' := fun r S' μ' => r = none ∧ S' = sC24 ∧ μ' = mC36) [] [(2, 104), (2, 104), (0, 0), (2, 93)] hΦ lkIN_X7_75 ⟨by decide, by decide⟩ (Nat.le_of_ble_eq_true rfl) rfl (by decide) (by decide) dX7_init_147 rfl (kX1_init (by decide +kernel : ((sC23.length : Nat) : Int) = 105) (so_c (by decide) (by decide +kernel) : So sC23 104 (.inl 1)) ⟨rfl, rfl, rfl⟩) (fun r S' μ' hp => ?_)
  obtain ⟨rfl, rfl, rfl⟩ := hp
  show Ex G Φ 2 150 [some (2, 0), some (0, 0)] [(2, 104), (0, 0), (2, 93)] sC24 mC36 106 1035
  refine ex_aast4 hΦ (so_c (by decide) (by decide +kernel) : So sC24 93 (.inr (4, 2))) (by decide) (by decide) (by decide) (so_c (by decide) (by decide +kernel) : So sC24 104 (.inl 1)) dX7_init_150 ?_
  show Ex G Φ 2 151 [some (2, 0), some (0, 0)] [] sC24 mC37 106 1035
  refine ex_iinc (L' := [some (2, 0), some (0, 1)]) hΦ dX7_init_151 rfl (by decide) rfl ?_
  refine ex_goto 133 hΦ dX7_init_154 (by decide) ?_
  refine ex_iload_n hΦ dX7_init_133 rfl ?_
  refine ex_iconst hΦ dX7_init_134 ?_
  refine ex_icmp_ge 157 hΦ dX7_init_135 (by decide) ⟨by decide, by decide⟩ ⟨by decide, by decide⟩ (fun c => absurd c (by decide)) (fun c => ?_)
  refine ex_aload_n hΦ dX7_init_138 rfl (by decide) ?_
  refine ex_getf hΦ fl_X7_52 (so_c (by decide) (by decide +kernel) : So sC24 0 (.inl 7)) dX7_init_139 ?_
  rw [show mC37 0 ((7 : Nat) : Int) = 93 by decide +kernel]
  refine ex_iload_n hΦ dX7_init_142 rfl ?_
  refine ex_new' (q := 107) (ci := 1) hΦ (by decide +kernel : ((sC24.length : Nat) : Int) = 107) (by decide) (by decide) qw290 qw318 qw92 (by decide) dX7_init_143 ?_
  show Ex G Φ 2 146 [some (2, 0), some (0, 1)] [(2, 107), (0, 1), (2, 93)] sC25 mC38 107 1038
  refine ex_dup hΦ dX7_init_146 (Nat.ne_of_beq_eq_false rfl) ?_
  refine ex_callIN (P' := fun r S' μ' => r = none ∧ S' = sC26 ∧ μ' = mC39) [] [(2, 107), (2, 107), (0, 1), (2, 93)] hΦ lkIN_X7_75 ⟨by decide, by decide⟩ (Nat.le_of_ble_eq_true rfl) rfl (by decide) (by decide) dX7_init_147 rfl (kX1_init (by decide +kernel : ((sC25.length : Nat) : Int) = 108) (so_c (by decide) (by decide +kernel) : So sC25 107 (.inl 1)) ⟨rfl, rfl, rfl⟩) (fun r S' μ' hp => ?_)
  obtain ⟨rfl, rfl, rfl⟩ := hp
  show Ex G Φ 2 150 [some (2, 0), some (0, 1)] [(2, 107), (0, 1), (2, 93)] sC26 mC39 109 1050
  refine ex_aast4 hΦ (so_c (by decide) (by decide +kernel) : So sC26 93 (.inr (4, 2))) (by decide) (by decide) (by decide) (so_c (by decide) (by decide +kernel) : So sC26 107 (.inl 1)) dX7_init_150 ?_
  show Ex G Φ 2 151 [some (2, 0), some (0, 1)] [] sC26 mC40 109 1050
  refine ex_iinc (L' := [some (2, 0), some (0, 2)]) hΦ dX7_init_151 rfl (by decide) rfl ?_
  refine ex_goto 133 hΦ dX7_init_154 (by decide) ?_
  refine ex_iload_n hΦ dX7_init_133 rfl ?_
  refine ex_iconst hΦ dX7_init_134 ?_
  refine ex_icmp_ge 157 hΦ dX7_init_135 (by decide) ⟨by decide, by decide⟩ ⟨by decide, by decide⟩ (fun c => ?_) (fun c => absurd (by decide) c)
  exact ex_return hΦ hR dX7_init_157 h
def SX7 : List Sh := sC26
def MX7 : Mem := mC40
set_option maxRecDepth 100000 in
set_option maxHeartbeats 8000000 in
theorem kX8_init {G : Gm} {P : Option AV → List Sh → Mem → Prop} (h : P none sC49 mC87) : Call G mX8_init 22 930 [(2, 110)] sC27 mC41 P := by
  refine call_ofA (plainFor_of_name (by decide +kernel)) [some (2, 110)] rfl (Nat.le_of_ble_eq_true rfl) rfl (fun Φ hΦ hR hI => ?_)
  refine ex_aload_n hΦ dX8_init_0 rfl (by decide) ?_
  refine ex_objinit hΦ qw844 qw102 qw103 ⟨by decide, by decide⟩ (Nat.le_of_ble_eq_true rfl) (by decide) dX8_init_1 ?_
  refine ex_aload_n hΦ dX8_init_4 rfl (by decide) ?_
  refine ex_sipush hΦ dX8_init_5 (by decide) ?_
  refine ex_newa0' (q := 111) (n := 396) hΦ (by decide +kernel : ((sC27.length : Nat) : Int) = 111) rfl (by decide) qw209 (by decide) dX8_init_8 ?_
  show Ex G Φ 1 10 [some (2, 110)] [(2, 111), (2, 110)] sC28 mC42 1 396
  refine ex_putaF hΦ fl_X8_7 (so_c (by decide) (by decide +kernel) : So sC28 110 (.inl 8)) rfl (by decide) hI rfl dX8_init_10 ?_
  show Ex G Φ 1 13 [some (2, 110)] [] sC28 mC43 1 396
  refine ex_aload_n hΦ dX8_init_13 rfl (by decide) ?_
  refine ex_iconst hΦ dX8_init_14 ?_
  refine ex_newa3' (q := 112) (n := 2) hΦ (by decide +kernel : ((sC28.length : Nat) : Int) = 112) rfl (by decide) qw975 (by decide) dX8_init_15 ?_
  show Ex G Φ 1 17 [some (2, 110)] [(2, 112), (2, 110)] sC29 mC44 2 398
  refine ex_putaF hΦ fl_X8_13 (so_c (by decide) (by decide +kernel) : So sC29 110 (.inl 8)) rfl (by decide) hI rfl dX8_init_17 ?_
  show Ex G Φ 1 20 [some (2, 110)] [] sC29 mC45 2 398
  refine ex_aload_n hΦ dX8_init_20 rfl (by decide) ?_
  refine ex_iconst hΦ dX8_init_21 ?_
  refine ex_putf hΦ fl_X8_17 (so_c (by decide) (by decide +kernel) : So sC29 110 (.inl 8)) rfl rfl dX8_init_22 ?_
  show Ex G Φ 1 25 [some (2, 110)] [] sC29 mC46 2 398
  refine ex_aload_n hΦ dX8_init_25 rfl (by decide) ?_
  refine ex_bipush hΦ dX8_init_26 (by decide) ?_
  refine ex_newa0' (q := 113) (n := 16) hΦ (by decide +kernel : ((sC29.length : Nat) : Int) = 113) rfl (by decide) qw209 (by decide) dX8_init_28 ?_
  show Ex G Φ 1 30 [some (2, 110)] [(2, 113), (2, 110)] sC30 mC47 3 414
  refine ex_putaF hΦ fl_X8_21 (so_c (by decide) (by decide +kernel) : So sC30 110 (.inl 8)) rfl (by decide) hI rfl dX8_init_30 ?_
  show Ex G Φ 1 33 [some (2, 110)] [] sC30 mC48 3 414
  refine ex_aload_n hΦ dX8_init_33 rfl (by decide) ?_
  refine ex_bipush hΦ dX8_init_34 (by decide) ?_
  refine ex_newa0' (q := 114) (n := 16) hΦ (by decide +kernel : ((sC30.length : Nat) : Int) = 114) rfl (by decide) qw209 (by decide) dX8_init_36 ?_
  show Ex G Φ 1 38 [some (2, 110)] [(2, 114), (2, 110)] sC31 mC49 4 430
  refine ex_putaF hΦ fl_X8_24 (so_c (by decide) (by decide +kernel) : So sC31 110 (.inl 8)) rfl (by decide) hI rfl dX8_init_38 ?_
  show Ex G Φ 1 41 [some (2, 110)] [] sC31 mC50 4 430
  refine ex_aload_n hΦ dX8_init_41 rfl (by decide) ?_
  refine ex_bipush hΦ dX8_init_42 (by decide) ?_
  refine ex_newa0' (q := 115) (n := 21) hΦ (by decide +kernel : ((sC31.length : Nat) : Int) = 115) rfl (by decide) qw209 (by decide) dX8_init_44 ?_
  show Ex G Φ 1 46 [some (2, 110)] [(2, 115), (2, 110)] sC32 mC51 5 451
  refine ex_putaF hΦ fl_X8_27 (so_c (by decide) (by decide +kernel) : So sC32 110 (.inl 8)) rfl (by decide) hI rfl dX8_init_46 ?_
  show Ex G Φ 1 49 [some (2, 110)] [] sC32 mC52 5 451
  refine ex_aload_n hΦ dX8_init_49 rfl (by decide) ?_
  refine ex_bipush hΦ dX8_init_50 (by decide) ?_
  refine ex_newa0' (q := 116) (n := 21) hΦ (by decide +kernel : ((sC32.length : Nat) : Int) = 116) rfl (by decide) qw209 (by decide) dX8_init_52 ?_
  show Ex G Φ 1 54 [some (2, 110)] [(2, 116), (2, 110)] sC33 mC53 6 472
  refine ex_putaF hΦ fl_X8_30 (so_c (by decide) (by decide +kernel) : So sC33 110 (.inl 8)) rfl (by decide) hI rfl dX8_init_54 ?_
  show Ex G Φ 1 57 [some (2, 110)] [] sC33 mC54 6 472
  refine ex_aload_n hΦ dX8_init_57 rfl (by decide) ?_
  refine ex_bipush hΦ dX8_init_58 (by decide) ?_
  refine ex_newa0' (q := 117) (n := 21) hΦ (by decide +kernel : ((sC33.length : Nat) : Int) = 117) rfl (by decide) qw209 (by decide) dX8_init_60 ?_
  show Ex G Φ 1 62 [some (2, 110)] [(2, 117), (2, 110)] sC34 mC55 7 493
  refine ex_putaF hΦ fl_X8_33 (so_c (by decide) (by decide +kernel) : So sC34 110 (.inl 8)) rfl (by decide) hI rfl dX8_init_62 ?_
  show Ex G Φ 1 65 [some (2, 110)] [] sC34 mC56 7 493
  refine ex_aload_n hΦ dX8_init_65 rfl (by decide) ?_
  refine ex_bipush hΦ dX8_init_66 (by decide) ?_
  refine ex_newa0' (q := 118) (n := 20) hΦ (by decide +kernel : ((sC34.length : Nat) : Int) = 118) rfl (by decide) qw209 (by decide) dX8_init_68 ?_
  show Ex G Φ 1 70 [some (2, 110)] [(2, 118), (2, 110)] sC35 mC57 8 513
  refine ex_putaF hΦ fl_X8_36 (so_c (by decide) (by decide +kernel) : So sC35 110 (.inl 8)) rfl (by decide) hI rfl dX8_init_70 ?_
  show Ex G Φ 1 73 [some (2, 110)] [] sC35 mC58 8 513
  refine ex_aload_n hΦ dX8_init_73 rfl (by decide) ?_
  refine ex_bipush hΦ dX8_init_74 (by decide) ?_
  refine ex_newa0' (q := 119) (n := 12) hΦ (by decide +kernel : ((sC35.length : Nat) : Int) = 119) rfl (by decide) qw209 (by decide) dX8_init_76 ?_
  show Ex G Φ 1 78 [some (2, 110)] [(2, 119), (2, 110)] sC36 mC59 9 525
  refine ex_putaF hΦ fl_X8_39 (so_c (by decide) (by decide +kernel) : So sC36 110 (.inl 8)) rfl (by decide) hI rfl dX8_init_78 ?_
  show Ex G Φ 1 81 [some (2, 110)] [] sC36 mC60 9 525
  refine ex_aload_n hΦ dX8_init_81 rfl (by decide) ?_
  refine ex_bipush hΦ dX8_init_82 (by decide) ?_
  refine ex_newa0' (q := 120) (n := 12) hΦ (by decide +kernel : ((sC36.length : Nat) : Int) = 120) rfl (by decide) qw209 (by decide) dX8_init_84 ?_
  show Ex G Φ 1 86 [some (2, 110)] [(2, 120), (2, 110)] sC37 mC61 10 537
  refine ex_putaF hΦ fl_X8_42 (so_c (by decide) (by decide +kernel) : So sC37 110 (.inl 8)) rfl (by decide) hI rfl dX8_init_86 ?_
  show Ex G Φ 1 89 [some (2, 110)] [] sC37 mC62 10 537
  refine ex_aload_n hΦ dX8_init_89 rfl (by decide) ?_
  refine ex_sipush hΦ dX8_init_90 (by decide) ?_
  refine ex_newa0' (q := 121) (n := 250) hΦ (by decide +kernel : ((sC37.length : Nat) : Int) = 121) rfl (by decide) qw209 (by decide) dX8_init_93 ?_
  show Ex G Φ 1 95 [some (2, 110)] [(2, 121), (2, 110)] sC38 mC63 11 787
  refine ex_putaF hΦ fl_X8_45 (so_c (by decide) (by decide +kernel) : So sC38 110 (.inl 8)) rfl (by decide) hI rfl dX8_init_95 ?_
  show Ex G Φ 1 98 [some (2, 110)] [] sC38 mC64 11 787
  refine ex_aload_n hΦ dX8_init_98 rfl (by decide) ?_
  refine ex_iconst hΦ dX8_init_99 ?_
  refine ex_putf hΦ fl_X8_48 (so_c (by decide) (by decide +kernel) : So sC38 110 (.inl 8)) rfl rfl dX8_init_100 ?_
  show Ex G Φ 1 103 [some (2, 110)] [] sC38 mC65 11 787
  refine ex_aload_n hΦ dX8_init_103 rfl (by decide) ?_
  refine ex_bipush hΦ dX8_init_104 (by decide) ?_
  refine ex_newa1' (q := 122) (n := 8) hΦ (by decide +kernel : ((sC38.length : Nat) : Int) = 122) rfl (by decide) qw246 (by decide) dX8_init_106 ?_
  show Ex G Φ 1 108 [some (2, 110)] [(2, 122), (2, 110)] sC39 mC66 12 795
  refine ex_putaF hΦ fl_X8_51 (so_c (by decide) (by decide +kernel) : So sC39 110 (.inl 8)) rfl (by decide) hI rfl dX8_init_108 ?_
  show Ex G Φ 1 111 [some (2, 110)] [] sC39 mC67 12 795
  refine ex_aload_n hΦ dX8_init_111 rfl (by decide) ?_
  refine ex_bipush hΦ dX8_init_112 (by decide) ?_
  refine ex_newa1' (q := 123) (n := 8) hΦ (by decide +kernel : ((sC39.length : Nat) : Int) = 123) rfl (by decide) qw246 (by decide) dX8_init_114 ?_
  show Ex G Φ 1 116 [some (2, 110)] [(2, 123), (2, 110)] sC40 mC68 13 803
  refine ex_putaF hΦ fl_X8_55 (so_c (by decide) (by decide +kernel) : So sC40 110 (.inl 8)) rfl (by decide) hI rfl dX8_init_116 ?_
  show Ex G Φ 1 119 [some (2, 110)] [] sC40 mC69 13 803
  refine ex_aload_n hΦ dX8_init_119 rfl (by decide) ?_
  refine ex_bipush hΦ dX8_init_120 (by decide) ?_
  refine ex_newa0' (q := 124) (n := 8) hΦ (by decide +kernel : ((sC40.length : Nat) : Int) = 124) rfl (by decide) qw209 (by decide) dX8_init_122 ?_
  show Ex G Φ 1 124 [some (2, 110)] [(2, 124), (2, 110)] sC41 mC70 14 811
  refine ex_putaF hΦ fl_X8_58 (so_c (by decide) (by decide +kernel) : So sC41 110 (.inl 8)) rfl (by decide) hI rfl dX8_init_124 ?_
  show Ex G Φ 1 127 [some (2, 110)] [] sC41 mC71 14 811
  refine ex_aload_n hΦ dX8_init_127 rfl (by decide) ?_
  refine ex_bipush hΦ dX8_init_128 (by decide) ?_
  refine ex_newa1' (q := 125) (n := 8) hΦ (by decide +kernel : ((sC41.length : Nat) : Int) = 125) rfl (by decide) qw246 (by decide) dX8_init_130 ?_
  show Ex G Φ 1 132 [some (2, 110)] [(2, 125), (2, 110)] sC42 mC72 15 819
  refine ex_putaF hΦ fl_X8_61 (so_c (by decide) (by decide +kernel) : So sC42 110 (.inl 8)) rfl (by decide) hI rfl dX8_init_132 ?_
  show Ex G Φ 1 135 [some (2, 110)] [] sC42 mC73 15 819
  refine ex_aload_n hΦ dX8_init_135 rfl (by decide) ?_
  refine ex_bipush hΦ dX8_init_136 (by decide) ?_
  refine ex_newa0' (q := 126) (n := 12) hΦ (by decide +kernel : ((sC42.length : Nat) : Int) = 126) rfl (by decide) qw209 (by decide) dX8_init_138 ?_
  show Ex G Φ 1 140 [some (2, 110)] [(2, 126), (2, 110)] sC43 mC74 16 831
  refine ex_putaF hΦ fl_X8_64 (so_c (by decide) (by decide +kernel) : So sC43 110 (.inl 8)) rfl (by decide) hI rfl dX8_init_140 ?_
  show Ex G Φ 1 143 [some (2, 110)] [] sC43 mC75 16 831
  refine ex_aload_n hΦ dX8_init_143 rfl (by decide) ?_
  refine ex_bipush hΦ dX8_init_144 (by decide) ?_
  refine ex_newa0' (q := 127) (n := 12) hΦ (by decide +kernel : ((sC43.length : Nat) : Int) = 127) rfl (by decide) qw209 (by decide) dX8_init_146 ?_
  show Ex G Φ 1 148 [some (2, 110)] [(2, 127), (2, 110)] sC44 mC76 17 843
  refine ex_putaF hΦ fl_X8_67 (so_c (by decide) (by decide +kernel) : So sC44 110 (.inl 8)) rfl (by decide) hI rfl dX8_init_148 ?_
  show Ex G Φ 1 151 [some (2, 110)] [] sC44 mC77 17 843
  refine ex_aload_n hΦ dX8_init_151 rfl (by decide) ?_
  refine ex_bipush hΦ dX8_init_152 (by decide) ?_
  refine ex_newa0' (q := 128) (n := 12) hΦ (by decide +kernel : ((sC44.length : Nat) : Int) = 128) rfl (by decide) qw209 (by decide) dX8_init_154 ?_
  show Ex G Φ 1 156 [some (2, 110)] [(2, 128), (2, 110)] sC45 mC78 18 855
  refine ex_putaF hΦ fl_X8_70 (so_c (by decide) (by decide +kernel) : So sC45 110 (.inl 8)) rfl (by decide) hI rfl dX8_init_156 ?_
  show Ex G Φ 1 159 [some (2, 110)] [] sC45 mC79 18 855
  refine ex_aload_n hΦ dX8_init_159 rfl (by decide) ?_
  refine ex_bipush hΦ dX8_init_160 (by decide) ?_
  refine ex_newa0' (q := 129) (n := 30) hΦ (by decide +kernel : ((sC45.length : Nat) : Int) = 129) rfl (by decide) qw209 (by decide) dX8_init_162 ?_
  show Ex G Φ 1 164 [some (2, 110)] [(2, 129), (2, 110)] sC46 mC80 19 885
  refine ex_putaF hΦ fl_X8_73 (so_c (by decide) (by decide +kernel) : So sC46 110 (.inl 8)) rfl (by decide) hI rfl dX8_init_164 ?_
  show Ex G Φ 1 167 [some (2, 110)] [] sC46 mC81 19 885
  refine ex_aload_n hΦ dX8_init_167 rfl (by decide) ?_
  refine ex_bipush hΦ dX8_init_168 (by decide) ?_
  refine ex_newa0' (q := 130) (n := 15) hΦ (by decide +kernel : ((sC46.length : Nat) : Int) = 130) rfl (by decide) qw209 (by decide) dX8_init_170 ?_
  show Ex G Φ 1 172 [some (2, 110)] [(2, 130), (2, 110)] sC47 mC82 20 900
  refine ex_putaF hΦ fl_X8_76 (so_c (by decide) (by decide +kernel) : So sC47 110 (.inl 8)) rfl (by decide) hI rfl dX8_init_172 ?_
  show Ex G Φ 1 175 [some (2, 110)] [] sC47 mC83 20 900
  refine ex_aload_n hΦ dX8_init_175 rfl (by decide) ?_
  refine ex_bipush hΦ dX8_init_176 (by decide) ?_
  refine ex_newa0' (q := 131) (n := 15) hΦ (by decide +kernel : ((sC47.length : Nat) : Int) = 131) rfl (by decide) qw209 (by decide) dX8_init_178 ?_
  show Ex G Φ 1 180 [some (2, 110)] [(2, 131), (2, 110)] sC48 mC84 21 915
  refine ex_putaF hΦ fl_X8_79 (so_c (by decide) (by decide +kernel) : So sC48 110 (.inl 8)) rfl (by decide) hI rfl dX8_init_180 ?_
  show Ex G Φ 1 183 [some (2, 110)] [] sC48 mC85 21 915
  refine ex_aload_n hΦ dX8_init_183 rfl (by decide) ?_
  refine ex_bipush hΦ dX8_init_184 (by decide) ?_
  refine ex_newa0' (q := 132) (n := 15) hΦ (by decide +kernel : ((sC48.length : Nat) : Int) = 132) rfl (by decide) qw209 (by decide) dX8_init_186 ?_
  show Ex G Φ 1 188 [some (2, 110)] [(2, 132), (2, 110)] sC49 mC86 22 930
  refine ex_putaF hΦ fl_X8_82 (so_c (by decide) (by decide +kernel) : So sC49 110 (.inl 8)) rfl (by decide) hI rfl dX8_init_188 ?_
  show Ex G Φ 1 191 [some (2, 110)] [] sC49 mC87 22 930
  exact ex_return hΦ hR dX8_init_191 h
def SH0 : List Sh := sC49
def MH0 : Mem := mC87
