theorem qw252 : Cond.methodLink RX5 3 Lib.objectInit ∈ wsT := wsT_of 252 (by decide +kernel) (by rfl)
theorem qw102 : Cond.instanceMethod Lib.objectInit ∈ wsT := wsT_of 102 (by decide +kernel) (by rfl)
theorem qw103 : Cond.code Lib.objectInit ⟨#[0xb1]⟩ 1 none ∈ wsT := wsT_of 103 (by decide +kernel) (by rfl)
theorem qw209 : Cond.arrayClass .int ∈ wsT := wsT_of 209 (by decide +kernel) (by rfl)
theorem qw322 : Cond.methodLink RX1 1 Lib.objectInit ∈ wsT := wsT_of 322 (by decide +kernel) (by rfl)
theorem qw323 : Cond.classLink RX1 7 RX5 ∈ wsT := wsT_of 323 (by decide +kernel) (by rfl)
theorem qw248 : Cond.instantiable RX5 4 ∈ wsT := wsT_of 248 (by decide +kernel) (by rfl)
theorem qw251 : Cond.code yX5_init cX5_init 1 none ∈ wsT := wsT_of 251 (by decide +kernel) (by rfl)
theorem qw250 : Cond.instanceMethod yX5_init ∈ wsT := wsT_of 250 (by decide +kernel) (by rfl)
theorem lkIN_X1_9 : lfIN RX1 9 mX5_init 0 := ⟨⟨(by decide), qw251, qw88, by decide +kernel, by decide +kernel, by decide +kernel⟩, qw250, rfl, rfl⟩
theorem qw325 : Cond.fieldLink RX1 10 "CogFamily$Image" "stand" "LCogFamily$Stand;" ∈ wsT := wsT_of 325 (by decide +kernel) (by rfl)
theorem fl_X1_10 : FL RX1 10 1 0 2 := ⟨by decide, by decide, qw325, rfl⟩
theorem qw297 : Cond.methodLink RX2 3 Lib.objectInit ∈ wsT := wsT_of 297 (by decide +kernel) (by rfl)
theorem qw298 : Cond.methodLink RX2 9 Lib.Math.max.name ∈ wsT := wsT_of 298 (by decide +kernel) (by rfl)
theorem qw109 : Cond.methodLink RX4 3 Lib.objectInit ∈ wsT := wsT_of 109 (by decide +kernel) (by rfl)
theorem qw138 : Cond.arrayClass .char ∈ wsT := wsT_of 138 (by decide +kernel) (by rfl)
theorem qw144 : Cond.methodLink RX6 3 Lib.objectInit ∈ wsT := wsT_of 144 (by decide +kernel) (by rfl)
theorem qw215 : Cond.methodLink RX3 3 Lib.objectInit ∈ wsT := wsT_of 215 (by decide +kernel) (by rfl)
theorem qw246 : Cond.arrayClass .long ∈ wsT := wsT_of 246 (by decide +kernel) (by rfl)
theorem So_lt {S : List Sh} {z n : Int} {s : Sh} (h : So S z s) (hn : (S.length : Int) = n) : z < n := by
  have h1 := (List.getElem?_eq_some_iff.mp h.2).1
  have h2 := h.1
  omega
def tX3_rest (μ : Mem) (a b o : Int) : Mem := mu (mu (mfill (mfill μ a 8 0) b 8 1) o 3 0) o 4 0
def sX5_init (S : List Sh) : List Sh := (S ++ [.inr (0, 8)])
def tX5_init (μ : Mem) (x0 n0 : Int) : Mem := (mu (mz μ n0 (fun _ => 0)) x0 3 n0)
theorem kX5_init {G : Gm} {S : List Sh} {μ : Mem} {P : Option AV → List Sh → Mem → Prop} {x0 n0 : Int} (h0 : (S.length : Int) = n0) (hs : So S x0 (.inl 5)) (h : P none (sX5_init S) (tX5_init μ x0 n0)) : Call G mX5_init 1 8 [(2, x0)] S μ P := by
  have hlt := So_lt hs h0
  refine call_ofA (plainFor_of_name (by decide +kernel)) [some (2, x0)] rfl (Nat.le_of_ble_eq_true rfl) rfl (fun Φ hΦ hR hI => ?_)
  refine ex_aload_n hΦ dX5_init_0 rfl hs.1 ?_
  refine ex_objinit hΦ qw252 qw102 qw103 ⟨by decide, by decide⟩ (Nat.le_of_ble_eq_true rfl) hs.1 dX5_init_1 ?_
  refine ex_aload_n hΦ dX5_init_4 rfl hs.1 ?_
  refine ex_bipush hΦ dX5_init_5 (by decide) ?_
  refine ex_newa0' (q := n0) (n := 8) hΦ h0 rfl (by decide) qw209 (by decide) dX5_init_7 ?_
  have hs1 := So_app (T := [.inr (0, 8)]) hs
  have hs2 := So_last (s := .inr (0, 8)) h0
  have hl3 := len_app' (m := (n0 + 1)) (s := .inr (0, 8)) h0 (by omega)
  refine ex_putaF hΦ fl_X5_9 hs1 rfl hs2.1 hI rfl dX5_init_9 ?_
  exact ex_return hΦ hR dX5_init_12 h
def sX1_init (S : List Sh) : List Sh := (sX5_init (S ++ [.inl 5]))
def tX1_init (μ : Mem) (x0 n0 : Int) : Mem := (mu (tX5_init (mz μ n0 (mdf 5)) n0 (n0 + 1)) x0 0 n0)
theorem kX1_init {G : Gm} {S : List Sh} {μ : Mem} {P : Option AV → List Sh → Mem → Prop} {x0 n0 : Int} (h0 : (S.length : Int) = n0) (hs : So S x0 (.inl 1)) (h : P none (sX1_init S) (tX1_init μ x0 n0)) : Call G mX1_init 2 12 [(2, x0)] S μ P := by
  have hlt := So_lt hs h0
  refine call_ofA (plainFor_of_name (by decide +kernel)) [some (2, x0)] rfl (Nat.le_of_ble_eq_true rfl) rfl (fun Φ hΦ hR hI => ?_)
  refine ex_aload_n hΦ dX1_init_0 rfl hs.1 ?_
  refine ex_objinit hΦ qw322 qw102 qw103 ⟨by decide, by decide⟩ (Nat.le_of_ble_eq_true rfl) hs.1 dX1_init_1 ?_
  refine ex_aload_n hΦ dX1_init_4 rfl hs.1 ?_
  refine ex_new' (q := n0) (ci := 5) hΦ h0 (by decide) (by decide) qw323 qw248 qw88 (by decide) dX1_init_5 ?_
  have hs1 := So_app (T := [.inl 5]) hs
  have hs2 := So_last (s := .inl 5) h0
  have hl3 := len_app' (m := (n0 + 1)) (s := .inl 5) h0 (by omega)
  refine ex_dup hΦ dX1_init_8 (Nat.ne_of_beq_eq_false rfl) ?_
  refine ex_callIN (P' := fun r S' μ' => r = none ∧ S' = (sX5_init (S ++ [.inl 5])) ∧ μ' = (tX5_init (mz μ n0 (mdf 5)) n0 (n0 + 1))) [] [(2, n0), (2, n0), (2, x0)] hΦ lkIN_X1_9 ⟨by decide, by decide⟩ (Nat.le_of_ble_eq_true rfl) rfl (by decide) hs2.1 dX1_init_9 rfl (kX5_init hl3 hs2 ⟨rfl, rfl, rfl⟩) (fun r S' μ' hp => ?_)
  obtain ⟨rfl, rfl, rfl⟩ := hp
  have hs4 := So_app (T := [.inr (0, 8)]) hs1
  have hs5 := So_app (T := [.inr (0, 8)]) hs2
  have hs6 := So_last (s := .inr (0, 8)) hl3
  have hl7 := len_app' (m := (n0 + 2)) (s := .inr (0, 8)) hl3 (by omega)
  refine ex_putaF hΦ fl_X1_10 hs4 rfl hs5.1 hI rfl dX1_init_12 ?_
  exact ex_return hΦ hR dX1_init_15 h
def sX2_init (S : List Sh) (a : Nat) : List Sh := (((S ++ [.inr (0, a)]) ++ [.inr (0, a)]) ++ [.inr (0, a)])
def tX2_init (μ : Mem) (x0 n0 : Int) : Mem := (mu (mz (mu (mz (mu (mz μ n0 (fun _ => 0)) x0 0 n0) (n0 + 1) (fun _ => 0)) x0 1 (n0 + 1)) (n0 + 2) (fun _ => 0)) x0 2 (n0 + 2))
theorem kX2_init {G : Gm} {S : List Sh} {μ : Mem} {P : Option AV → List Sh → Mem → Prop} {x0 x1 n0 : Int} {a : Nat} (h0 : (S.length : Int) = n0) (hs : So S x0 (.inl 2)) (ha : x1 = a) (hle : a ≤ 100000) (h : P none (sX2_init S a) (tX2_init μ x0 n0)) : Call G mX2_init 3 (0 + a + a + a) [(2, x0), (0, x1)] S μ P := by
  have hlt := So_lt hs h0
  refine call_ofA (plainFor_of_name (by decide +kernel)) [some (2, x0), some (0, x1), none] rfl (Nat.le_of_ble_eq_true rfl) rfl (fun Φ hΦ hR hI => ?_)
  refine ex_aload_n hΦ dX2_init_0 rfl hs.1 ?_
  refine ex_objinit hΦ qw297 qw102 qw103 ⟨by decide, by decide⟩ (Nat.le_of_ble_eq_true rfl) hs.1 dX2_init_1 ?_
  refine ex_iload_n hΦ dX2_init_4 rfl ?_
  refine ex_iconst hΦ dX2_init_5 ?_
  refine ex_mmax hΦ qw298 qw299 qw91 qw300 ⟨by decide, by decide⟩ ⟨by omega, by omega⟩ (Nat.le_of_ble_eq_true rfl) ⟨by omega, by omega⟩ ⟨by decide, by decide⟩ dX2_init_6 ?_
  rw [if_neg (by omega : ¬ x1 < 0)]
  refine ex_istore_n (L' := [some (2, x0), some (0, x1), some (0, x1)]) hΦ dX2_init_9 (by decide) rfl ?_
  refine ex_aload_n hΦ dX2_init_10 rfl hs.1 ?_
  refine ex_iload_n hΦ dX2_init_11 rfl ?_
  refine ex_newa0' (q := n0) (n := a) hΦ h0 ha (by omega) qw209 ⟨by omega, by omega⟩ dX2_init_12 ?_
  have hs1 := So_app (T := [.inr (0, a)]) hs
  have hs2 := So_last (s := .inr (0, a)) h0
  have hl3 := len_app' (m := (n0 + 1)) (s := .inr (0, a)) h0 (by omega)
  refine ex_putaF hΦ fl_X2_15 hs1 rfl hs2.1 hI rfl dX2_init_14 ?_
  refine ex_aload_n hΦ dX2_init_17 rfl hs.1 ?_
  refine ex_iload_n hΦ dX2_init_18 rfl ?_
  refine ex_newa0' (q := (n0 + 1)) (n := a) hΦ hl3 ha (by omega) qw209 ⟨by omega, by omega⟩ dX2_init_19 ?_
  have hs4 := So_app (T := [.inr (0, a)]) hs1
  have hs5 := So_app (T := [.inr (0, a)]) hs2
  have hs6 := So_last (s := .inr (0, a)) hl3
  have hl7 := len_app' (m := (n0 + 2)) (s := .inr (0, a)) hl3 (by omega)
  refine ex_putaF hΦ fl_X2_21 hs4 rfl hs6.1 hI rfl dX2_init_21 ?_
  refine ex_aload_n hΦ dX2_init_24 rfl hs.1 ?_
  refine ex_iload_n hΦ dX2_init_25 rfl ?_
  refine ex_newa0' (q := (n0 + 2)) (n := a) hΦ hl7 ha (by omega) qw209 ⟨by omega, by omega⟩ dX2_init_26 ?_
  have hs8 := So_app (T := [.inr (0, a)]) hs4
  have hs9 := So_app (T := [.inr (0, a)]) hs6
  have hs10 := So_last (s := .inr (0, a)) hl7
  have hl11 := len_app' (m := (n0 + 3)) (s := .inr (0, a)) hl7 (by omega)
  refine ex_putaF hΦ fl_X2_24 hs8 rfl hs10.1 hI rfl dX2_init_28 ?_
  exact ex_return hΦ hR dX2_init_31 h
def sX4_init (S : List Sh) : List Sh := (S ++ [.inr (2, 250)])
def tX4_init (μ : Mem) (x0 n0 : Int) : Mem := (mu (mu (mz μ n0 (fun _ => 0)) x0 0 n0) x0 7 (-1))
theorem kX4_init {G : Gm} {S : List Sh} {μ : Mem} {P : Option AV → List Sh → Mem → Prop} {x0 n0 : Int} (h0 : (S.length : Int) = n0) (hs : So S x0 (.inl 4)) (h : P none (sX4_init S) (tX4_init μ x0 n0)) : Call G mX4_init 1 250 [(2, x0)] S μ P := by
  have hlt := So_lt hs h0
  refine call_ofA (plainFor_of_name (by decide +kernel)) [some (2, x0)] rfl (Nat.le_of_ble_eq_true rfl) rfl (fun Φ hΦ hR hI => ?_)
  refine ex_aload_n hΦ dX4_init_0 rfl hs.1 ?_
  refine ex_objinit hΦ qw109 qw102 qw103 ⟨by decide, by decide⟩ (Nat.le_of_ble_eq_true rfl) hs.1 dX4_init_1 ?_
  refine ex_aload_n hΦ dX4_init_4 rfl hs.1 ?_
  refine ex_sipush hΦ dX4_init_5 (by decide) ?_
  refine ex_newa2' (q := n0) (n := 250) hΦ h0 rfl (by decide) qw138 (by decide) dX4_init_8 ?_
  have hs1 := So_app (T := [.inr (2, 250)]) hs
  have hs2 := So_last (s := .inr (2, 250)) h0
  have hl3 := len_app' (m := (n0 + 1)) (s := .inr (2, 250)) h0 (by omega)
  refine ex_putaF hΦ fl_X4_9 hs1 rfl hs2.1 hI rfl dX4_init_10 ?_
  refine ex_aload_n hΦ dX4_init_13 rfl hs.1 ?_
  refine ex_iconst hΦ dX4_init_14 ?_
  refine ex_putf hΦ fl_X4_15 hs1 rfl rfl dX4_init_15 ?_
  exact ex_return hΦ hR dX4_init_18 h
def sX6_init (S : List Sh) : List Sh := ((((((((S ++ [.inr (0, 8)]) ++ [.inr (0, 8)]) ++ [.inr (0, 10)]) ++ [.inr (0, 11)]) ++ [.inr (0, 11)]) ++ [.inr (0, 11)]) ++ [.inr (0, 6)]) ++ [.inr (0, 6)])
def tX6_init (μ : Mem) (x0 n0 : Int) : Mem := (mu (mz (mu (mz (mu (mz (mu (mz (mu (mz (mu (mz (mu (mz (mu (mz (mu μ x0 4 1) n0 (fun _ => 0)) x0 5 n0) (n0 + 1) (fun _ => 0)) x0 6 (n0 + 1)) (n0 + 2) (fun _ => 0)) x0 7 (n0 + 2)) (n0 + 3) (fun _ => 0)) x0 8 (n0 + 3)) (n0 + 4) (fun _ => 0)) x0 9 (n0 + 4)) (n0 + 5) (fun _ => 0)) x0 10 (n0 + 5)) (n0 + 6) (fun _ => 0)) x0 11 (n0 + 6)) (n0 + 7) (fun _ => 0)) x0 12 (n0 + 7))
theorem kX6_init {G : Gm} {S : List Sh} {μ : Mem} {P : Option AV → List Sh → Mem → Prop} {x0 n0 : Int} (h0 : (S.length : Int) = n0) (hs : So S x0 (.inl 6)) (h : P none (sX6_init S) (tX6_init μ x0 n0)) : Call G mX6_init 8 71 [(2, x0)] S μ P := by
  have hlt := So_lt hs h0
  refine call_ofA (plainFor_of_name (by decide +kernel)) [some (2, x0)] rfl (Nat.le_of_ble_eq_true rfl) rfl (fun Φ hΦ hR hI => ?_)
  refine ex_aload_n hΦ dX6_init_0 rfl hs.1 ?_
  refine ex_objinit hΦ qw144 qw102 qw103 ⟨by decide, by decide⟩ (Nat.le_of_ble_eq_true rfl) hs.1 dX6_init_1 ?_
  refine ex_aload_n hΦ dX6_init_4 rfl hs.1 ?_
  refine ex_iconst hΦ dX6_init_5 ?_
  refine ex_putf hΦ fl_X6_9 hs rfl rfl dX6_init_6 ?_
  refine ex_aload_n hΦ dX6_init_9 rfl hs.1 ?_
  refine ex_bipush hΦ dX6_init_10 (by decide) ?_
  refine ex_newa0' (q := n0) (n := 8) hΦ h0 rfl (by decide) qw209 (by decide) dX6_init_12 ?_
  have hs1 := So_app (T := [.inr (0, 8)]) hs
  have hs2 := So_last (s := .inr (0, 8)) h0
  have hl3 := len_app' (m := (n0 + 1)) (s := .inr (0, 8)) h0 (by omega)
  refine ex_putaF hΦ fl_X6_15 hs1 rfl hs2.1 hI rfl dX6_init_14 ?_
  refine ex_aload_n hΦ dX6_init_17 rfl hs.1 ?_
  refine ex_bipush hΦ dX6_init_18 (by decide) ?_
  refine ex_newa0' (q := (n0 + 1)) (n := 8) hΦ hl3 rfl (by decide) qw209 (by decide) dX6_init_20 ?_
  have hs4 := So_app (T := [.inr (0, 8)]) hs1
  have hs5 := So_app (T := [.inr (0, 8)]) hs2
  have hs6 := So_last (s := .inr (0, 8)) hl3
  have hl7 := len_app' (m := (n0 + 2)) (s := .inr (0, 8)) hl3 (by omega)
  refine ex_putaF hΦ fl_X6_19 hs4 rfl hs6.1 hI rfl dX6_init_22 ?_
  refine ex_aload_n hΦ dX6_init_25 rfl hs.1 ?_
  refine ex_bipush hΦ dX6_init_26 (by decide) ?_
  refine ex_newa0' (q := (n0 + 2)) (n := 10) hΦ hl7 rfl (by decide) qw209 (by decide) dX6_init_28 ?_
  have hs8 := So_app (T := [.inr (0, 10)]) hs4
  have hs9 := So_app (T := [.inr (0, 10)]) hs6
  have hs10 := So_last (s := .inr (0, 10)) hl7
  have hl11 := len_app' (m := (n0 + 3)) (s := .inr (0, 10)) hl7 (by omega)
  refine ex_putaF hΦ fl_X6_22 hs8 rfl hs10.1 hI rfl dX6_init_30 ?_
  refine ex_aload_n hΦ dX6_init_33 rfl hs.1 ?_
  refine ex_bipush hΦ dX6_init_34 (by decide) ?_
  refine ex_newa0' (q := (n0 + 3)) (n := 11) hΦ hl11 rfl (by decide) qw209 (by decide) dX6_init_36 ?_
  have hs12 := So_app (T := [.inr (0, 11)]) hs8
  have hs13 := So_app (T := [.inr (0, 11)]) hs10
  have hs14 := So_last (s := .inr (0, 11)) hl11
  have hl15 := len_app' (m := (n0 + 4)) (s := .inr (0, 11)) hl11 (by omega)
  refine ex_putaF hΦ fl_X6_25 hs12 rfl hs14.1 hI rfl dX6_init_38 ?_
  refine ex_aload_n hΦ dX6_init_41 rfl hs.1 ?_
  refine ex_bipush hΦ dX6_init_42 (by decide) ?_
  refine ex_newa0' (q := (n0 + 4)) (n := 11) hΦ hl15 rfl (by decide) qw209 (by decide) dX6_init_44 ?_
  have hs16 := So_app (T := [.inr (0, 11)]) hs12
  have hs17 := So_app (T := [.inr (0, 11)]) hs14
  have hs18 := So_last (s := .inr (0, 11)) hl15
  have hl19 := len_app' (m := (n0 + 5)) (s := .inr (0, 11)) hl15 (by omega)
  refine ex_putaF hΦ fl_X6_28 hs16 rfl hs18.1 hI rfl dX6_init_46 ?_
  refine ex_aload_n hΦ dX6_init_49 rfl hs.1 ?_
  refine ex_bipush hΦ dX6_init_50 (by decide) ?_
  refine ex_newa0' (q := (n0 + 5)) (n := 11) hΦ hl19 rfl (by decide) qw209 (by decide) dX6_init_52 ?_
  have hs20 := So_app (T := [.inr (0, 11)]) hs16
  have hs21 := So_app (T := [.inr (0, 11)]) hs18
  have hs22 := So_last (s := .inr (0, 11)) hl19
  have hl23 := len_app' (m := (n0 + 6)) (s := .inr (0, 11)) hl19 (by omega)
  refine ex_putaF hΦ fl_X6_31 hs20 rfl hs22.1 hI rfl dX6_init_54 ?_
  refine ex_aload_n hΦ dX6_init_57 rfl hs.1 ?_
  refine ex_bipush hΦ dX6_init_58 (by decide) ?_
  refine ex_newa0' (q := (n0 + 6)) (n := 6) hΦ hl23 rfl (by decide) qw209 (by decide) dX6_init_60 ?_
  have hs24 := So_app (T := [.inr (0, 6)]) hs20
  have hs25 := So_app (T := [.inr (0, 6)]) hs22
  have hs26 := So_last (s := .inr (0, 6)) hl23
  have hl27 := len_app' (m := (n0 + 7)) (s := .inr (0, 6)) hl23 (by omega)
  refine ex_putaF hΦ fl_X6_34 hs24 rfl hs26.1 hI rfl dX6_init_62 ?_
  refine ex_aload_n hΦ dX6_init_65 rfl hs.1 ?_
  refine ex_bipush hΦ dX6_init_66 (by decide) ?_
  refine ex_newa0' (q := (n0 + 7)) (n := 6) hΦ hl27 rfl (by decide) qw209 (by decide) dX6_init_68 ?_
  have hs28 := So_app (T := [.inr (0, 6)]) hs24
  have hs29 := So_app (T := [.inr (0, 6)]) hs26
  have hs30 := So_last (s := .inr (0, 6)) hl27
  have hl31 := len_app' (m := (n0 + 8)) (s := .inr (0, 6)) hl27 (by omega)
  refine ex_putaF hΦ fl_X6_37 hs28 rfl hs30.1 hI rfl dX6_init_70 ?_
  exact ex_return hΦ hR dX6_init_73 h
def sX3_init (S : List Sh) : List Sh := (((S ++ [.inr (1, 8)]) ++ [.inr (1, 8)]) ++ [.inr (0, 8)])
def tX3_init (μ : Mem) (x0 n0 : Int) : Mem := (tX3_rest (mu (mz (mu (mz (mu (mz μ n0 (fun _ => 0)) x0 0 n0) (n0 + 1) (fun _ => 0)) x0 1 (n0 + 1)) (n0 + 2) (fun _ => 0)) x0 2 (n0 + 2)) n0 (n0 + 1) x0)
theorem kX3_init {G : Gm} {S : List Sh} {μ : Mem} {P : Option AV → List Sh → Mem → Prop} {x0 n0 : Int} (h0 : (S.length : Int) = n0) (hs : So S x0 (.inl 3)) (h : P none (sX3_init S) (tX3_init μ x0 n0)) : Call G mX3_init 3 24 [(2, x0)] S μ P := by
  have hlt := So_lt hs h0
  refine call_ofA (plainFor_of_name (by decide +kernel)) [some (2, x0)] rfl (Nat.le_of_ble_eq_true rfl) rfl (fun Φ hΦ hR hI => ?_)
  refine ex_aload_n hΦ dX3_init_0 rfl hs.1 ?_
  refine ex_objinit hΦ qw215 qw102 qw103 ⟨by decide, by decide⟩ (Nat.le_of_ble_eq_true rfl) hs.1 dX3_init_1 ?_
  refine ex_aload_n hΦ dX3_init_4 rfl hs.1 ?_
  refine ex_bipush hΦ dX3_init_5 (by decide) ?_
  refine ex_newa1' (q := n0) (n := 8) hΦ h0 rfl (by decide) qw246 (by decide) dX3_init_7 ?_
  have hs1 := So_app (T := [.inr (1, 8)]) hs
  have hs2 := So_last (s := .inr (1, 8)) h0
  have hl3 := len_app' (m := (n0 + 1)) (s := .inr (1, 8)) h0 (by omega)
  refine ex_putaF hΦ fl_X3_9 hs1 rfl hs2.1 hI rfl dX3_init_9 ?_
  refine ex_aload_n hΦ dX3_init_12 rfl hs.1 ?_
  refine ex_bipush hΦ dX3_init_13 (by decide) ?_
  refine ex_newa1' (q := (n0 + 1)) (n := 8) hΦ hl3 rfl (by decide) qw246 (by decide) dX3_init_15 ?_
  have hs4 := So_app (T := [.inr (1, 8)]) hs1
  have hs5 := So_app (T := [.inr (1, 8)]) hs2
  have hs6 := So_last (s := .inr (1, 8)) hl3
  have hl7 := len_app' (m := (n0 + 2)) (s := .inr (1, 8)) hl3 (by omega)
  refine ex_putaF hΦ fl_X3_15 hs4 rfl hs6.1 hI rfl dX3_init_17 ?_
  refine ex_aload_n hΦ dX3_init_20 rfl hs.1 ?_
  refine ex_bipush hΦ dX3_init_21 (by decide) ?_
  refine ex_newa0' (q := (n0 + 2)) (n := 8) hΦ hl7 rfl (by decide) qw209 (by decide) dX3_init_23 ?_
  have hs8 := So_app (T := [.inr (0, 8)]) hs4
  have hs9 := So_app (T := [.inr (0, 8)]) hs5
  have hs10 := So_app (T := [.inr (0, 8)]) hs6
  have hs11 := So_last (s := .inr (0, 8)) hl7
  have hl12 := len_app' (m := (n0 + 3)) (s := .inr (0, 8)) hl7 (by omega)
  refine ex_putaF hΦ fl_X3_18 hs8 rfl hs11.1 hI rfl dX3_init_25 ?_
  refine ex_aload_n hΦ dX3_init_28 rfl hs.1 ?_
  refine ex_callVv [] [(2, x0)] hΦ lkV_X3_22 ⟨by decide, by decide⟩ (Nat.le_of_ble_eq_true rfl) rfl (by decide) 3 (by decide) rfl hs8 dX3_init_29 rfl (c_restAll (Q := fun m => m = (tX3_rest (mu (mz (mu (mz (mu (mz μ n0 (fun _ => 0)) x0 0 n0) (n0 + 1) (fun _ => 0)) x0 1 (n0 + 1)) (n0 + 2) (fun _ => 0)) x0 2 (n0 + 2)) n0 (n0 + 1) x0)) hs8 hs9 hs10 (by simp [mu, mz, show ¬ x0 = n0 by omega, show ¬ x0 = n0 + 1 by omega, show ¬ x0 = n0 + 2 by omega]) (by simp [mu, mz, show ¬ x0 = n0 by omega, show ¬ x0 = n0 + 1 by omega, show ¬ x0 = n0 + 2 by omega]) (by omega) rfl) (fun μ1 hμ1 => ?_)
  subst hμ1
  exact ex_return hΦ hR dX3_init_32 h
