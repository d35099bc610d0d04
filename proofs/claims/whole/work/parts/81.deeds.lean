theorem qw276 : Cond.classLink RX0 9 RX5 ∈ wsT := wsT_of 276 (by decide +kernel) (by rfl)
theorem lkIN_X0_17 : lfIN RX0 17 mX5_init 0 := ⟨⟨(by decide), qw251, qw88, by decide +kernel, by decide +kernel, by decide +kernel⟩, qw250, rfl, rfl⟩
theorem qw275 : Cond.methodLink RX0 3 Lib.objectInit ∈ wsT := wsT_of 275 (by decide +kernel) (by rfl)
/-! the ring of deeds: thirty stands made in a loop -/
def sDe (S : List Sh) : Nat → List Sh
  | 0 => S ++ [.inr (5, 30)]
  | i + 1 => sX5_init (sDe S i ++ [.inl 5])
def tDe (μ : Mem) (x0 n0 : Int) : Nat → Mem
  | 0 => mu (mz μ n0 (fun _ => -1)) x0 0 n0
  | i + 1 => mu (tX5_init (mz (tDe μ x0 n0 i) (n0 + 1 + 2 * i) (mdf 5)) (n0 + 1 + 2 * i) (n0 + 1 + 2 * i + 1)) n0 i (n0 + 1 + 2 * i)
theorem sDe_len {S : List Sh} {n0 : Int} (h0 : (S.length : Int) = n0) : ∀ i : Nat, ((sDe S i).length : Int) = n0 + 1 + 2 * i
  | 0 => by simp only [sDe]; exact len_app' h0 (by simp)
  | i + 1 => by simp only [sDe, sX5_init]; exact len_app' (len_app' (sDe_len h0 i) rfl) (by omega)
theorem sDe_so {S : List Sh} {z : Int} {s : Sh} (h : So S z s) : ∀ i : Nat, So (sDe S i) z s
  | 0 => So_app h
  | i + 1 => So_app (So_app (sDe_so h i))
theorem sDe_ring {S : List Sh} {n0 : Int} (h0 : (S.length : Int) = n0) : ∀ i : Nat, So (sDe S i) n0 (.inr (5, 30))
  | 0 => So_last h0
  | i + 1 => So_app (So_app (sDe_ring h0 i))
theorem tDe_ring {μ : Mem} {x0 n0 : Int} (hlt : x0 < n0) : ∀ i : Nat, tDe μ x0 n0 i x0 0 = n0
  | 0 => by simp [tDe, mu]
  | i + 1 => by
    have := tDe_ring (μ := μ) hlt i
    simp only [tDe, tX5_init]
    rw [mu_row (by omega), mu_row (by omega), mz_ne (by omega), mz_ne (by omega)]
    exact this
theorem kX0_init {G : Gm} {S : List Sh} {μ : Mem} {P : Option AV → List Sh → Mem → Prop} {x0 n0 : Int} (h0 : (S.length : Int) = n0) (hs : So S x0 (.inl 0)) (h : P none (sDe S 30) (tDe μ x0 n0 30)) : Call G mX0_init 61 390 [(2, x0)] S μ P := by
  have hlt := So_lt hs h0
  refine call_ofA (plainFor_of_name (by decide +kernel)) [some (2, x0), none] rfl (Nat.le_of_ble_eq_true rfl) rfl (fun Φ hΦ hR hI => ?_)
  have loop : ∀ d i : Nat, i + d = 30 → Ex G Φ 2 15 [some (2, x0), some (0, (i : Int))] [] (sDe S i) (tDe μ x0 n0 i) (1 + 2 * i) (30 + 12 * i) := by
    intro d
    induction d with
    | zero =>
      intro i hi
      obtain rfl : i = 30 := by omega
      refine ex_iload_n hΦ dX0_init_15 rfl ?_
      refine ex_bipush hΦ dX0_init_16 (by decide) ?_
      refine ex_icmp_ge 40 hΦ dX0_init_18 (by decide) ⟨by decide, by decide⟩ ⟨by decide, by decide⟩ (fun c => ?_) (fun c => absurd (by decide) c)
      exact ex_return hΦ hR dX0_init_40 h
    | succ d ih =>
      intro i hi
      have hl := sDe_len h0 i
      have hsx := sDe_so hs i
      have hring := sDe_ring h0 i
      refine ex_iload_n hΦ dX0_init_15 rfl ?_
      refine ex_bipush hΦ dX0_init_16 (by decide) ?_
      refine ex_icmp_ge 40 hΦ dX0_init_18 (by decide) ⟨by omega, by omega⟩ ⟨by decide, by decide⟩ (fun c => by omega) (fun c => ?_)
      refine ex_aload_n hΦ dX0_init_21 rfl hs.1 ?_
      refine ex_getf hΦ fl_X0_11 hsx dX0_init_22 ?_
      rw [show tDe μ x0 n0 i x0 ((0 : Nat) : Int) = n0 from tDe_ring hlt i]
      refine ex_iload_n hΦ dX0_init_25 rfl ?_
      refine ex_new' (q := n0 + 1 + 2 * i) (ci := 5) hΦ hl (by decide) (by decide) qw276 qw248 qw88 ⟨by omega, by show 30 + 12 * i + 4 ≤ 390; omega⟩ dX0_init_26 ?_
      have hs1 := So_app (T := [.inl 5]) hsx
      have hr1 := So_app (T := [.inl 5]) hring
      have hq1 := So_last (s := .inl 5) hl
      have hl1 := len_app' (m := n0 + 1 + 2 * i + 1) (s := .inl 5) hl rfl
      refine ex_dup hΦ dX0_init_29 (Nat.ne_of_beq_eq_false rfl) ?_
      refine ex_callIN (P' := fun r S' μ' => r = none ∧ S' = sX5_init (sDe S i ++ [.inl 5]) ∧ μ' = tX5_init (mz (tDe μ x0 n0 i) (n0 + 1 + 2 * i) (mdf 5)) (n0 + 1 + 2 * i) (n0 + 1 + 2 * i + 1)) [] [(2, n0 + 1 + 2 * i), (2, n0 + 1 + 2 * i), (0, (i : Int)), (2, n0)] hΦ lkIN_X0_17 ⟨by decide, by decide⟩ (Nat.le_of_ble_eq_true rfl) rfl ⟨by omega, by show 30 + 12 * i + 4 + 8 ≤ 390; omega⟩ hq1.1 dX0_init_30 rfl (kX5_init hl1 hq1 ⟨rfl, rfl, rfl⟩) (fun r S' μ' hp => ?_)
      obtain ⟨rfl, rfl, rfl⟩ := hp
      have hr2 := So_app (T := [.inr (0, 8)]) hr1
      have hq2 := So_app (T := [.inr (0, 8)]) hq1
      refine ex_aast5 hΦ hr2 (by omega) (by omega) (by decide) hq2 dX0_init_33 ?_
      refine ex_iinc (L' := [some (2, x0), some (0, ((i + 1 : Nat) : Int))]) hΦ dX0_init_34 rfl (by decide) rfl ?_
      refine ex_goto 15 hΦ dX0_init_37 (by decide) ?_
      have := ih (i + 1) (by omega)
      rw [show 1 + 2 * (i + 1) = 1 + 2 * i + 1 + 1 by omega, show 30 + 12 * (i + 1) = 30 + 12 * i + 4 + 8 by omega] at this
      exact this
  refine ex_aload_n hΦ dX0_init_0 rfl hs.1 ?_
  refine ex_objinit hΦ qw275 qw102 qw103 ⟨by decide, by decide⟩ (Nat.le_of_ble_eq_true rfl) hs.1 dX0_init_1 ?_
  refine ex_aload_n hΦ dX0_init_4 rfl hs.1 ?_
  refine ex_bipush hΦ dX0_init_5 (by decide) ?_
  refine ex_newq5' (q := n0) (n := 30) hΦ h0 rfl (by decide) qw276 (by decide) dX0_init_7 ?_
  have hs1 := So_app (T := [.inr (5, 30)]) hs
  have hr1 := So_last (s := .inr (5, 30)) h0
  refine ex_putaF hΦ fl_X0_11 hs1 rfl hr1.1 hI rfl dX0_init_10 ?_
  refine ex_iconst hΦ dX0_init_13 ?_
  refine ex_istore_n (L' := [some (2, x0), some (0, 0)]) hΦ dX0_init_14 (by decide) rfl ?_
  exact loop 30 0 rfl
