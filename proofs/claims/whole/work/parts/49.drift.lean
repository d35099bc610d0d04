/-! DRIFT: a seed that goes on, days that pass -/
theorem mand_31 (x : Int) : mand x 2147483647 = x % 2147483648 := by
  have hr : R32 (x % 2147483648) := ⟨by omega, by omega⟩
  have hs : mand x 2147483647 = mand (x % 4294967296 - (if 2147483648 ≤ x % 4294967296 then 4294967296 else 0)) 2147483647 := by
    unfold mand
    have : Int32.ofInt x = Int32.ofInt (x % 4294967296 - (if 2147483648 ≤ x % 4294967296 then 4294967296 else 0)) := by
      apply Int32.toBitVec.inj
      apply BitVec.eq_of_toNat_eq
      simp only [Int32.toBitVec_ofInt, BitVec.toNat_ofInt]
      split <;> omega
    rw [this]
  rw [hs]
  have hy : R32 (x % 4294967296 - (if 2147483648 ≤ x % 4294967296 then 4294967296 else 0)) := by split <;> exact ⟨by omega, by omega⟩
  have e1 : (x % 4294967296 - (if 2147483648 ≤ x % 4294967296 then 4294967296 else 0)) % 2147483648 = x % 2147483648 := by split <;> omega
  rw [← e1]
  generalize (x % 4294967296 - (if 2147483648 ≤ x % 4294967296 then 4294967296 else 0)) = y at hy ⊢
  have hr : R32 (y % 2147483648) := ⟨by omega, by omega⟩
  refine bt_ext (mand_r _ _) hr (fun k hk => ?_)
  rw [bt_mand hy ⟨by decide, by decide⟩ hk, show (2147483647 : Int) = 2 ^ 31 - 1 by decide, bt_p1]
  by_cases c : k < 31
  · rw [if_pos c]
    have : bt_ (y % 2147483648) (k : Int) = bt_ y (k : Int) := by
      have := bt_sub y (2 ^ (30 - k) * (y / 2147483648)) k
      rw [← Int.mul_assoc, ← Int.pow_add, show k + 1 + (30 - k) = 31 by omega, show (2 : Int) ^ 31 = 2147483648 by decide] at this
      rw [← this]
      congr 1
      omega
    rw [this]
    rcases bt_01 (x := y) (k := (k : Int)) with e | e <;> rw [e] <;> simp
  · have : k = 31 := by omega
    subst this
    have z : bt_ (y % 2147483648) ((31 : Nat) : Int) = 0 := bt_lt (n := 31) (by omega) (by rw [show (2 : Int) ^ 31 = 2147483648 by decide]; omega) (Nat.le_refl _)
    rw [if_neg c, z]
    simp
def dr (s : Int) : Int := (s * 1103515245 + 12345) % 2147483648
theorem dr_rg (s : Int) : 0 ≤ dr s ∧ dr s ≤ 2147483647 := by unfold dr; omega
def SD (ν : Mem) (s : Int) : Mem := mu (mu ν 0 12 s) 111 11 s
def DY (ν : Mem) : Mem := mu (mu ν 29 0 (ν 29 0 + 1)) 111 8 (ν 29 0 + 1)
theorem SD_inv {ν : Mem} {s : Int} (h : Inv ν) (hs : 0 ≤ s ∧ s ≤ 2147483647) : Inv (SD ν s) := by
  obtain ⟨wf, iw, ir, inn, idd, ii, il, im⟩ := h
  have hW : wW ν = 3 ∨ wW ν = 12 := iw.1
  have hnW := iw.2.2.1
  have off : ∀ k i, ¬ (k = 0 ∧ i = 12) → ¬ (k = 111 ∧ i = 11) → SD ν s k i = ν k i := fun k i c d => by unfold SD; rw [mu_off2 d, mu_off2 c]
  have sw : Sm (dW (wW ν) (nL ν)) ν (SD ν s) := fun k i d => off k i (by unfold dW at d; omega) (by unfold dW at d; omega)
  have e := SW_of sw
  obtain ⟨i1, i2, i3, i4⟩ := inn
  refine ⟨wf_sm wf (fun k i d => off k i (by unfold dF at d; omega) (by unfold dF at d; omega)), IW_sm iw sw, IR_sm ir (fun k i d => off k i (by unfold dR at d; omega) (by unfold dR at d; omega)), ⟨IS_sm i1 e (off _ _ (by omega) (by omega)) (off _ _ (by omega) (by omega)) (off _ _ (by omega) (by omega)) (fun i h0 h1 => ⟨off _ _ (by omega) (by omega), off _ _ (by omega) (by omega)⟩) (off _ _ (by omega) (by omega)) (off _ _ (by omega) (by omega)) (off _ _ (by omega) (by omega)), ?_⟩, ID_sm idd hnW.2.2 e (fun k i d => off k i (by unfold dD at d; omega) (by unfold dD at d; omega)), II_sm ii hnW.2.2 e (fun k i d => off k i (by unfold dI at d; omega) (by unfold dI at d; omega)), IL_sm il e (fun k i d => off k i (by unfold dL at d; omega) (by unfold dL at d; omega)), IM_sm im e (fun k i d => off k i (by unfold dM at d; omega) (by unfold dM at d; omega))⟩
  unfold SD
  rw [mu_same, mu_off2 (by omega), mu_same]
  exact ⟨rfl, hs⟩
theorem DY_inv {ν : Mem} (h : Inv ν) (hd : ν 29 0 < 910000) : Inv (DY ν) := by
  obtain ⟨wf, iw, ir, inn, idd, ii, il, im⟩ := h
  have hW : wW ν = 3 ∨ wW ν = 12 := iw.1
  have hnW := iw.2.2.1
  have off : ∀ k i, ¬ (k = 29 ∧ i = 0) → ¬ (k = 111 ∧ i = 8) → DY ν k i = ν k i := fun k i c d => by unfold DY; rw [mu_off2 d, mu_off2 c]
  have sw : Sm (dW (wW ν) (nL ν)) ν (DY ν) := fun k i d => off k i (by unfold dW at d; omega) (by unfold dW at d; omega)
  have e := SW_of sw
  obtain ⟨⟨⟨n1, n2, n3⟩, n4, n5, n6⟩, n7⟩ := inn
  have t0 : DY ν 29 0 = ν 29 0 + 1 := by unfold DY; rw [mu_off2 (by omega), mu_same]
  have t8 : DY ν 111 8 = ν 29 0 + 1 := by unfold DY; rw [mu_same]
  refine ⟨wf_sm wf (fun k i d => off k i (by unfold dF at d; omega) (by unfold dF at d; omega)), IW_sm iw sw, IR_sm ir (fun k i d => off k i (by unfold dR at d; omega) (by unfold dR at d; omega)), ⟨⟨⟨t0.trans t8.symm, by rw [off 29 1 (by omega) (by omega), off 111 (0 + 9) (by omega) (by omega)]; exact n2, by rw [off 29 2 (by omega) (by omega), off 111 (0 + 10) (by omega) (by omega)]; exact n3⟩, by rw [t0, off 29 1 (by omega) (by omega)]; omega, by rw [off 29 2 (by omega) (by omega), e.nl]; exact n5, ?_⟩, by rw [off 0 12 (by omega) (by omega), off 111 11 (by omega) (by omega)]; exact n7⟩, ID_sm idd hnW.2.2 e (fun k i d => off k i (by unfold dD at d; omega) (by unfold dD at d; omega)), II_sm ii hnW.2.2 e (fun k i d => off k i (by unfold dI at d; omega) (by unfold dI at d; omega)), IL_sm il e (fun k i d => off k i (by unfold dL at d; omega) (by unfold dL at d; omega)), IM_sm im e (fun k i d => off k i (by unfold dM at d; omega) (by unfold dM at d; omega))⟩
  rw [e.nw, e.w]
  intro i h0 h1
  rw [off (29 + 1) i (by omega) (by omega), off 111 (0 + i) (by omega) (by omega), e.t]
  exact n6 i h0 h1
