/-! what a method that makes nothing answers: an int, a long, nothing -/
def Pi (S : List Sh) (Q : Int → Mem → Prop) : Option AV → List Sh → Mem → Prop := fun r S' μ' => S' = S ∧ ∃ x, r = some (0, x) ∧ Q x μ'
def Pj (S : List Sh) (Q : Int → Mem → Prop) : Option AV → List Sh → Mem → Prop := fun r S' μ' => S' = S ∧ ∃ x, r = some (1, x) ∧ Q x μ'
def Pv (S : List Sh) (Q : Mem → Prop) : Option AV → List Sh → Mem → Prop := fun r S' μ' => S' = S ∧ r = none ∧ Q μ'
def Ci (G : Gm) (M : Md) (as : List AV) (S : List Sh) (μ : Mem) (Q : Int → Mem → Prop) : Prop := Call G M 0 0 as S μ (Pi S Q)
def Cj (G : Gm) (M : Md) (as : List AV) (S : List Sh) (μ : Mem) (Q : Int → Mem → Prop) : Prop := Call G M 0 0 as S μ (Pj S Q)
def Cv (G : Gm) (M : Md) (as : List AV) (S : List Sh) (μ : Mem) (Q : Mem → Prop) : Prop := Call G M 0 0 as S μ (Pv S Q)
/-- z is an array of kind k, i is a place in it -/
def Ai (S : List Sh) (z : Int) (k : Nat) (i : Int) : Prop := ∃ n : Nat, So S z (.inr (k, n)) ∧ 0 ≤ i ∧ i < n ∧ n ≤ 2147483647
def Aj (S : List Sh) (z : Int) (k : Nat) : Prop := ∃ n : Nat, So S z (.inr (k, n))
def aln (S : List Sh) (z : Int) : Int := match S[z.toNat]? with
  | some (.inr (_, n)) => n
  | _ => 0
def Ac (S : List Sh) (z1 sp z2 dp n : Int) : Prop := ∃ n1 n2 : Nat, So S z1 (.inr (0, n1)) ∧ So S z2 (.inr (0, n2)) ∧ 0 ≤ sp ∧ 0 ≤ dp ∧ 0 ≤ n ∧ sp + n ≤ n1 ∧ dp + n ≤ n2 ∧ n1 ≤ 100000 ∧ n2 ≤ 100000
theorem ex_iald' {G : Gm} {Φ : Fr} {cc : ByteArray} {own : String} {nL fr lo mc ms pc : Nat} {L : List (Option AV)} {st : List AV} {S : List Sh} {μ : Mem} {kc ks : Nat} {z i : Int} (hΦ : St G Φ cc own nL fr lo mc ms) (h : Ai S z 0 i) (d : decode cc pc = .ok (.iaload, 1)) (k : Ex G Φ nL (pc + 1) L ((0, μ z i) :: st) S μ kc ks) : Ex G Φ nL pc L ((0, i) :: (2, z) :: st) S μ kc ks := by
  obtain ⟨n, h1, h2, h3, h4⟩ := h
  exact ex_iald hΦ h1 h2 h3 h4 d k
theorem ex_lald' {G : Gm} {Φ : Fr} {cc : ByteArray} {own : String} {nL fr lo mc ms pc : Nat} {L : List (Option AV)} {st : List AV} {S : List Sh} {μ : Mem} {kc ks : Nat} {z i : Int} (hΦ : St G Φ cc own nL fr lo mc ms) (h : Ai S z 1 i) (d : decode cc pc = .ok (.laload, 1)) (k : Ex G Φ nL (pc + 1) L ((1, μ z i) :: st) S μ kc ks) : Ex G Φ nL pc L ((0, i) :: (2, z) :: st) S μ kc ks := by
  obtain ⟨n, h1, h2, h3, h4⟩ := h
  exact ex_lald hΦ h1 h2 h3 h4 d k
theorem ex_cald' {G : Gm} {Φ : Fr} {cc : ByteArray} {own : String} {nL fr lo mc ms pc : Nat} {L : List (Option AV)} {st : List AV} {S : List Sh} {μ : Mem} {kc ks : Nat} {z i : Int} (hΦ : St G Φ cc own nL fr lo mc ms) (h : Ai S z 2 i) (d : decode cc pc = .ok (.caload, 1)) (k : Ex G Φ nL (pc + 1) L ((0, μ z i) :: st) S μ kc ks) : Ex G Φ nL pc L ((0, i) :: (2, z) :: st) S μ kc ks := by
  obtain ⟨n, h1, h2, h3, h4⟩ := h
  exact ex_cald hΦ h1 h2 h3 h4 d k
theorem ex_zald' {G : Gm} {Φ : Fr} {cc : ByteArray} {own : String} {nL fr lo mc ms pc : Nat} {L : List (Option AV)} {st : List AV} {S : List Sh} {μ : Mem} {kc ks : Nat} {z i : Int} (hΦ : St G Φ cc own nL fr lo mc ms) (h : Ai S z 3 i) (d : decode cc pc = .ok (.baload, 1)) (k : Ex G Φ nL (pc + 1) L ((0, μ z i) :: st) S μ kc ks) : Ex G Φ nL pc L ((0, i) :: (2, z) :: st) S μ kc ks := by
  obtain ⟨n, h1, h2, h3, h4⟩ := h
  exact ex_zald hΦ h1 h2 h3 h4 d k
theorem ex_iast' {G : Gm} {Φ : Fr} {cc : ByteArray} {own : String} {nL fr lo mc ms pc : Nat} {L : List (Option AV)} {st : List AV} {S : List Sh} {μ : Mem} {kc ks : Nat} {z i x : Int} (hΦ : St G Φ cc own nL fr lo mc ms) (h : Ai S z 0 i) (d : decode cc pc = .ok (.iastore, 1)) (k : Ex G Φ nL (pc + 1) L st S (mu μ z i x) kc ks) : Ex G Φ nL pc L ((0, x) :: (0, i) :: (2, z) :: st) S μ kc ks := by
  obtain ⟨n, h1, h2, h3, h4⟩ := h
  exact ex_iast hΦ h1 h2 h3 h4 d k
theorem ex_last' {G : Gm} {Φ : Fr} {cc : ByteArray} {own : String} {nL fr lo mc ms pc : Nat} {L : List (Option AV)} {st : List AV} {S : List Sh} {μ : Mem} {kc ks : Nat} {z i x : Int} (hΦ : St G Φ cc own nL fr lo mc ms) (h : Ai S z 1 i) (d : decode cc pc = .ok (.lastore, 1)) (k : Ex G Φ nL (pc + 1) L st S (mu μ z i x) kc ks) : Ex G Φ nL pc L ((1, x) :: (0, i) :: (2, z) :: st) S μ kc ks := by
  obtain ⟨n, h1, h2, h3, h4⟩ := h
  exact ex_last hΦ h1 h2 h3 h4 d k
theorem ex_cast' {G : Gm} {Φ : Fr} {cc : ByteArray} {own : String} {nL fr lo mc ms pc : Nat} {L : List (Option AV)} {st : List AV} {S : List Sh} {μ : Mem} {kc ks : Nat} {z i x : Int} (hΦ : St G Φ cc own nL fr lo mc ms) (h : Ai S z 2 i) (g0 : 0 ≤ x) (g1 : x ≤ 65535) (d : decode cc pc = .ok (.castore, 1)) (k : Ex G Φ nL (pc + 1) L st S (mu μ z i x) kc ks) : Ex G Φ nL pc L ((0, x) :: (0, i) :: (2, z) :: st) S μ kc ks := by
  obtain ⟨n, h1, h2, h3, h4⟩ := h
  exact ex_cast hΦ h1 h2 h3 h4 g0 g1 d k
theorem ex_zast' {G : Gm} {Φ : Fr} {cc : ByteArray} {own : String} {nL fr lo mc ms pc : Nat} {L : List (Option AV)} {st : List AV} {S : List Sh} {μ : Mem} {kc ks : Nat} {z i x : Int} (hΦ : St G Φ cc own nL fr lo mc ms) (h : Ai S z 3 i) (g0 : 0 ≤ x) (g1 : x ≤ 1) (d : decode cc pc = .ok (.bastore, 1)) (k : Ex G Φ nL (pc + 1) L st S (mu μ z i x) kc ks) : Ex G Φ nL pc L ((0, x) :: (0, i) :: (2, z) :: st) S μ kc ks := by
  obtain ⟨n, h1, h2, h3, h4⟩ := h
  exact ex_zast hΦ h1 h2 h3 h4 g0 g1 d k
theorem ex_aald4' {G : Gm} {Φ : Fr} {cc : ByteArray} {own : String} {nL fr lo mc ms pc : Nat} {L : List (Option AV)} {st : List AV} {S : List Sh} {μ : Mem} {kc ks : Nat} {z i : Int} (hΦ : St G Φ cc own nL fr lo mc ms) (h : Ai S z 4 i) (d : decode cc pc = .ok (.aaload, 1)) (k : Ex G Φ nL (pc + 1) L ((2, μ z i) :: st) S μ kc ks) : Ex G Φ nL pc L ((0, i) :: (2, z) :: st) S μ kc ks := by
  obtain ⟨n, h1, h2, h3, h4⟩ := h
  exact ex_aald4 hΦ h1 h2 h3 h4 d k
theorem ex_aald5' {G : Gm} {Φ : Fr} {cc : ByteArray} {own : String} {nL fr lo mc ms pc : Nat} {L : List (Option AV)} {st : List AV} {S : List Sh} {μ : Mem} {kc ks : Nat} {z i : Int} (hΦ : St G Φ cc own nL fr lo mc ms) (h : Ai S z 5 i) (d : decode cc pc = .ok (.aaload, 1)) (k : Ex G Φ nL (pc + 1) L ((2, μ z i) :: st) S μ kc ks) : Ex G Φ nL pc L ((0, i) :: (2, z) :: st) S μ kc ks := by
  obtain ⟨n, h1, h2, h3, h4⟩ := h
  exact ex_aald5 hΦ h1 h2 h3 h4 d k
theorem ex_alen' {G : Gm} {Φ : Fr} {cc : ByteArray} {own : String} {nL fr lo mc ms pc : Nat} {L : List (Option AV)} {st : List AV} {S : List Sh} {μ : Mem} {kc ks : Nat} {k : Nat} {z : Int} (hΦ : St G Φ cc own nL fr lo mc ms) (h : Aj S z k) (hk : k = 0 ∨ k = 1) (d : decode cc pc = .ok (.arraylength, 1)) (k : Ex G Φ nL (pc + 1) L ((0, aln S z) :: st) S μ kc ks) : Ex G Φ nL pc L ((2, z) :: st) S μ kc ks := by
  obtain ⟨n, h1⟩ := h
  refine ex_alen hΦ h1 hk d ?_
  rw [show aln S z = (n : Int) by unfold aln; rw [h1.2]] at k
  exact k
theorem ex_acopy' {G : Gm} {Φ : Fr} {cc : ByteArray} {own : String} {nL fr lo mc ms pc : Nat} {L : List (Option AV)} {st : List AV} {S : List Sh} {μ : Mem} {kc ks : Nat} {idx : Nat} {z1 sp z2 dp n : Int} (hΦ : St G Φ cc own nL fr lo mc ms) (f1 : Cond.methodLink own idx arraycopyName ∈ wsT) (f2 : Cond.native arraycopyName ∈ wsT) (f3 : Cond.static arraycopyName ∈ wsT) (f4 : Cond.initialized "java/lang/System" ∈ wsT) (hrm : 1 ≤ fr ∧ 8 + (nativeFrameWords "java/lang/System" "arraycopy" 5 + 11) ≤ lo) (hsl : st.length ≤ 4) (h : Ac S z1 sp z2 dp n) (d : decode cc pc = .ok (.invokestatic idx, 3)) (k : Ex G Φ nL (pc + 3) L st S (mcpy μ z1 sp z2 dp n) kc ks) : Ex G Φ nL pc L ((0, n) :: (0, dp) :: (2, z2) :: (0, sp) :: (2, z1) :: st) S μ kc ks := by
  obtain ⟨n1, n2, h1, h2, h3, h4, h5, h6, h7, h8, h9⟩ := h
  exact ex_acopy hΦ f1 f2 f3 f4 hrm hsl h1 h2 h3 h4 h5 h6 h7 h8 h9 d k
theorem mand_1 (x : Int) : mand x 1 = x % 2 := by
  unfold mand
  have h1 : (Int32.ofInt x &&& Int32.ofInt 1).toBitVec.toNat = (x % 2).toNat := by
    have e := pk_and (Int32.ofInt x) (m := Int32.ofInt 1) 1 (by decide)
    rw [e, pk_tn (by omega)]
    simp only [Int32.toBitVec_ofInt, BitVec.toNat_ofInt]
    omega
  have h2 : (Int32.ofInt x &&& Int32.ofInt 1) = Int32.ofInt (x % 2) := by
    apply Int32.toBitVec.inj
    apply BitVec.eq_of_toNat_eq
    rw [h1]
    simp only [Int32.toBitVec_ofInt, BitVec.toNat_ofInt]
    omega
  rw [h2]
  exact i32_in ⟨by omega, by omega⟩
theorem ex_iand1 {G : Gm} {Φ : Fr} {cc : ByteArray} {own : String} {nL fr lo mc ms pc : Nat} {L : List (Option AV)} {st : List AV} {S : List Sh} {μ : Mem} {kc ks : Nat} {x : Int} (hΦ : St G Φ cc own nL fr lo mc ms) (d : decode cc pc = .ok (.iand, 1)) (k : Ex G Φ nL (pc + 1) L ((0, x % 2) :: st) S μ kc ks) : Ex G Φ nL pc L ((0, 1) :: (0, x) :: st) S μ kc ks := by
  refine ex_iand hΦ d ?_
  rw [mand_1]
  exact k
theorem ex_forget {G : Gm} {Φ : Fr} {nL pc : Nat} {L L' : List (Option AV)} {st : List AV} {S : List Sh} {μ : Mem} {kc ks : Nat} (is : List Nat) (hL : is.foldl (fun L i => L.set i none) L = L') (k : Ex G Φ nL pc L' st S μ kc ks) : Ex G Φ nL pc L st S μ kc ks := by
  obtain ⟨p, e, R, s, m, args, below, meth, c, Q⟩ := Φ
  intro H locs ls hz hW hS hl
  refine k H locs ls hz hW hS ⟨hl.1, hl.2.1, fun i v hi => hl.2.2 i v ?_⟩
  subst hL
  clear k hl
  revert L
  induction is with
  | nil => exact fun {L} hi => hi
  | cons j t ih =>
    intro L hi
    have h1 := ih hi
    by_cases hj : j = i
    · subst hj
      by_cases hl : j < L.length
      · rw [List.getElem?_set_self hl] at h1
        cases h1
      · rw [List.getElem?_eq_none (by simp; omega)] at h1
        cases h1
    · rw [List.getElem?_set_ne hj] at h1
      exact h1
theorem mcmp_lt {x y : Int} : mcmp x y < 0 ↔ x < y := by
  unfold mcmp
  split
  · omega
  · split <;> omega
theorem mcmp_eq {x y : Int} : mcmp x y = 0 ↔ x = y := by
  unfold mcmp
  split
  · omega
  · split <;> omega
theorem mcmp_gt {x y : Int} : 0 < mcmp x y ↔ y < x := by
  unfold mcmp
  split
  · omega
  · split <;> omega
theorem ex_lif_eq {G : Gm} {Φ : Fr} {cc : ByteArray} {own : String} {nL fr lo mc ms pc : Nat} {L : List (Option AV)} {st : List AV} {S : List Sh} {μ : Mem} {kc ks : Nat} {x y off : Int} (tgt : Nat) (hΦ : St G Φ cc own nL fr lo mc ms) (d : decode cc pc = .ok (.ifCond .eq off, 3)) (ht : (pc : Int) + off = (tgt : Int)) (kt : x = y → Ex G Φ nL tgt L st S μ kc ks) (kf : ¬ (x = y) → Ex G Φ nL (pc + 3) L st S μ kc ks) : Ex G Φ nL pc L ((0, mcmp x y) :: st) S μ kc ks :=
  ex_if_eq tgt hΦ d ht (mcmp_r x y) (fun q => kt (mcmp_eq.mp q)) (fun q => kf (fun z => q (mcmp_eq.mpr z)))
theorem ex_lif_ne {G : Gm} {Φ : Fr} {cc : ByteArray} {own : String} {nL fr lo mc ms pc : Nat} {L : List (Option AV)} {st : List AV} {S : List Sh} {μ : Mem} {kc ks : Nat} {x y off : Int} (tgt : Nat) (hΦ : St G Φ cc own nL fr lo mc ms) (d : decode cc pc = .ok (.ifCond .ne off, 3)) (ht : (pc : Int) + off = (tgt : Int)) (kt : x ≠ y → Ex G Φ nL tgt L st S μ kc ks) (kf : x = y → Ex G Φ nL (pc + 3) L st S μ kc ks) : Ex G Φ nL pc L ((0, mcmp x y) :: st) S μ kc ks :=
  ex_if_ne tgt hΦ d ht (mcmp_r x y) (fun q => kt (fun z => q (mcmp_eq.mpr z))) (fun q => kf (mcmp_eq.mp q))
theorem ex_lif_lt {G : Gm} {Φ : Fr} {cc : ByteArray} {own : String} {nL fr lo mc ms pc : Nat} {L : List (Option AV)} {st : List AV} {S : List Sh} {μ : Mem} {kc ks : Nat} {x y off : Int} (tgt : Nat) (hΦ : St G Φ cc own nL fr lo mc ms) (d : decode cc pc = .ok (.ifCond .lt off, 3)) (ht : (pc : Int) + off = (tgt : Int)) (kt : x < y → Ex G Φ nL tgt L st S μ kc ks) (kf : ¬ (x < y) → Ex G Φ nL (pc + 3) L st S μ kc ks) : Ex G Φ nL pc L ((0, mcmp x y) :: st) S μ kc ks :=
  ex_if_lt tgt hΦ d ht (mcmp_r x y) (fun q => kt (mcmp_lt.mp q)) (fun q => kf (fun z => q (mcmp_lt.mpr z)))
theorem ex_lif_ge {G : Gm} {Φ : Fr} {cc : ByteArray} {own : String} {nL fr lo mc ms pc : Nat} {L : List (Option AV)} {st : List AV} {S : List Sh} {μ : Mem} {kc ks : Nat} {x y off : Int} (tgt : Nat) (hΦ : St G Φ cc own nL fr lo mc ms) (d : decode cc pc = .ok (.ifCond .ge off, 3)) (ht : (pc : Int) + off = (tgt : Int)) (kt : y ≤ x → Ex G Φ nL tgt L st S μ kc ks) (kf : ¬ (y ≤ x) → Ex G Φ nL (pc + 3) L st S μ kc ks) : Ex G Φ nL pc L ((0, mcmp x y) :: st) S μ kc ks :=
  ex_if_ge tgt hΦ d ht (mcmp_r x y) (fun q => kt (by have := mcmp_lt (x := x) (y := y); omega)) (fun q => kf (by have := mcmp_lt (x := x) (y := y); omega))
theorem ex_lif_gt {G : Gm} {Φ : Fr} {cc : ByteArray} {own : String} {nL fr lo mc ms pc : Nat} {L : List (Option AV)} {st : List AV} {S : List Sh} {μ : Mem} {kc ks : Nat} {x y off : Int} (tgt : Nat) (hΦ : St G Φ cc own nL fr lo mc ms) (d : decode cc pc = .ok (.ifCond .gt off, 3)) (ht : (pc : Int) + off = (tgt : Int)) (kt : y < x → Ex G Φ nL tgt L st S μ kc ks) (kf : ¬ (y < x) → Ex G Φ nL (pc + 3) L st S μ kc ks) : Ex G Φ nL pc L ((0, mcmp x y) :: st) S μ kc ks :=
  ex_if_gt tgt hΦ d ht (mcmp_r x y) (fun q => kt (mcmp_gt.mp q)) (fun q => kf (fun z => q (mcmp_gt.mpr z)))
theorem ex_lif_le {G : Gm} {Φ : Fr} {cc : ByteArray} {own : String} {nL fr lo mc ms pc : Nat} {L : List (Option AV)} {st : List AV} {S : List Sh} {μ : Mem} {kc ks : Nat} {x y off : Int} (tgt : Nat) (hΦ : St G Φ cc own nL fr lo mc ms) (d : decode cc pc = .ok (.ifCond .le off, 3)) (ht : (pc : Int) + off = (tgt : Int)) (kt : x ≤ y → Ex G Φ nL tgt L st S μ kc ks) (kf : ¬ (x ≤ y) → Ex G Φ nL (pc + 3) L st S μ kc ks) : Ex G Φ nL pc L ((0, mcmp x y) :: st) S μ kc ks :=
  ex_if_le tgt hΦ d ht (mcmp_r x y) (fun q => kt (by have := mcmp_gt (x := x) (y := y); omega)) (fun q => kf (by have := mcmp_gt (x := x) (y := y); omega))
theorem lookup_else (x d : Int) (l : List (Int × Int)) (h : ∀ q ∈ l, ¬ x = q.1) : Op.lookupswitch.offset l d x = d := by
  induction l with
  | nil => rfl
  | cons q t ih =>
    obtain ⟨a, o⟩ := q
    rw [Op.lookupswitch.offset_cons, if_neg (fun e => h (a, o) List.mem_cons_self e.symm)]
    exact ih (fun q hq => h q (List.mem_cons_of_mem _ hq))
theorem ex_returni {G : Gm} {Φ : Fr} {cc : ByteArray} {own : String} {nL fr lo pc : Nat} {L : List (Option AV)} {S : List Sh} {μ : Mem} {Q : Int → Mem → Prop} {x : Int} (hΦ : St G Φ cc own nL fr lo 0 0) (hR : Rt G Φ (Pi S Q) 0 0 (some .int)) (d : decode cc pc = .ok (.ireturn, 1)) (h : Q x μ) : Ex G Φ nL pc L [(0, x)] S μ 0 0 := ex_ireturn hΦ hR d ⟨rfl, x, rfl, h⟩
theorem ex_returnz {G : Gm} {Φ : Fr} {cc : ByteArray} {own : String} {nL fr lo pc : Nat} {L : List (Option AV)} {S : List Sh} {μ : Mem} {Q : Int → Mem → Prop} {x : Int} (hΦ : St G Φ cc own nL fr lo 0 0) (hR : Rt G Φ (Pi S Q) 0 0 (some .boolean)) (h0 : 0 ≤ x) (h1 : x ≤ 1) (d : decode cc pc = .ok (.ireturn, 1)) (h : Q x μ) : Ex G Φ nL pc L [(0, x)] S μ 0 0 := ex_zreturn hΦ hR h0 h1 d ⟨rfl, x, rfl, h⟩
theorem ex_returnj {G : Gm} {Φ : Fr} {cc : ByteArray} {own : String} {nL fr lo pc : Nat} {L : List (Option AV)} {S : List Sh} {μ : Mem} {Q : Int → Mem → Prop} {x : Int} (hΦ : St G Φ cc own nL fr lo 0 0) (hR : Rt G Φ (Pj S Q) 0 0 (some .long)) (d : decode cc pc = .ok (.lreturn, 1)) (h : Q x μ) : Ex G Φ nL pc L [(1, x)] S μ 0 0 := ex_lreturn hΦ hR d ⟨rfl, x, rfl, h⟩
theorem ex_returnv {G : Gm} {Φ : Fr} {cc : ByteArray} {own : String} {nL fr lo pc : Nat} {L : List (Option AV)} {S : List Sh} {μ : Mem} {Q : Mem → Prop} (hΦ : St G Φ cc own nL fr lo 0 0) (hR : Rt G Φ (Pv S Q) 0 0 none) (d : decode cc pc = .ok (.return_, 1)) (h : Q μ) : Ex G Φ nL pc L [] S μ 0 0 := ex_return hΦ hR d ⟨rfl, rfl, h⟩
theorem ex_callVi {G : Gm} {Φ : Fr} {cc : ByteArray} {own : String} {nL fr lo mc ms pc : Nat} {L : List (Option AV)} {st : List AV} {S : List Sh} {μ : Mem} {kc ks : Nat} {idx n : Nat} {M : Md} {Q : Int → Mem → Prop} {z : Int} (as stk : List AV) (hΦ : St G Φ cc own nL fr lo mc ms) (f : lfV own idx M n) (hrm : rmF M fr lo) (hsl : st.length ≤ 4) (hal : as.length = n) (hroom : kc + 0 ≤ mc ∧ ks + 0 ≤ ms) (ci : Nat) (hci : ci < 9) (hcl : M.1.cls = mC ci) (hz' : So S z (.inl ci)) (d : decode cc pc = .ok (.invokevirtual idx, 3)) (hst : stk = as.reverse ++ (2, z) :: st) (h : Ci G M ((2, z) :: as) S μ Q) (k : ∀ (r : Int) (μ1 : Mem), Q r μ1 → Ex G Φ nL (pc + 3) L ((0, r) :: st) S μ1 kc ks) : Ex G Φ nL pc L stk S μ kc ks := by
  refine ex_callV as stk hΦ f hrm hsl hal hroom ci hci hcl hz' d hst h (fun r S' μ' hP => ?_)
  obtain ⟨rfl, x, rfl, hQ⟩ := hP
  exact k x μ' hQ
theorem ex_callVj {G : Gm} {Φ : Fr} {cc : ByteArray} {own : String} {nL fr lo mc ms pc : Nat} {L : List (Option AV)} {st : List AV} {S : List Sh} {μ : Mem} {kc ks : Nat} {idx n : Nat} {M : Md} {Q : Int → Mem → Prop} {z : Int} (as stk : List AV) (hΦ : St G Φ cc own nL fr lo mc ms) (f : lfV own idx M n) (hrm : rmF M fr lo) (hsl : st.length ≤ 4) (hal : as.length = n) (hroom : kc + 0 ≤ mc ∧ ks + 0 ≤ ms) (ci : Nat) (hci : ci < 9) (hcl : M.1.cls = mC ci) (hz' : So S z (.inl ci)) (d : decode cc pc = .ok (.invokevirtual idx, 3)) (hst : stk = as.reverse ++ (2, z) :: st) (h : Cj G M ((2, z) :: as) S μ Q) (k : ∀ (r : Int) (μ1 : Mem), Q r μ1 → Ex G Φ nL (pc + 3) L ((1, r) :: st) S μ1 kc ks) : Ex G Φ nL pc L stk S μ kc ks := by
  refine ex_callV as stk hΦ f hrm hsl hal hroom ci hci hcl hz' d hst h (fun r S' μ' hP => ?_)
  obtain ⟨rfl, x, rfl, hQ⟩ := hP
  exact k x μ' hQ
theorem ex_callVv {G : Gm} {Φ : Fr} {cc : ByteArray} {own : String} {nL fr lo mc ms pc : Nat} {L : List (Option AV)} {st : List AV} {S : List Sh} {μ : Mem} {kc ks : Nat} {idx n : Nat} {M : Md} {Q : Mem → Prop} {z : Int} (as stk : List AV) (hΦ : St G Φ cc own nL fr lo mc ms) (f : lfV own idx M n) (hrm : rmF M fr lo) (hsl : st.length ≤ 4) (hal : as.length = n) (hroom : kc + 0 ≤ mc ∧ ks + 0 ≤ ms) (ci : Nat) (hci : ci < 9) (hcl : M.1.cls = mC ci) (hz' : So S z (.inl ci)) (d : decode cc pc = .ok (.invokevirtual idx, 3)) (hst : stk = as.reverse ++ (2, z) :: st) (h : Cv G M ((2, z) :: as) S μ Q) (k : ∀ (μ1 : Mem), Q μ1 → Ex G Φ nL (pc + 3) L (st) S μ1 kc ks) : Ex G Φ nL pc L stk S μ kc ks := by
  refine ex_callV as stk hΦ f hrm hsl hal hroom ci hci hcl hz' d hst h (fun r S' μ' hP => ?_)
  obtain ⟨rfl, rfl, hQ⟩ := hP
  exact k μ' hQ
theorem ex_callSi {G : Gm} {Φ : Fr} {cc : ByteArray} {own : String} {nL fr lo mc ms pc : Nat} {L : List (Option AV)} {st : List AV} {S : List Sh} {μ : Mem} {kc ks : Nat} {idx n : Nat} {M : Md} {Q : Int → Mem → Prop} (as stk : List AV) (hΦ : St G Φ cc own nL fr lo mc ms) (f : lfS own idx M n) (hrm : rmF M fr lo) (hsl : st.length ≤ 4) (hal : as.length = n) (hroom : kc + 0 ≤ mc ∧ ks + 0 ≤ ms) (d : decode cc pc = .ok (.invokestatic idx, 3)) (hst : stk = as.reverse ++ st) (h : Ci G M as S μ Q) (k : ∀ (r : Int) (μ1 : Mem), Q r μ1 → Ex G Φ nL (pc + 3) L ((0, r) :: st) S μ1 kc ks) : Ex G Φ nL pc L stk S μ kc ks := by
  refine ex_callS as stk hΦ f hrm hsl hal hroom d hst h (fun r S' μ' hP => ?_)
  obtain ⟨rfl, x, rfl, hQ⟩ := hP
  exact k x μ' hQ
theorem ex_callSj {G : Gm} {Φ : Fr} {cc : ByteArray} {own : String} {nL fr lo mc ms pc : Nat} {L : List (Option AV)} {st : List AV} {S : List Sh} {μ : Mem} {kc ks : Nat} {idx n : Nat} {M : Md} {Q : Int → Mem → Prop} (as stk : List AV) (hΦ : St G Φ cc own nL fr lo mc ms) (f : lfS own idx M n) (hrm : rmF M fr lo) (hsl : st.length ≤ 4) (hal : as.length = n) (hroom : kc + 0 ≤ mc ∧ ks + 0 ≤ ms) (d : decode cc pc = .ok (.invokestatic idx, 3)) (hst : stk = as.reverse ++ st) (h : Cj G M as S μ Q) (k : ∀ (r : Int) (μ1 : Mem), Q r μ1 → Ex G Φ nL (pc + 3) L ((1, r) :: st) S μ1 kc ks) : Ex G Φ nL pc L stk S μ kc ks := by
  refine ex_callS as stk hΦ f hrm hsl hal hroom d hst h (fun r S' μ' hP => ?_)
  obtain ⟨rfl, x, rfl, hQ⟩ := hP
  exact k x μ' hQ
theorem ex_callSv {G : Gm} {Φ : Fr} {cc : ByteArray} {own : String} {nL fr lo mc ms pc : Nat} {L : List (Option AV)} {st : List AV} {S : List Sh} {μ : Mem} {kc ks : Nat} {idx n : Nat} {M : Md} {Q : Mem → Prop} (as stk : List AV) (hΦ : St G Φ cc own nL fr lo mc ms) (f : lfS own idx M n) (hrm : rmF M fr lo) (hsl : st.length ≤ 4) (hal : as.length = n) (hroom : kc + 0 ≤ mc ∧ ks + 0 ≤ ms) (d : decode cc pc = .ok (.invokestatic idx, 3)) (hst : stk = as.reverse ++ st) (h : Cv G M as S μ Q) (k : ∀ (μ1 : Mem), Q μ1 → Ex G Φ nL (pc + 3) L (st) S μ1 kc ks) : Ex G Φ nL pc L stk S μ kc ks := by
  refine ex_callS as stk hΦ f hrm hsl hal hroom d hst h (fun r S' μ' hP => ?_)
  obtain ⟨rfl, rfl, hQ⟩ := hP
  exact k μ' hQ
theorem ex_callSNi {G : Gm} {Φ : Fr} {cc : ByteArray} {own : String} {nL fr lo mc ms pc : Nat} {L : List (Option AV)} {st : List AV} {S : List Sh} {μ : Mem} {kc ks : Nat} {idx n : Nat} {M : Md} {Q : Int → Mem → Prop} (as stk : List AV) (hΦ : St G Φ cc own nL fr lo mc ms) (f : lfSN own idx M n) (hrm : rmF M fr lo) (hsl : st.length ≤ 4) (hal : as.length = n) (hroom : kc + 0 ≤ mc ∧ ks + 0 ≤ ms) (d : decode cc pc = .ok (.invokestatic idx, 3)) (hst : stk = as.reverse ++ st) (h : Ci G M as S μ Q) (k : ∀ (r : Int) (μ1 : Mem), Q r μ1 → Ex G Φ nL (pc + 3) L ((0, r) :: st) S μ1 kc ks) : Ex G Φ nL pc L stk S μ kc ks := by
  refine ex_callSN as stk hΦ f hrm hsl hal hroom d hst h (fun r S' μ' hP => ?_)
  obtain ⟨rfl, x, rfl, hQ⟩ := hP
  exact k x μ' hQ
theorem ex_callSNj {G : Gm} {Φ : Fr} {cc : ByteArray} {own : String} {nL fr lo mc ms pc : Nat} {L : List (Option AV)} {st : List AV} {S : List Sh} {μ : Mem} {kc ks : Nat} {idx n : Nat} {M : Md} {Q : Int → Mem → Prop} (as stk : List AV) (hΦ : St G Φ cc own nL fr lo mc ms) (f : lfSN own idx M n) (hrm : rmF M fr lo) (hsl : st.length ≤ 4) (hal : as.length = n) (hroom : kc + 0 ≤ mc ∧ ks + 0 ≤ ms) (d : decode cc pc = .ok (.invokestatic idx, 3)) (hst : stk = as.reverse ++ st) (h : Cj G M as S μ Q) (k : ∀ (r : Int) (μ1 : Mem), Q r μ1 → Ex G Φ nL (pc + 3) L ((1, r) :: st) S μ1 kc ks) : Ex G Φ nL pc L stk S μ kc ks := by
  refine ex_callSN as stk hΦ f hrm hsl hal hroom d hst h (fun r S' μ' hP => ?_)
  obtain ⟨rfl, x, rfl, hQ⟩ := hP
  exact k x μ' hQ
theorem ex_callSNv {G : Gm} {Φ : Fr} {cc : ByteArray} {own : String} {nL fr lo mc ms pc : Nat} {L : List (Option AV)} {st : List AV} {S : List Sh} {μ : Mem} {kc ks : Nat} {idx n : Nat} {M : Md} {Q : Mem → Prop} (as stk : List AV) (hΦ : St G Φ cc own nL fr lo mc ms) (f : lfSN own idx M n) (hrm : rmF M fr lo) (hsl : st.length ≤ 4) (hal : as.length = n) (hroom : kc + 0 ≤ mc ∧ ks + 0 ≤ ms) (d : decode cc pc = .ok (.invokestatic idx, 3)) (hst : stk = as.reverse ++ st) (h : Cv G M as S μ Q) (k : ∀ (μ1 : Mem), Q μ1 → Ex G Φ nL (pc + 3) L (st) S μ1 kc ks) : Ex G Φ nL pc L stk S μ kc ks := by
  refine ex_callSN as stk hΦ f hrm hsl hal hroom d hst h (fun r S' μ' hP => ?_)
  obtain ⟨rfl, rfl, hQ⟩ := hP
  exact k μ' hQ
theorem lent_sl {G : Gm} : ∀ as : List AV, (lg_sl (as.map (mv G))).length = (lent as).length
  | [] => rfl
  | (1, x) :: t => by
    have := lent_sl (G := G) t
    simp only [lg_sl, lent, List.map_cons, List.flatMap_cons, List.length_append, List.length_cons] at this ⊢
    rw [if_pos (show (mv G (1, x)).category = 2 from rfl)]
    simp only [List.length_cons, List.length_nil]
    omega
  | (0, x) :: t => by
    have := lent_sl (G := G) t
    simp only [lg_sl, lent, List.map_cons, List.flatMap_cons, List.length_append, List.length_cons] at this ⊢
    rw [if_neg (show ¬ (mv G (0, x)).category = 2 from (by decide : ¬ (1 : Nat) = 2))]
    simp only [List.length_cons, List.length_nil]
    omega
  | (k + 2, x) :: t => by
    have := lent_sl (G := G) t
    have hc : (mv G (k + 2, x)).category = 1 := mv_cat1 (by simp)
    simp only [lg_sl, lent, List.map_cons, List.flatMap_cons, List.length_append, List.length_cons] at this ⊢
    rw [if_neg (by omega : ¬ (mv G (k + 2, x)).category = 2)]
    simp only [List.length_cons, List.length_nil]
    omega
theorem call_of' {G : Gm} {M : Md} {as : List AV} {S : List Sh} {μ : Mem} {P : Option AV → List Sh → Mem → Prop} (hy : plainFor M.1 = true) (L0 : List (Option AV)) (hL0 : lent as ++ List.replicate (M.2.2.1 - (lent as).length) none = L0) (hL : (lent as).length ≤ M.2.2.1)
    (h : ∀ Φ : Fr, St G Φ M.2.1 M.1.cls M.2.2.1 M.2.2.2.2.1 M.2.2.2.2.2 0 0 → Rt G Φ P 0 0 M.2.2.2.1 → Ex G Φ M.2.2.1 0 L0 [] S μ 0 0) : Call G M 0 0 as S μ P :=
  call_of hy hL (by rw [lent_sl]; exact hL) (fun Φ h1 h2 _ => by rw [hL0]; exact h Φ h1 h2) trivial
theorem call_ofA {G : Gm} {M : Md} {mc ms : Nat} {as : List AV} {S : List Sh} {μ : Mem} {P : Option AV → List Sh → Mem → Prop} (hy : plainFor M.1 = true) (L0 : List (Option AV)) (hL0 : lent as ++ List.replicate (M.2.2.1 - (lent as).length) none = L0) (hL : (lent as).length ≤ M.2.2.1) (hi : M.1.name = "<init>")
    (h : ∀ Φ : Fr, St G Φ M.2.1 M.1.cls M.2.2.1 M.2.2.2.2.1 M.2.2.2.2.2 mc ms → Rt G Φ P mc ms M.2.2.2.1 → Ini Φ → Ex G Φ M.2.2.1 0 L0 [] S μ 0 0) : Call G M mc ms as S μ P :=
  call_of hy hL (by rw [lent_sl]; exact hL) (fun Φ h1 h2 h3 => by rw [hL0]; exact h Φ h1 h2 (h3 hi)) trivial
theorem So_app {S T : List Sh} {z : Int} {s : Sh} (h : So S z s) : So (S ++ T) z s := ⟨h.1, by rw [List.getElem?_append_left (List.getElem?_eq_some_iff.mp h.2).1]; exact h.2⟩
theorem So_last {S : List Sh} {n : Int} {s : Sh} (h : (S.length : Int) = n) : So (S ++ [s]) n s := ⟨by omega, by rw [← h, Int.toNat_natCast]; simp⟩
theorem len_app {S : List Sh} {n : Int} {s : Sh} (h : (S.length : Int) = n) : ((S ++ [s]).length : Int) = n + 1 := by rw [List.length_append]; simp only [List.length_cons, List.length_nil]; omega
theorem len_app' {S : List Sh} {n m : Int} {s : Sh} (h : (S.length : Int) = n) (e : n + 1 = m) : ((S ++ [s]).length : Int) = m := (len_app h).trans e
theorem ex_new' {G : Gm} {Φ : Fr} {cc : ByteArray} {own : String} {nL fr lo mc ms pc : Nat} {L : List (Option AV)} {st : List AV} {S : List Sh} {μ : Mem} {kc ks : Nat} {idx ci : Nat} {q : Int} (hΦ : St G Φ cc own nL fr lo mc ms) (hq : (S.length : Int) = q) (hci : ci < 9) (hpl : (List.range (mN ci)).all (fun j => fplain (mty ci j)) = true) (f1 : Cond.classLink own idx (mC ci) ∈ wsT) (f2 : Cond.instantiable (mC ci) (mN ci) ∈ wsT) (f3 : Cond.initialized (mC ci) ∈ wsT) (hroom : kc + 1 ≤ mc ∧ ks + mN ci ≤ ms) (d : decode cc pc = .ok (.new idx, 3)) (k : Ex G Φ nL (pc + 3) L ((2, q) :: st) (S ++ [.inl ci]) (mz μ q (mdf ci)) (kc + 1) (ks + mN ci)) : Ex G Φ nL pc L st S μ kc ks := by
  subst hq
  exact ex_new hΦ hci hpl f1 f2 f3 hroom d k
theorem ex_newa0' {G : Gm} {Φ : Fr} {cc : ByteArray} {own : String} {nL fr lo mc ms pc : Nat} {L : List (Option AV)} {st : List AV} {S : List Sh} {μ : Mem} {kc ks : Nat} {n : Nat} {x q : Int} (hΦ : St G Φ cc own nL fr lo mc ms) (hq : (S.length : Int) = q) (hn : x = n) (hle : n ≤ 100000) (f1 : Cond.arrayClass .int ∈ wsT) (hroom : kc + 1 ≤ mc ∧ ks + n ≤ ms) (d : decode cc pc = .ok (.newarray .int, 2)) (k : Ex G Φ nL (pc + 2) L ((2, q) :: st) (S ++ [.inr (0, n)]) (mz μ q (fun _ => 0)) (kc + 1) (ks + n)) : Ex G Φ nL pc L ((0, x) :: st) S μ kc ks := by
  subst hq
  exact ex_newa0 hΦ hn hle f1 hroom d k
theorem ex_newa1' {G : Gm} {Φ : Fr} {cc : ByteArray} {own : String} {nL fr lo mc ms pc : Nat} {L : List (Option AV)} {st : List AV} {S : List Sh} {μ : Mem} {kc ks : Nat} {n : Nat} {x q : Int} (hΦ : St G Φ cc own nL fr lo mc ms) (hq : (S.length : Int) = q) (hn : x = n) (hle : n ≤ 100000) (f1 : Cond.arrayClass .long ∈ wsT) (hroom : kc + 1 ≤ mc ∧ ks + n ≤ ms) (d : decode cc pc = .ok (.newarray .long, 2)) (k : Ex G Φ nL (pc + 2) L ((2, q) :: st) (S ++ [.inr (1, n)]) (mz μ q (fun _ => 0)) (kc + 1) (ks + n)) : Ex G Φ nL pc L ((0, x) :: st) S μ kc ks := by
  subst hq
  exact ex_newa1 hΦ hn hle f1 hroom d k
theorem ex_newa2' {G : Gm} {Φ : Fr} {cc : ByteArray} {own : String} {nL fr lo mc ms pc : Nat} {L : List (Option AV)} {st : List AV} {S : List Sh} {μ : Mem} {kc ks : Nat} {n : Nat} {x q : Int} (hΦ : St G Φ cc own nL fr lo mc ms) (hq : (S.length : Int) = q) (hn : x = n) (hle : n ≤ 100000) (f1 : Cond.arrayClass .char ∈ wsT) (hroom : kc + 1 ≤ mc ∧ ks + n ≤ ms) (d : decode cc pc = .ok (.newarray .char, 2)) (k : Ex G Φ nL (pc + 2) L ((2, q) :: st) (S ++ [.inr (2, n)]) (mz μ q (fun _ => 0)) (kc + 1) (ks + n)) : Ex G Φ nL pc L ((0, x) :: st) S μ kc ks := by
  subst hq
  exact ex_newa2 hΦ hn hle f1 hroom d k
theorem ex_newa3' {G : Gm} {Φ : Fr} {cc : ByteArray} {own : String} {nL fr lo mc ms pc : Nat} {L : List (Option AV)} {st : List AV} {S : List Sh} {μ : Mem} {kc ks : Nat} {n : Nat} {x q : Int} (hΦ : St G Φ cc own nL fr lo mc ms) (hq : (S.length : Int) = q) (hn : x = n) (hle : n ≤ 100000) (f1 : Cond.arrayClass .boolean ∈ wsT) (hroom : kc + 1 ≤ mc ∧ ks + n ≤ ms) (d : decode cc pc = .ok (.newarray .boolean, 2)) (k : Ex G Φ nL (pc + 2) L ((2, q) :: st) (S ++ [.inr (3, n)]) (mz μ q (fun _ => 0)) (kc + 1) (ks + n)) : Ex G Φ nL pc L ((0, x) :: st) S μ kc ks := by
  subst hq
  exact ex_newa3 hΦ hn hle f1 hroom d k
theorem ex_newq4' {G : Gm} {Φ : Fr} {cc : ByteArray} {own : String} {nL fr lo mc ms pc : Nat} {L : List (Option AV)} {st : List AV} {S : List Sh} {μ : Mem} {kc ks : Nat} {n idx : Nat} {x q : Int} (hΦ : St G Φ cc own nL fr lo mc ms) (hq : (S.length : Int) = q) (hn : x = n) (hle : n ≤ 100000) (f1 : Cond.classLink own idx "CogFamily$Image" ∈ wsT) (hroom : kc + 1 ≤ mc ∧ ks + n ≤ ms) (d : decode cc pc = .ok (.anewarray idx, 3)) (k : Ex G Φ nL (pc + 3) L ((2, q) :: st) (S ++ [.inr (4, n)]) (mz μ q (fun _ => -1)) (kc + 1) (ks + n)) : Ex G Φ nL pc L ((0, x) :: st) S μ kc ks := by
  subst hq
  exact ex_newq4 hΦ hn hle f1 hroom d k
theorem ex_newq5' {G : Gm} {Φ : Fr} {cc : ByteArray} {own : String} {nL fr lo mc ms pc : Nat} {L : List (Option AV)} {st : List AV} {S : List Sh} {μ : Mem} {kc ks : Nat} {n idx : Nat} {x q : Int} (hΦ : St G Φ cc own nL fr lo mc ms) (hq : (S.length : Int) = q) (hn : x = n) (hle : n ≤ 100000) (f1 : Cond.classLink own idx "CogFamily$Stand" ∈ wsT) (hroom : kc + 1 ≤ mc ∧ ks + n ≤ ms) (d : decode cc pc = .ok (.anewarray idx, 3)) (k : Ex G Φ nL (pc + 3) L ((2, q) :: st) (S ++ [.inr (5, n)]) (mz μ q (fun _ => -1)) (kc + 1) (ks + n)) : Ex G Φ nL pc L ((0, x) :: st) S μ kc ks := by
  subst hq
  exact ex_newq5 hΦ hn hle f1 hroom d k
theorem ex_putf' {G : Gm} {Φ : Fr} {cc : ByteArray} {own : String} {nL fr lo mc ms pc : Nat} {L : List (Option AV)} {st : List AV} {S : List Sh} {μ : Mem} {kc ks : Nat} {μ' : Mem} {idx ci j : Nat} {z x : Int} (hΦ : St G Φ cc own nL fr lo mc ms) (f : FL own idx ci j 0) (hz' : So S z (.inl ci)) (hfin : (mT ci j).2.2.2 = false) (hty : mty ci j = .int) (d : decode cc pc = .ok (.putfield idx, 3)) (hμ : μ' = mu μ z j x) (k : Ex G Φ nL (pc + 3) L st S μ' kc ks) : Ex G Φ nL pc L ((0, x) :: (2, z) :: st) S μ kc ks := by
  subst hμ
  exact ex_putf hΦ f hz' hfin hty d k
theorem ex_putz' {G : Gm} {Φ : Fr} {cc : ByteArray} {own : String} {nL fr lo mc ms pc : Nat} {L : List (Option AV)} {st : List AV} {S : List Sh} {μ : Mem} {kc ks : Nat} {μ' : Mem} {idx ci j : Nat} {z x : Int} (hΦ : St G Φ cc own nL fr lo mc ms) (f : FL own idx ci j 0) (hz' : So S z (.inl ci)) (hfin : (mT ci j).2.2.2 = false) (hty : mty ci j = .boolean) (g0 : 0 ≤ x) (g1 : x ≤ 1) (d : decode cc pc = .ok (.putfield idx, 3)) (hμ : μ' = mu μ z j x) (k : Ex G Φ nL (pc + 3) L st S μ' kc ks) : Ex G Φ nL pc L ((0, x) :: (2, z) :: st) S μ kc ks := by
  subst hμ
  exact ex_putz hΦ f hz' hfin hty g0 g1 d k
theorem ex_puta' {G : Gm} {Φ : Fr} {cc : ByteArray} {own : String} {nL fr lo mc ms pc : Nat} {L : List (Option AV)} {st : List AV} {S : List Sh} {μ : Mem} {kc ks : Nat} {μ' : Mem} {idx ci j : Nat} {z x : Int} (hΦ : St G Φ cc own nL fr lo mc ms) (f : FL own idx ci j 2) (hz' : So S z (.inl ci)) (hfin : (mT ci j).2.2.2 = false) (h0 : 0 ≤ x) (d : decode cc pc = .ok (.putfield idx, 3)) (hμ : μ' = mu μ z j x) (k : Ex G Φ nL (pc + 3) L st S μ' kc ks) : Ex G Φ nL pc L ((2, x) :: (2, z) :: st) S μ kc ks := by
  subst hμ
  exact ex_puta hΦ f hz' hfin h0 d k
theorem ex_iast'' {G : Gm} {Φ : Fr} {cc : ByteArray} {own : String} {nL fr lo mc ms pc : Nat} {L : List (Option AV)} {st : List AV} {S : List Sh} {μ : Mem} {kc ks : Nat} {μ' : Mem} {z i x : Int} (hΦ : St G Φ cc own nL fr lo mc ms) (h : Ai S z 0 i) (d : decode cc pc = .ok (.iastore, 1)) (hμ : μ' = mu μ z i x) (k : Ex G Φ nL (pc + 1) L st S μ' kc ks) : Ex G Φ nL pc L ((0, x) :: (0, i) :: (2, z) :: st) S μ kc ks := by
  subst hμ
  exact ex_iast' hΦ h d k
theorem ex_last'' {G : Gm} {Φ : Fr} {cc : ByteArray} {own : String} {nL fr lo mc ms pc : Nat} {L : List (Option AV)} {st : List AV} {S : List Sh} {μ : Mem} {kc ks : Nat} {μ' : Mem} {z i x : Int} (hΦ : St G Φ cc own nL fr lo mc ms) (h : Ai S z 1 i) (d : decode cc pc = .ok (.lastore, 1)) (hμ : μ' = mu μ z i x) (k : Ex G Φ nL (pc + 1) L st S μ' kc ks) : Ex G Φ nL pc L ((1, x) :: (0, i) :: (2, z) :: st) S μ kc ks := by
  subst hμ
  exact ex_last' hΦ h d k
theorem ex_cast'' {G : Gm} {Φ : Fr} {cc : ByteArray} {own : String} {nL fr lo mc ms pc : Nat} {L : List (Option AV)} {st : List AV} {S : List Sh} {μ : Mem} {kc ks : Nat} {μ' : Mem} {z i x : Int} (hΦ : St G Φ cc own nL fr lo mc ms) (h : Ai S z 2 i) (g0 : 0 ≤ x) (g1 : x ≤ 65535) (d : decode cc pc = .ok (.castore, 1)) (hμ : μ' = mu μ z i x) (k : Ex G Φ nL (pc + 1) L st S μ' kc ks) : Ex G Φ nL pc L ((0, x) :: (0, i) :: (2, z) :: st) S μ kc ks := by
  subst hμ
  exact ex_cast' hΦ h g0 g1 d k
theorem ex_zast'' {G : Gm} {Φ : Fr} {cc : ByteArray} {own : String} {nL fr lo mc ms pc : Nat} {L : List (Option AV)} {st : List AV} {S : List Sh} {μ : Mem} {kc ks : Nat} {μ' : Mem} {z i x : Int} (hΦ : St G Φ cc own nL fr lo mc ms) (h : Ai S z 3 i) (g0 : 0 ≤ x) (g1 : x ≤ 1) (d : decode cc pc = .ok (.bastore, 1)) (hμ : μ' = mu μ z i x) (k : Ex G Φ nL (pc + 1) L st S μ' kc ks) : Ex G Φ nL pc L ((0, x) :: (0, i) :: (2, z) :: st) S μ kc ks := by
  subst hμ
  exact ex_zast' hΦ h g0 g1 d k
theorem ex_acopy'' {G : Gm} {Φ : Fr} {cc : ByteArray} {own : String} {nL fr lo mc ms pc : Nat} {L : List (Option AV)} {st : List AV} {S : List Sh} {μ : Mem} {kc ks : Nat} {μ' : Mem} {idx : Nat} {z1 sp z2 dp n : Int} (hΦ : St G Φ cc own nL fr lo mc ms) (f1 : Cond.methodLink own idx arraycopyName ∈ wsT) (f2 : Cond.native arraycopyName ∈ wsT) (f3 : Cond.static arraycopyName ∈ wsT) (f4 : Cond.initialized "java/lang/System" ∈ wsT) (hrm : 1 ≤ fr ∧ 8 + (nativeFrameWords "java/lang/System" "arraycopy" 5 + 11) ≤ lo) (hsl : st.length ≤ 4) (h : Ac S z1 sp z2 dp n) (d : decode cc pc = .ok (.invokestatic idx, 3)) (hμ : μ' = mcpy μ z1 sp z2 dp n) (k : Ex G Φ nL (pc + 3) L st S μ' kc ks) : Ex G Φ nL pc L ((0, n) :: (0, dp) :: (2, z2) :: (0, sp) :: (2, z1) :: st) S μ kc ks := by
  subst hμ
  exact ex_acopy' hΦ f1 f2 f3 f4 hrm hsl h d k
