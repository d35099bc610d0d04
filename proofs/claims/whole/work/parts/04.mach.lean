theorem lg_nar_char (x : Int32) : vp_nar .char x = (x.toUInt32 % 65536).toInt32 := (vp_nar_char x).trans (lg_i2c_nf x).symm
/-! THE PURE MACHINE: values are tagged whole numbers (0 int, 1 long, 2 reference, below 0 null), the memory is a function of cell and place. -/
abbrev AV : Type := Nat × Int
abbrev Mem : Type := Int → Int → Int
abbrev Sh : Type := Nat ⊕ (Nat × Nat)
abbrev Gm : Type := Launch × va_G × (Nat → ClassId) × Nat × Nat
abbrev Fr : Type := Program × Env × Room × State × MethodId × Array Value × List Frame × Method × Code × (State → Prop)
def mu (μ : Mem) (k i x : Int) : Mem := fun k' i' => if k' = k ∧ i' = i then x else μ k' i'
abbrev R32 (x : Int) : Prop := -2147483648 ≤ x ∧ x ≤ 2147483647
abbrev R64 (x : Int) : Prop := -9223372036854775808 ≤ x ∧ x ≤ 9223372036854775807
def mr (G : Gm) (a : Int) : Option Nat := if a < 0 then none else some (G.2.2.2.1 + a.toNat)
def mv (G : Gm) (v : AV) : Value := match v.1 with
  | 0 => .int (Int32.ofInt v.2)
  | 1 => .long (Int64.ofInt v.2)
  | 3 => .ref G.2.2.2.2
  | _ => va_rf (mr G v.2)
def fkind (t : FieldType) : Nat := match t with
  | .object _ => 2
  | .array _ => 2
  | .long => 1
  | _ => 0
def mC (ci : Nat) : String := match ci with | 0 => RX0 | 1 => RX1 | 2 => RX2 | 3 => RX3 | 4 => RX4 | 5 => RX5 | 6 => RX6 | 7 => RX7 | _ => RX8
def mT (ci : Nat) : u_T := match ci with | 0 => TX0 | 1 => TX1 | 2 => TX2 | 3 => TX3 | 4 => TX4 | 5 => TX5 | 6 => TX6 | 7 => TX7 | _ => TX8
def mN (ci : Nat) : Nat := match ci with | 0 => 3 | 1 => 3 | 2 => 4 | 3 => 6 | 4 => 8 | 5 => 4 | 6 => 13 | 7 => 13 | _ => 43
def mty (ci : Nat) : Nat → FieldType := match ci with | 0 => tyX0 | 1 => tyX1 | 2 => tyX2 | 3 => tyX3 | 4 => tyX4 | 5 => tyX5 | 6 => tyX6 | 7 => tyX7 | _ => tyX8
def mfk (ci j : Nat) : Nat := fkind (mty ci j)
def ment (G : Gm) (s : Sh) (f : Int → Int) : va_E := match s with
  | .inl ci => .inr (ci, (List.range (mN ci)).map fun j => mv G (mfk ci j, f j))
  | .inr (1, n) => .inl (G.2.2.1 1, n, .inr (.inl fun j => Int64.ofInt (f j)))
  | .inr (4, n) => .inl (G.2.2.1 4, n, .inr (.inr (.inr (.inr fun j => mr G (f j)))))
  | .inr (5, n) => .inl (G.2.2.1 5, n, .inr (.inr (.inr (.inr fun j => mr G (f j)))))
  | .inr (k, n) => .inl (G.2.2.1 k, n, .inl fun j => Int32.ofInt (f j))
def mw (G : Gm) (S : List Sh) (μ : Mem) : va_W := (List.range S.length).map fun k => (G.2.2.2.1 + k, ment G (S.getD k (.inl 0)) (μ k))
def mtys (G : Gm) : List (ClassId × FieldType) := [(G.2.2.1 0, .int), (G.2.2.1 1, .long), (G.2.2.1 2, .char), (G.2.2.1 3, .boolean), (G.2.2.1 4, .object "CogFamily$Image"), (G.2.2.1 5, .object "CogFamily$Stand")]
def wd (G : Gm) (S : List Sh) (μ : Mem) (H : Heap) : Prop := va_P G.2.1 vwCl (mw G S μ) H
def nestW : List (String × Nat × MethodName × String) := [(RX7, 9, yX4_init, "CogFamily"), (RX7, 18, yX6_init, "CogFamily"), (RX7, 38, yX5_init, "CogFamily"), (RX7, 75, yX1_init, "CogFamily"), (RX0, 17, yX5_init, "CogFamily"), (RX1, 9, yX5_init, "CogFamily"), (RX6, 52, yX7_leftOver, "CogFamily"), (RX3, 75, yX7_common, "CogFamily"), (RX0, 37, yX7_leftOver, "CogFamily")]
def kst (G : Gm) (U : State) : Prop := va_K G.2.1 vwCl (mtys G) U ∧ (∀ q ∈ nestW, va_Nw (.methodLinkNest q.1 q.2.1 q.2.2.1 q.2.2.2) U) ∧ va_AO "CogFamily$Image" U ∧ va_AO "CogFamily$Stand" U
def lhas (G : Gm) (ls : Array Slot) (nL : Nat) (L : List (Option AV)) : Prop := ls.size = nL ∧ lv_wf ls ∧ ∀ (i : Nat) (v : AV), L[i]? = some (some v) → ls[i]? = some (.val (mv G v))
def Ex (G : Gm) (Φ : Fr) (nL pc : Nat) (L : List (Option AV)) (st : List AV) (S : List Sh) (μ : Mem) (kc ks : Nat) : Prop :=
  match Φ with
  | (p, e, R, s, m, args, below, meth, c, Q) => ∀ (H : Heap) (locs : List Loc) (ls : Array Slot), s.heap.size + kc = G.2.2.2.1 + S.length → wd G S μ H → va_S (fun q : Nat => G.2.2.2.1 ≤ q) s.heap H locs → lhas G ls nL L → W p G.1 e R s m args below meth c H locs kc ks Q (F0 m pc ls (st.map (mv G)))
def St (G : Gm) (Φ : Fr) (cc : ByteArray) (own : String) (nL fr lo mc ms : Nat) : Prop :=
  match Φ with
  | (p, _, R, s, m, args, _, _, c, _) => p.tables.exec = Jvm.exec ∧ c.code = cc ∧ c.maxLocals = nL ∧ s.vm.findClass own = some m.cls ∧ (∀ w ∈ wsT, w.before args s = true) ∧ kst G s ∧ G.2.2.2.1 ≤ s.heap.size ∧ R = { frames := fr, cells := mc, slots := ms, locals := lo }
def mq (G : Gm) (mc : Nat) (P : Option AV → List Sh → Mem → Prop) : Array Value → State → Outcome → State → Prop := fun _ st o t => (∃ (r : Option AV) (S' : List Sh) (μ' : Mem), o = .returned (r.map (mv G)) ∧ P r S' μ' ∧ st.heap.size + mc = G.2.2.2.1 + S'.length ∧ wd G S' μ' t.heap ∧ kst G t) ∧ va_F (fun q : Nat => G.2.2.2.1 ≤ q) st t
/-- the frame's end is a method's: it answers what P says -/
def Rt (G : Gm) (Φ : Fr) (P : Option AV → List Sh → Mem → Prop) (mc ms : Nat) (ret : Option FieldType) : Prop :=
  match Φ with
  | (_, _, _, s, _, args, below, meth, _, Q) => meth.sig.returnType = ret ∧ meth.locks = false ∧ Q = MQ below (mq G mc P) args s mc ms (fun q : Nat => G.2.2.2.1 ≤ q)
abbrev Md : Type := MethodName × ByteArray × Nat × Option FieldType × Nat × Nat
def wsM (M : Md) : List Cond := .code M.1 M.2.1 M.2.2.1 M.2.2.2.1 :: wsT
def rmM (M : Md) (mc ms : Nat) : Room := { frames := M.2.2.2.2.1, cells := mc, slots := ms, locals := M.2.2.2.2.2 }
def Call (G : Gm) (M : Md) (mc ms : Nat) (as : List AV) (S : List Sh) (μ : Mem) (P : Option AV → List Sh → Mem → Prop) : Prop :=
  Met G.1 M.1 (wsM M) (rmM M mc ms) (va_Pc (as.map (mv G)) (fun U => U.heap.size = G.2.2.2.1 + S.length ∧ wd G S μ U.heap ∧ kst G U)) (mq G mc P) mc ms (fun q : Nat => G.2.2.2.1 ≤ q)
def lk (L : List (Option AV)) : Nat → List (Option AV)
  | 0 => L
  | j + 1 => match L[j]? with
    | some (some (1, _)) => L.set j none
    | _ => L
def ls1 (L : List (Option AV)) (i : Nat) (v : AV) : List (Option AV) := (lk L i).set i (some v)
def ls2 (L : List (Option AV)) (i : Nat) (v : AV) : List (Option AV) := ((lk L i).set i (some v)).set (i + 1) none
def So (S : List Sh) (z : Int) (s : Sh) : Prop := 0 ≤ z ∧ S[z.toNat]? = some s
def mand (x y : Int) : Int := (Int32.ofInt x &&& Int32.ofInt y).toInt
def mor (x y : Int) : Int := (Int32.ofInt x ||| Int32.ofInt y).toInt
def mxor (x y : Int) : Int := (Int32.ofInt x ^^^ Int32.ofInt y).toInt
def mushr (x k : Int) : Int := ((Int32.ofInt x).toUInt32 >>> ((Int32.ofInt k).toUInt32 &&& Int32.toUInt32 31)).toInt32.toInt
def mxorl (x y : Int) : Int := (Int64.ofInt x ^^^ Int64.ofInt y).toInt
def mcmp (x y : Int) : Int := if y < x then 1 else if x = y then 0 else -1
/-! numbers -/
theorem i32_in {x : Int} (h : R32 x) : (Int32.ofInt x).toInt = x := Int32.toInt_ofInt_of_le (by have := h.1; omega) (by have := h.2; omega)
theorem i64_in {x : Int} (h : R64 x) : (Int64.ofInt x).toInt = x := Int64.toInt_ofInt_of_le (by have := h.1; omega) (by have := h.2; omega)
theorem i32_lt {x y : Int} (hx : R32 x) (hy : R32 y) : Int32.ofInt x < Int32.ofInt y ↔ x < y := by rw [Int32.lt_iff_toInt_lt, i32_in hx, i32_in hy]
theorem i32_le {x y : Int} (hx : R32 x) (hy : R32 y) : Int32.ofInt x ≤ Int32.ofInt y ↔ x ≤ y := by rw [Int32.le_iff_toInt_le, i32_in hx, i32_in hy]
theorem i32_eq {x y : Int} (hx : R32 x) (hy : R32 y) : Int32.ofInt x = Int32.ofInt y ↔ x = y := by rw [← Int32.toInt_inj, i32_in hx, i32_in hy]
theorem i64_lt {x y : Int} (hx : R64 x) (hy : R64 y) : Int64.ofInt x < Int64.ofInt y ↔ x < y := by rw [Int64.lt_iff_toInt_lt, i64_in hx, i64_in hy]
theorem i64_eq {x y : Int} (hx : R64 x) (hy : R64 y) : Int64.ofInt x = Int64.ofInt y ↔ x = y := by rw [← Int64.toInt_inj, i64_in hx, i64_in hy]
theorem i32_0 : Int32.ofInt 0 = 0 := rfl
theorem R32_0 : R32 0 := ⟨by decide, by decide⟩
theorem i32_tn {x : Int} (h : R32 x) : (Int32.ofInt x).toNatClampNeg = x.toNat := Int32.toNatClampNeg_ofInt_of_le (by have := h.1; omega) (by have := h.2; omega)
theorem i32_vin {x : Int} {n : Nat} (h0 : 0 ≤ x) (h1 : x < n) (hn : n ≤ 2147483647) : vp_in (Int32.ofInt x) n := by
  have hx : R32 x := ⟨by omega, by omega⟩
  rw [vp_in_iff, i32_in hx]
  exact ⟨h0, h1⟩
theorem i32_tdiv {x y : Int} (hx : R32 x) (hy : R32 y) : Int32.ofInt (x.tdiv y) = Int32.ofInt x / Int32.ofInt y := by
  apply Int32.ofInt_tdiv <;> first | exact hx.1 | exact hx.2 | exact hy.1 | exact hy.2
theorem i64_tdiv {x y : Int} (hx : R64 x) (hy : R64 y) : Int64.ofInt (x.tdiv y) = Int64.ofInt x / Int64.ofInt y := by
  apply Int64.ofInt_tdiv <;> first | exact hx.1 | exact hx.2 | exact hy.1 | exact hy.2
theorem i32_and (x y : Int) : Int32.ofInt (mand x y) = Int32.ofInt x &&& Int32.ofInt y := Int32.ofInt_toInt _
theorem i32_or (x y : Int) : Int32.ofInt (mor x y) = Int32.ofInt x ||| Int32.ofInt y := Int32.ofInt_toInt _
theorem i32_xor (x y : Int) : Int32.ofInt (mxor x y) = Int32.ofInt x ^^^ Int32.ofInt y := Int32.ofInt_toInt _
theorem i64_xor (x y : Int) : Int64.ofInt (mxorl x y) = Int64.ofInt x ^^^ Int64.ofInt y := Int64.ofInt_toInt _
theorem i32_sh : ∀ k : Nat, k < 32 → ((Int32.ofInt k &&& 31).toBitVec.smod 32).toNat = k := by decide +kernel
theorem i32_shl (x : Int) {k : Int} (h0 : 0 ≤ k) (h1 : k ≤ 31) : Int32.ofInt (x * 2 ^ k.toNat) = Int32.ofInt x <<< (Int32.ofInt k &&& 31) := by
  obtain ⟨n, rfl⟩ := Int.eq_ofNat_of_zero_le h0
  have hn : n < 32 := by omega
  have e := pk_shl (Int32.ofInt x) (Int32.ofInt n &&& 31) n (i32_sh n hn)
  have e2 : (Int32.ofInt (x * 2 ^ (n : Int).toNat)).toBitVec.toNat = (Int32.ofInt x <<< (Int32.ofInt n &&& 31)).toBitVec.toNat := by
    rw [e]
    simp only [Int32.toBitVec_ofInt, BitVec.toNat_ofInt, Int.toNat_natCast]
    have hp : ((2 : Int) ^ n) = ((2 ^ n : Nat) : Int) := by simp
    rw [hp]
    generalize (2 : Nat) ^ n = q
    have h1 : (x * (q : Int)) % ((2 ^ 32 : Nat) : Int) = ((x % ((2 ^ 32 : Nat) : Int)) * q) % ((2 ^ 32 : Nat) : Int) := by
      rw [Int.mul_emod, Int.mul_emod (x % _) (q : Int), Int.emod_emod]
    rw [h1]
    have h2 : 0 ≤ x % ((2 ^ 32 : Nat) : Int) := Int.emod_nonneg _ (by decide)
    obtain ⟨r, hr⟩ := Int.eq_ofNat_of_zero_le h2
    rw [hr]
    have h3 : (((r : Int) * (q : Int)) % ((2 ^ 32 : Nat) : Int)).toNat = r * q % 2 ^ 32 := by
      rw [← Int.natCast_mul, ← Int.natCast_emod, Int.toNat_natCast]
    rw [h3, Int.toNat_natCast]
  exact Int32.toBitVec.inj (BitVec.eq_of_toNat_eq e2)
theorem i32_shr {x k : Int} (hx : R32 x) (h0 : 0 ≤ k) (h1 : k ≤ 31) : Int32.ofInt (x / 2 ^ k.toNat) = Int32.ofInt x >>> (Int32.ofInt k &&& 31) := by
  obtain ⟨n, rfl⟩ := Int.eq_ofNat_of_zero_le h0
  have hn : n < 32 := by omega
  have e := pk_shr (Int32.ofInt x) (Int32.ofInt n &&& 31) n (i32_sh n hn)
  rw [i32_in hx, Int.shiftRight_eq_div_pow] at e
  rw [← Int32.ofInt_toInt (Int32.ofInt x >>> (Int32.ofInt n &&& 31)), e, Int.toNat_natCast, show ((2 : Int) ^ n) = ((2 ^ n : Nat) : Int) by simp]
theorem i32_i64 {x : Int} (h : R32 x) : (Int32.ofInt x).toInt64 = Int64.ofInt x := Int32.toInt64_ofInt h.1 h.2
theorem i64_i32 (x : Int) : (Int64.ofInt x).toInt32 = Int32.ofInt x := Int64.toInt32_ofInt
theorem i64_cmp {x y : Int} (hx : R64 x) (hy : R64 y) : lg_cmp (Int64.ofInt x) (Int64.ofInt y) = Int32.ofInt (mcmp x y) := by
  have h1 : (Int64.ofInt x > Int64.ofInt y) ↔ y < x := i64_lt hy hx
  have h2 := i64_eq hx hy
  unfold lg_cmp mcmp
  by_cases a : y < x
  · rw [if_pos (h1.mpr a), if_pos a]; rfl
  · rw [if_neg (fun q => a (h1.mp q)), if_neg a]
    by_cases b : x = y
    · rw [if_pos (h2.mpr b), if_pos b]; rfl
    · rw [if_neg (fun q => b (h2.mp q)), if_neg b]; rfl
theorem mcmp_r (x y : Int) : R32 (mcmp x y) := by unfold mcmp; split <;> (try split) <;> decide
theorem i32_char {x : Int} (h0 : 0 ≤ x) (h1 : x ≤ 65535) : ((Int32.ofInt x).toUInt32 % 65536).toInt32 = Int32.ofInt x := by
  have hx : R32 x := ⟨by omega, by omega⟩
  exact lg_i2c_word (by rw [i32_in hx]; exact h0) (by rw [i32_in hx]; omega)
theorem i32_narZ {x : Int} (h0 : 0 ≤ x) (h1 : x ≤ 1) : narrow .boolean (.int (Int32.ofInt x)) = .int (Int32.ofInt x) ∧ fits .boolean (.int (Int32.ofInt x)) = true ∧ vp_nar .boolean (Int32.ofInt x) = Int32.ofInt x := by
  have : x = 0 ∨ x = 1 := by omega
  rcases this with rfl | rfl <;> decide
/-! the lists -/
theorem mw_get {G : Gm} {S : List Sh} {μ : Mem} {k : Nat} {s : Sh} (h : S[k]? = some s) : (mw G S μ)[k]? = some (G.2.2.2.1 + k, ment G s (μ k)) := by
  have hk : k < S.length := (List.getElem?_eq_some_iff.mp h).1
  unfold mw
  rw [List.getElem?_map, List.getElem?_range hk]
  simp [List.getD_eq_getElem?_getD, h]
theorem mw_len {G : Gm} {S : List Sh} {μ : Mem} : (mw G S μ).length = S.length := by simp [mw]
theorem mw_set {G : Gm} {S : List Sh} {μ μ' : Mem} {k : Nat} {s : Sh} {x : va_E} (h : S[k]? = some s) (hk : x = ment G s (μ' k)) (ho : ∀ j : Nat, j ≠ k → μ' j = μ j) : (mw G S μ).set k (G.2.2.2.1 + k, x) = mw G S μ' := by
  apply List.ext_getElem?
  intro j
  by_cases hj : j = k
  · subst hj
    rw [List.getElem?_set_self (by rw [mw_len]; exact (List.getElem?_eq_some_iff.mp h).1), mw_get h, hk]
  · rw [List.getElem?_set_ne (fun q => hj q.symm)]
    by_cases hl : j < S.length
    · rw [mw_get (List.getElem?_eq_getElem hl), mw_get (List.getElem?_eq_getElem hl), ho j hj]
    · rw [List.getElem?_eq_none (by rw [mw_len]; omega), List.getElem?_eq_none (by rw [mw_len]; omega)]
theorem mw_D {G : Gm} {S : List Sh} {μ : Mem} : va_D (fun q : Nat => G.2.2.2.1 ≤ q) (mw G S μ) := by
  have key : ∀ (k : Nat) (q : Nat × va_E), (mw G S μ)[k]? = some q → q.1 = G.2.2.2.1 + k := by
    intro k q hq
    have hl : k < S.length := by have := (List.getElem?_eq_some_iff.mp hq).1; rw [mw_len] at this; exact this
    rw [mw_get (List.getElem?_eq_getElem hl)] at hq
    cases hq
    rfl
  refine ⟨fun i j p q hi hj hpq => ?_, fun k q hk => ?_⟩
  · rw [key i p hi, key j q hj] at hpq
    omega
  · show G.2.2.2.1 ≤ q.1
    rw [key k q hk]
    omega
theorem mw_push {G : Gm} {S : List Sh} {μ μ' : Mem} {s : Sh} {x : va_E} (hx : x = ment G s (μ' S.length)) (ho : ∀ j : Nat, j < S.length → μ' j = μ j) : mw G S μ ++ [(G.2.2.2.1 + S.length, x)] = mw G (S ++ [s]) μ' := by
  apply List.ext_getElem?
  intro j
  by_cases hl : j < S.length
  · rw [List.getElem?_append_left (by rw [mw_len]; exact hl), mw_get (List.getElem?_eq_getElem hl)]
    have h2 : (S ++ [s])[j]? = some S[j] := by rw [List.getElem?_append_left hl, List.getElem?_eq_getElem hl]
    rw [mw_get h2, ho j hl]
  · by_cases he : j = S.length
    · subst he
      rw [List.getElem?_append_right (by rw [mw_len]; omega), mw_len, Nat.sub_self]
      have h2 : (S ++ [s])[S.length]? = some s := by simp
      rw [mw_get h2, hx]
      rfl
    · rw [List.getElem?_eq_none (by simp [mw_len]; omega), List.getElem?_eq_none (by simp [mw_len]; omega)]
theorem mu_same {μ : Mem} {k i x : Int} : mu μ k i x k i = x := by simp [mu]
theorem mu_row {μ : Mem} {k i x j : Int} (h : j ≠ k) : mu μ k i x j = μ j := by funext i'; simp [mu, h]
theorem mu_ne {μ : Mem} {k i x j i' : Int} (h : i' ≠ i) : mu μ k i x j i' = μ j i' := by simp [mu, h]
theorem mC_in {ci : Nat} (h : ci < 9) : vwCl[ci]? = some (mC ci, mT ci, mN ci) := by
  match ci, h with
  | 0, _ => rfl
  | 1, _ => rfl
  | 2, _ => rfl
  | 3, _ => rfl
  | 4, _ => rfl
  | 5, _ => rfl
  | 6, _ => rfl
  | 7, _ => rfl
  | 8, _ => rfl
theorem mT_in {ci : Nat} (h : ci < 9) : ∀ w ∈ u_ws (mC ci) (mT ci) (mN ci), w ∈ wsT := by
  match ci, h with
  | 0, _ => exact inTX0
  | 1, _ => exact inTX1
  | 2, _ => exact inTX2
  | 3, _ => exact inTX3
  | 4, _ => exact inTX4
  | 5, _ => exact inTX5
  | 6, _ => exact inTX6
  | 7, _ => exact inTX7
  | 8, _ => exact inTX8
theorem mty_ok {ci : Nat} (h : ci < 9) : ∀ k, k < mN ci → parseFieldDescriptor (mT ci k).2.2.1 = some (mty ci k) := by
  match ci, h with
  | 0, _ => exact tyX0_ok
  | 1, _ => exact tyX1_ok
  | 2, _ => exact tyX2_ok
  | 3, _ => exact tyX3_ok
  | 4, _ => exact tyX4_ok
  | 5, _ => exact tyX5_ok
  | 6, _ => exact tyX6_ok
  | 7, _ => exact tyX7_ok
  | 8, _ => exact tyX8_ok
theorem mnm_ok {ci : Nat} (h : ci < 9) : ∀ a, a < mN ci → ∀ b, b < mN ci → a ≠ b → (mT ci a).2.1 ≠ (mT ci b).2.1 := by
  match ci, h with
  | 0, _ => exact nmX0
  | 1, _ => exact nmX1
  | 2, _ => exact nmX2
  | 3, _ => exact nmX3
  | 4, _ => exact nmX4
  | 5, _ => exact nmX5
  | 6, _ => exact nmX6
  | 7, _ => exact nmX7
  | 8, _ => exact nmX8
/-- a field's link: class own, entry idx, is place j of class ci, of kind kd -/
def FL (own : String) (idx ci j kd : Nat) : Prop := ci < 9 ∧ j < mN ci ∧ Cond.fieldLink own idx (mT ci j).1 (mT ci j).2.1 (mT ci j).2.2.1 ∈ wsT ∧ mfk ci j = kd
theorem mr_ref {G : Gm} {z : Int} (h : 0 ≤ z) : va_rf (mr G z) = .ref (G.2.2.2.1 + z.toNat) := by
  unfold mr
  rw [if_neg (by omega)]
  rfl
theorem mv_ref {G : Gm} {z : Int} (h : 0 ≤ z) : mv G (2, z) = .ref (G.2.2.2.1 + z.toNat) := mr_ref h
theorem So_nat {S : List Sh} {z : Int} {s : Sh} (h : So S z s) : ((z.toNat : Nat) : Int) = z := Int.toNat_of_nonneg h.1
theorem flds_get {G : Gm} {ci j : Nat} {f : Int → Int} (h : j < mN ci) : ((List.range (mN ci)).map fun j => mv G (mfk ci j, f j))[j]? = some (mv G (mfk ci j, f j)) := by
  rw [List.getElem?_map, List.getElem?_range h]
  rfl
theorem flds_set {G : Gm} {ci j : Nat} {f : Int → Int} {x : Int} (h : j < mN ci) : ((List.range (mN ci)).map fun j => mv G (mfk ci j, f j)).set j (mv G (mfk ci j, x)) = (List.range (mN ci)).map fun i => mv G (mfk ci i, (fun i' : Int => if i' = (j : Int) then x else f i') i) := by
  apply List.ext_getElem?
  intro i
  by_cases hi : i = j
  · subst hi
    rw [List.getElem?_set_self (by simp; exact h), List.getElem?_map, List.getElem?_range h]
    simp
  · rw [List.getElem?_set_ne (fun q => hi q.symm)]
    by_cases hl : i < mN ci
    · rw [List.getElem?_map, List.getElem?_map, List.getElem?_range hl]
      have : ¬ ((i : Int) = (j : Int)) := by omega
      simp [this]
    · rw [List.getElem?_eq_none (by simp; omega), List.getElem?_eq_none (by simp; omega)]
theorem mu_at {μ : Mem} {z : Int} {k : Nat} {i x : Int} (hz : ((k : Nat) : Int) = z) : mu μ z i x (k : Int) = fun i' : Int => if i' = i then x else μ z i' := by
  funext i'
  simp [mu, hz]
theorem mu_off {μ : Mem} {z : Int} {k : Nat} {i x : Int} (hz : ((k : Nat) : Int) = z) (j : Nat) (hj : j ≠ k) : mu μ z i x (j : Int) = μ (j : Int) := mu_row (by omega)
/-! the locals -/
def lpairs (G : Gm) (L : List (Option AV)) : List (Nat × Value) := L.zipIdx.filterMap fun q => q.1.map fun v => (q.2, mv G v)
theorem lpairs_mem {G : Gm} {L : List (Option AV)} {q : Nat × Value} : q ∈ lpairs G L ↔ ∃ v : AV, L[q.1]? = some (some v) ∧ q.2 = mv G v := by
  unfold lpairs
  rw [List.mem_filterMap]
  constructor
  · rintro ⟨⟨o, i⟩, h1, h2⟩
    rw [List.mem_zipIdx_iff_getElem?] at h1
    cases o with
    | none => cases h2
    | some v => cases h2; exact ⟨v, h1, rfl⟩
  · rintro ⟨v, h1, h2⟩
    refine ⟨(some v, q.1), ?_, ?_⟩
    · rw [List.mem_zipIdx_iff_getElem?]; exact h1
    · simp [← h2]
theorem lhas_lv {G : Gm} {ls : Array Slot} {nL : Nat} {L : List (Option AV)} (h : lhas G ls nL L) : lv_has ls nL (lpairs G L) := by
  refine ⟨h.1, h.2.1, fun q hq => ?_⟩
  obtain ⟨v, h1, h2⟩ := lpairs_mem.mp hq
  rw [h2]
  exact h.2.2 q.1 v h1
theorem mv_cat {G : Gm} {v : AV} (h : (mv G v).category = 2) : v.1 = 1 := by
  obtain ⟨k, x⟩ := v
  have key : ∀ x : Int, ¬ (va_rf (mr G x)).category = 2 := by
    intro x q
    cases hm : mr G x <;> rw [hm] at q <;> cases q
  match k with
  | 0 => cases h
  | 1 => rfl
  | 2 => exact absurd h (key x)
  | 3 => cases h
  | k + 4 => exact absurd h (key x)
theorem lk_get {L : List (Option AV)} {i j : Nat} {v : AV} (h : (lk L i)[j]? = some (some v)) : L[j]? = some (some v) ∧ ¬ (j + 1 = i ∧ v.1 = 1) := by
  cases i with
  | zero => exact ⟨h, fun q => by omega⟩
  | succ i =>
    simp only [lk] at h
    split at h
    · rename_i x hx
      by_cases hj : i = j
      · subst hj
        rw [List.getElem?_set_self (List.getElem?_eq_some_iff.mp hx).1] at h
        cases h
      · rw [List.getElem?_set_ne hj] at h
        exact ⟨h, fun q => by omega⟩
    · rename_i hx
      refine ⟨h, fun q => ?_⟩
      obtain ⟨q1, q2⟩ := q
      have hij : i = j := by omega
      subst hij
      obtain ⟨k, x⟩ := v
      dsimp only at q2
      subst q2
      exact hx x h
theorem ls1_get {L : List (Option AV)} {i j : Nat} {v u : AV} (h : (ls1 L i u)[j]? = some (some v)) : (j = i ∧ v = u) ∨ (j ≠ i ∧ L[j]? = some (some v) ∧ ¬ (j + 1 = i ∧ v.1 = 1)) := by
  unfold ls1 at h
  by_cases hj : j = i
  · subst hj
    refine Or.inl ⟨rfl, ?_⟩
    have hl : j < (lk L j).length := by
      have := (List.getElem?_eq_some_iff.mp h).1
      simpa using this
    rw [List.getElem?_set_self hl] at h
    cases h
    rfl
  · rw [List.getElem?_set_ne (fun q => hj q.symm)] at h
    obtain ⟨h1, h2⟩ := lk_get h
    exact Or.inr ⟨hj, h1, h2⟩
theorem ls2_get {L : List (Option AV)} {i j : Nat} {v u : AV} (h : (ls2 L i u)[j]? = some (some v)) : (j = i ∧ v = u) ∨ (j ≠ i ∧ j ≠ i + 1 ∧ L[j]? = some (some v) ∧ ¬ (j + 1 = i ∧ v.1 = 1)) := by
  unfold ls2 at h
  by_cases hj : j = i + 1
  · subst hj
    have hl : i + 1 < ((lk L i).set i (some u)).length := by
      have := (List.getElem?_eq_some_iff.mp h).1
      simpa using this
    rw [List.getElem?_set_self hl] at h
    cases h
  · rw [List.getElem?_set_ne (fun q => hj q.symm)] at h
    rcases ls1_get h with h | ⟨h1, h2⟩
    · exact Or.inl h
    · exact Or.inr ⟨h1, hj, h2⟩
theorem lhas_1 {G : Gm} {ls : Array Slot} {nL i : Nat} {L : List (Option AV)} {u : AV} (h : lv_has ls nL ((i, mv G u) :: (lpairs G L).filter (fun q => !(q.1 == i) && !(q.1 + 1 == i && q.2.category == 2)))) : lhas G ls nL (ls1 L i u) := by
  refine ⟨h.1, h.2.1, fun j v hj => ?_⟩
  rcases ls1_get hj with ⟨rfl, rfl⟩ | ⟨h1, h2, h3⟩
  · exact h.2.2 _ List.mem_cons_self
  · refine h.2.2 (j, mv G v) (List.mem_cons_of_mem _ (List.mem_filter.mpr ⟨lpairs_mem.mpr ⟨v, h2, rfl⟩, ?_⟩))
    simp only [Bool.and_eq_true, Bool.not_eq_true', beq_eq_false_iff_ne, ne_eq, Bool.and_eq_false_iff]
    refine ⟨h1, ?_⟩
    by_cases hc : (mv G v).category = 2
    · exact Or.inl (fun q => h3 ⟨q, mv_cat hc⟩)
    · exact Or.inr hc
theorem lhas_2 {G : Gm} {ls : Array Slot} {nL i : Nat} {L : List (Option AV)} {u : AV} (h : lv_has ls nL ((i, mv G u) :: (lpairs G L).filter (fun q => !(q.1 == i) && (!(q.1 == i + 1) && !(q.1 + 1 == i && q.2.category == 2))))) : lhas G ls nL (ls2 L i u) := by
  refine ⟨h.1, h.2.1, fun j v hj => ?_⟩
  rcases ls2_get hj with ⟨rfl, rfl⟩ | ⟨h1, h1', h2, h3⟩
  · exact h.2.2 _ List.mem_cons_self
  · refine h.2.2 (j, mv G v) (List.mem_cons_of_mem _ (List.mem_filter.mpr ⟨lpairs_mem.mpr ⟨v, h2, rfl⟩, ?_⟩))
    simp only [Bool.and_eq_true, Bool.not_eq_true', beq_eq_false_iff_ne, ne_eq, Bool.and_eq_false_iff]
    refine ⟨h1, h1', ?_⟩
    by_cases hc : (mv G v).category = 2
    · exact Or.inl (fun q => h3 ⟨q, mv_cat hc⟩)
    · exact Or.inr hc
theorem lhas_at {G : Gm} {ls : Array Slot} {nL i : Nat} {L : List (Option AV)} {v : AV} (h : lhas G ls nL L) (hi : L[i]? = some (some v)) : ls[i]? = some (.val (mv G v)) := h.2.2 i v hi
theorem ex_iadd {G : Gm} {Φ : Fr} {cc : ByteArray} {own : String} {nL fr lo mc ms pc : Nat} {L : List (Option AV)} {st : List AV} {S : List Sh} {μ : Mem} {kc ks : Nat} {x y : Int} (hΦ : St G Φ cc own nL fr lo mc ms) (d : decode cc pc = .ok (.iadd, 1)) (k : Ex G Φ nL (pc + 1) L ((0, x + y) :: st) S μ kc ks) : Ex G Φ nL (pc) L ((0, y) :: (0, x) :: st) S μ kc ks := by
  obtain ⟨p, e, R, s, m, args, below, meth, c, Q⟩ := Φ
  obtain ⟨hx, hb, hml, hown, hts, hK, hsz, hR⟩ := hΦ
  intro H locs ls hz hW hS hl
  show W _ _ _ _ _ _ _ _ _ _ _ _ _ _ _ (F0 m pc ls (.int (Int32.ofInt y) :: .int (Int32.ofInt x) :: st.map (mv G)))
  refine lv_iadd hx hb d ?_
  rw [← Int32.ofInt_add]
  exact k H locs ls hz hW hS hl
theorem ex_isub {G : Gm} {Φ : Fr} {cc : ByteArray} {own : String} {nL fr lo mc ms pc : Nat} {L : List (Option AV)} {st : List AV} {S : List Sh} {μ : Mem} {kc ks : Nat} {x y : Int} (hΦ : St G Φ cc own nL fr lo mc ms) (d : decode cc pc = .ok (.isub, 1)) (k : Ex G Φ nL (pc + 1) L ((0, x - y) :: st) S μ kc ks) : Ex G Φ nL (pc) L ((0, y) :: (0, x) :: st) S μ kc ks := by
  obtain ⟨p, e, R, s, m, args, below, meth, c, Q⟩ := Φ
  obtain ⟨hx, hb, hml, hown, hts, hK, hsz, hR⟩ := hΦ
  intro H locs ls hz hW hS hl
  show W _ _ _ _ _ _ _ _ _ _ _ _ _ _ _ (F0 m pc ls (.int (Int32.ofInt y) :: .int (Int32.ofInt x) :: st.map (mv G)))
  refine lv_isub hx hb d ?_
  rw [← Int32.ofInt_sub]
  exact k H locs ls hz hW hS hl
theorem ex_imul {G : Gm} {Φ : Fr} {cc : ByteArray} {own : String} {nL fr lo mc ms pc : Nat} {L : List (Option AV)} {st : List AV} {S : List Sh} {μ : Mem} {kc ks : Nat} {x y : Int} (hΦ : St G Φ cc own nL fr lo mc ms) (d : decode cc pc = .ok (.imul, 1)) (k : Ex G Φ nL (pc + 1) L ((0, x * y) :: st) S μ kc ks) : Ex G Φ nL (pc) L ((0, y) :: (0, x) :: st) S μ kc ks := by
  obtain ⟨p, e, R, s, m, args, below, meth, c, Q⟩ := Φ
  obtain ⟨hx, hb, hml, hown, hts, hK, hsz, hR⟩ := hΦ
  intro H locs ls hz hW hS hl
  show W _ _ _ _ _ _ _ _ _ _ _ _ _ _ _ (F0 m pc ls (.int (Int32.ofInt y) :: .int (Int32.ofInt x) :: st.map (mv G)))
  refine lv_imul hx hb d ?_
  rw [← Int32.ofInt_mul]
  exact k H locs ls hz hW hS hl
theorem ex_iand {G : Gm} {Φ : Fr} {cc : ByteArray} {own : String} {nL fr lo mc ms pc : Nat} {L : List (Option AV)} {st : List AV} {S : List Sh} {μ : Mem} {kc ks : Nat} {x y : Int} (hΦ : St G Φ cc own nL fr lo mc ms) (d : decode cc pc = .ok (.iand, 1)) (k : Ex G Φ nL (pc + 1) L ((0, mand x y) :: st) S μ kc ks) : Ex G Φ nL (pc) L ((0, y) :: (0, x) :: st) S μ kc ks := by
  obtain ⟨p, e, R, s, m, args, below, meth, c, Q⟩ := Φ
  obtain ⟨hx, hb, hml, hown, hts, hK, hsz, hR⟩ := hΦ
  intro H locs ls hz hW hS hl
  show W _ _ _ _ _ _ _ _ _ _ _ _ _ _ _ (F0 m pc ls (.int (Int32.ofInt y) :: .int (Int32.ofInt x) :: st.map (mv G)))
  refine lv_iand hx hb d ?_
  rw [← i32_and]
  exact k H locs ls hz hW hS hl
theorem ex_ior {G : Gm} {Φ : Fr} {cc : ByteArray} {own : String} {nL fr lo mc ms pc : Nat} {L : List (Option AV)} {st : List AV} {S : List Sh} {μ : Mem} {kc ks : Nat} {x y : Int} (hΦ : St G Φ cc own nL fr lo mc ms) (d : decode cc pc = .ok (.ior, 1)) (k : Ex G Φ nL (pc + 1) L ((0, mor x y) :: st) S μ kc ks) : Ex G Φ nL (pc) L ((0, y) :: (0, x) :: st) S μ kc ks := by
  obtain ⟨p, e, R, s, m, args, below, meth, c, Q⟩ := Φ
  obtain ⟨hx, hb, hml, hown, hts, hK, hsz, hR⟩ := hΦ
  intro H locs ls hz hW hS hl
  show W _ _ _ _ _ _ _ _ _ _ _ _ _ _ _ (F0 m pc ls (.int (Int32.ofInt y) :: .int (Int32.ofInt x) :: st.map (mv G)))
  refine lv_ior hx hb d ?_
  rw [← i32_or]
  exact k H locs ls hz hW hS hl
theorem ex_ixor {G : Gm} {Φ : Fr} {cc : ByteArray} {own : String} {nL fr lo mc ms pc : Nat} {L : List (Option AV)} {st : List AV} {S : List Sh} {μ : Mem} {kc ks : Nat} {x y : Int} (hΦ : St G Φ cc own nL fr lo mc ms) (d : decode cc pc = .ok (.ixor, 1)) (k : Ex G Φ nL (pc + 1) L ((0, mxor x y) :: st) S μ kc ks) : Ex G Φ nL (pc) L ((0, y) :: (0, x) :: st) S μ kc ks := by
  obtain ⟨p, e, R, s, m, args, below, meth, c, Q⟩ := Φ
  obtain ⟨hx, hb, hml, hown, hts, hK, hsz, hR⟩ := hΦ
  intro H locs ls hz hW hS hl
  show W _ _ _ _ _ _ _ _ _ _ _ _ _ _ _ (F0 m pc ls (.int (Int32.ofInt y) :: .int (Int32.ofInt x) :: st.map (mv G)))
  refine lv_ixor hx hb d ?_
  rw [← i32_xor]
  exact k H locs ls hz hW hS hl
theorem ex_ladd {G : Gm} {Φ : Fr} {cc : ByteArray} {own : String} {nL fr lo mc ms pc : Nat} {L : List (Option AV)} {st : List AV} {S : List Sh} {μ : Mem} {kc ks : Nat} {x y : Int} (hΦ : St G Φ cc own nL fr lo mc ms) (d : decode cc pc = .ok (.ladd, 1)) (k : Ex G Φ nL (pc + 1) L ((1, x + y) :: st) S μ kc ks) : Ex G Φ nL (pc) L ((1, y) :: (1, x) :: st) S μ kc ks := by
  obtain ⟨p, e, R, s, m, args, below, meth, c, Q⟩ := Φ
  obtain ⟨hx, hb, hml, hown, hts, hK, hsz, hR⟩ := hΦ
  intro H locs ls hz hW hS hl
  show W _ _ _ _ _ _ _ _ _ _ _ _ _ _ _ (F0 m pc ls (.long (Int64.ofInt y) :: .long (Int64.ofInt x) :: st.map (mv G)))
  refine lv_ladd hx hb d ?_
  rw [← Int64.ofInt_add]
  exact k H locs ls hz hW hS hl
theorem ex_lsub {G : Gm} {Φ : Fr} {cc : ByteArray} {own : String} {nL fr lo mc ms pc : Nat} {L : List (Option AV)} {st : List AV} {S : List Sh} {μ : Mem} {kc ks : Nat} {x y : Int} (hΦ : St G Φ cc own nL fr lo mc ms) (d : decode cc pc = .ok (.lsub, 1)) (k : Ex G Φ nL (pc + 1) L ((1, x - y) :: st) S μ kc ks) : Ex G Φ nL (pc) L ((1, y) :: (1, x) :: st) S μ kc ks := by
  obtain ⟨p, e, R, s, m, args, below, meth, c, Q⟩ := Φ
  obtain ⟨hx, hb, hml, hown, hts, hK, hsz, hR⟩ := hΦ
  intro H locs ls hz hW hS hl
  show W _ _ _ _ _ _ _ _ _ _ _ _ _ _ _ (F0 m pc ls (.long (Int64.ofInt y) :: .long (Int64.ofInt x) :: st.map (mv G)))
  refine lv_lsub hx hb d ?_
  rw [← Int64.ofInt_sub]
  exact k H locs ls hz hW hS hl
theorem ex_lmul {G : Gm} {Φ : Fr} {cc : ByteArray} {own : String} {nL fr lo mc ms pc : Nat} {L : List (Option AV)} {st : List AV} {S : List Sh} {μ : Mem} {kc ks : Nat} {x y : Int} (hΦ : St G Φ cc own nL fr lo mc ms) (d : decode cc pc = .ok (.lmul, 1)) (k : Ex G Φ nL (pc + 1) L ((1, x * y) :: st) S μ kc ks) : Ex G Φ nL (pc) L ((1, y) :: (1, x) :: st) S μ kc ks := by
  obtain ⟨p, e, R, s, m, args, below, meth, c, Q⟩ := Φ
  obtain ⟨hx, hb, hml, hown, hts, hK, hsz, hR⟩ := hΦ
  intro H locs ls hz hW hS hl
  show W _ _ _ _ _ _ _ _ _ _ _ _ _ _ _ (F0 m pc ls (.long (Int64.ofInt y) :: .long (Int64.ofInt x) :: st.map (mv G)))
  refine lv_lmul hx hb d ?_
  rw [← Int64.ofInt_mul]
  exact k H locs ls hz hW hS hl
theorem ex_lxor {G : Gm} {Φ : Fr} {cc : ByteArray} {own : String} {nL fr lo mc ms pc : Nat} {L : List (Option AV)} {st : List AV} {S : List Sh} {μ : Mem} {kc ks : Nat} {x y : Int} (hΦ : St G Φ cc own nL fr lo mc ms) (d : decode cc pc = .ok (.lxor, 1)) (k : Ex G Φ nL (pc + 1) L ((1, mxorl x y) :: st) S μ kc ks) : Ex G Φ nL (pc) L ((1, y) :: (1, x) :: st) S μ kc ks := by
  obtain ⟨p, e, R, s, m, args, below, meth, c, Q⟩ := Φ
  obtain ⟨hx, hb, hml, hown, hts, hK, hsz, hR⟩ := hΦ
  intro H locs ls hz hW hS hl
  show W _ _ _ _ _ _ _ _ _ _ _ _ _ _ _ (F0 m pc ls (.long (Int64.ofInt y) :: .long (Int64.ofInt x) :: st.map (mv G)))
  refine lv_lxor hx hb d ?_
  rw [← i64_xor]
  exact k H locs ls hz hW hS hl
theorem ex_idiv {G : Gm} {Φ : Fr} {cc : ByteArray} {own : String} {nL fr lo mc ms pc : Nat} {L : List (Option AV)} {st : List AV} {S : List Sh} {μ : Mem} {kc ks : Nat} {x y : Int} (hΦ : St G Φ cc own nL fr lo mc ms) (d : decode cc pc = .ok (.idiv, 1)) (hxr : R32 x) (hy : R32 y) (hy0 : y ≠ 0) (k : Ex G Φ nL (pc + 1) L ((0, x.tdiv y) :: st) S μ kc ks) : Ex G Φ nL (pc) L ((0, y) :: (0, x) :: st) S μ kc ks := by
  obtain ⟨p, e, R, s, m, args, below, meth, c, Q⟩ := Φ
  obtain ⟨hx, hb, hml, hown, hts, hK, hsz, hR⟩ := hΦ
  intro H locs ls hz hW hS hl
  show W _ _ _ _ _ _ _ _ _ _ _ _ _ _ _ (F0 m pc ls (.int (Int32.ofInt y) :: .int (Int32.ofInt x) :: st.map (mv G)))
  refine lv_idiv hx hb d (fun q => hy0 ((i32_eq hy R32_0).mp q)) ?_
  rw [← i32_tdiv hxr hy]
  exact k H locs ls hz hW hS hl
theorem ex_ldiv {G : Gm} {Φ : Fr} {cc : ByteArray} {own : String} {nL fr lo mc ms pc : Nat} {L : List (Option AV)} {st : List AV} {S : List Sh} {μ : Mem} {kc ks : Nat} {x y : Int} (hΦ : St G Φ cc own nL fr lo mc ms) (d : decode cc pc = .ok (.ldiv, 1)) (hxr : R64 x) (hy : R64 y) (hy0 : y ≠ 0) (k : Ex G Φ nL (pc + 1) L ((1, x.tdiv y) :: st) S μ kc ks) : Ex G Φ nL (pc) L ((1, y) :: (1, x) :: st) S μ kc ks := by
  obtain ⟨p, e, R, s, m, args, below, meth, c, Q⟩ := Φ
  obtain ⟨hx, hb, hml, hown, hts, hK, hsz, hR⟩ := hΦ
  intro H locs ls hz hW hS hl
  show W _ _ _ _ _ _ _ _ _ _ _ _ _ _ _ (F0 m pc ls (.long (Int64.ofInt y) :: .long (Int64.ofInt x) :: st.map (mv G)))
  refine lv_ldiv hx hb d (fun q => hy0 ((i64_eq hy ⟨by decide, by decide⟩).mp q)) ?_
  rw [← i64_tdiv hxr hy]
  exact k H locs ls hz hW hS hl
theorem ex_irem {G : Gm} {Φ : Fr} {cc : ByteArray} {own : String} {nL fr lo mc ms pc : Nat} {L : List (Option AV)} {st : List AV} {S : List Sh} {μ : Mem} {kc ks : Nat} {x y : Int} (hΦ : St G Φ cc own nL fr lo mc ms) (d : decode cc pc = .ok (.irem, 1)) (hxr : R32 x) (hy : R32 y) (hy0 : y ≠ 0) (k : Ex G Φ nL (pc + 1) L ((0, x.tmod y) :: st) S μ kc ks) : Ex G Φ nL (pc) L ((0, y) :: (0, x) :: st) S μ kc ks := by
  obtain ⟨p, e, R, s, m, args, below, meth, c, Q⟩ := Φ
  obtain ⟨hx, hb, hml, hown, hts, hK, hsz, hR⟩ := hΦ
  intro H locs ls hz hW hS hl
  show W _ _ _ _ _ _ _ _ _ _ _ _ _ _ _ (F0 m pc ls (.int (Int32.ofInt y) :: .int (Int32.ofInt x) :: st.map (mv G)))
  refine lv_irem hx hb d (fun q => hy0 ((i32_eq hy R32_0).mp q)) ?_
  rw [← i32_tdiv hxr hy, ← Int32.ofInt_mul, ← Int32.ofInt_sub, Int.mul_comm, ← Int.tmod_def]
  exact k H locs ls hz hW hS hl
theorem ex_lrem {G : Gm} {Φ : Fr} {cc : ByteArray} {own : String} {nL fr lo mc ms pc : Nat} {L : List (Option AV)} {st : List AV} {S : List Sh} {μ : Mem} {kc ks : Nat} {x y : Int} (hΦ : St G Φ cc own nL fr lo mc ms) (d : decode cc pc = .ok (.lrem, 1)) (hxr : R64 x) (hy : R64 y) (hy0 : y ≠ 0) (k : Ex G Φ nL (pc + 1) L ((1, x.tmod y) :: st) S μ kc ks) : Ex G Φ nL (pc) L ((1, y) :: (1, x) :: st) S μ kc ks := by
  obtain ⟨p, e, R, s, m, args, below, meth, c, Q⟩ := Φ
  obtain ⟨hx, hb, hml, hown, hts, hK, hsz, hR⟩ := hΦ
  intro H locs ls hz hW hS hl
  show W _ _ _ _ _ _ _ _ _ _ _ _ _ _ _ (F0 m pc ls (.long (Int64.ofInt y) :: .long (Int64.ofInt x) :: st.map (mv G)))
  refine lv_lrem hx hb d (fun q => hy0 ((i64_eq hy ⟨by decide, by decide⟩).mp q)) ?_
  rw [← i64_tdiv hxr hy, ← Int64.ofInt_mul, ← Int64.ofInt_sub, Int.mul_comm, ← Int.tmod_def]
  exact k H locs ls hz hW hS hl
theorem ex_lneg {G : Gm} {Φ : Fr} {cc : ByteArray} {own : String} {nL fr lo mc ms pc : Nat} {L : List (Option AV)} {st : List AV} {S : List Sh} {μ : Mem} {kc ks : Nat} {x : Int} (hΦ : St G Φ cc own nL fr lo mc ms) (d : decode cc pc = .ok (.lneg, 1)) (k : Ex G Φ nL (pc + 1) L ((1, -x) :: st) S μ kc ks) : Ex G Φ nL (pc) L ((1, x) :: st) S μ kc ks := by
  obtain ⟨p, e, R, s, m, args, below, meth, c, Q⟩ := Φ
  obtain ⟨hx, hb, hml, hown, hts, hK, hsz, hR⟩ := hΦ
  intro H locs ls hz hW hS hl
  show W _ _ _ _ _ _ _ _ _ _ _ _ _ _ _ (F0 m pc ls (.long (Int64.ofInt x) :: st.map (mv G)))
  refine lv_lneg hx hb d ?_
  rw [← Int64.ofInt_neg]
  exact k H locs ls hz hW hS hl
theorem ex_ineg {G : Gm} {Φ : Fr} {cc : ByteArray} {own : String} {nL fr lo mc ms pc : Nat} {L : List (Option AV)} {st : List AV} {S : List Sh} {μ : Mem} {kc ks : Nat} {x : Int} (hΦ : St G Φ cc own nL fr lo mc ms) (d : decode cc pc = .ok (.ineg, 1)) (k : Ex G Φ nL (pc + 1) L ((0, -x) :: st) S μ kc ks) : Ex G Φ nL (pc) L ((0, x) :: st) S μ kc ks := by
  obtain ⟨p, e, R, s, m, args, below, meth, c, Q⟩ := Φ
  obtain ⟨hx, hb, hml, hown, hts, hK, hsz, hR⟩ := hΦ
  intro H locs ls hz hW hS hl
  show W _ _ _ _ _ _ _ _ _ _ _ _ _ _ _ (F0 m pc ls (.int (Int32.ofInt x) :: st.map (mv G)))
  refine lv_ineg hx hb d ?_
  rw [← Int32.ofInt_neg]
  exact k H locs ls hz hW hS hl
theorem ex_ishl {G : Gm} {Φ : Fr} {cc : ByteArray} {own : String} {nL fr lo mc ms pc : Nat} {L : List (Option AV)} {st : List AV} {S : List Sh} {μ : Mem} {kc ks : Nat} {x y : Int} (hΦ : St G Φ cc own nL fr lo mc ms) (d : decode cc pc = .ok (.ishl, 1)) (h0 : 0 ≤ y) (h1 : y ≤ 31) (k : Ex G Φ nL (pc + 1) L ((0, x * 2 ^ y.toNat) :: st) S μ kc ks) : Ex G Φ nL (pc) L ((0, y) :: (0, x) :: st) S μ kc ks := by
  obtain ⟨p, e, R, s, m, args, below, meth, c, Q⟩ := Φ
  obtain ⟨hx, hb, hml, hown, hts, hK, hsz, hR⟩ := hΦ
  intro H locs ls hz hW hS hl
  show W _ _ _ _ _ _ _ _ _ _ _ _ _ _ _ (F0 m pc ls (.int (Int32.ofInt y) :: .int (Int32.ofInt x) :: st.map (mv G)))
  refine lv_ishl hx hb d ?_
  rw [← i32_shl x h0 h1]
  exact k H locs ls hz hW hS hl
theorem ex_ishr {G : Gm} {Φ : Fr} {cc : ByteArray} {own : String} {nL fr lo mc ms pc : Nat} {L : List (Option AV)} {st : List AV} {S : List Sh} {μ : Mem} {kc ks : Nat} {x y : Int} (hΦ : St G Φ cc own nL fr lo mc ms) (d : decode cc pc = .ok (.ishr, 1)) (hxr : R32 x) (h0 : 0 ≤ y) (h1 : y ≤ 31) (k : Ex G Φ nL (pc + 1) L ((0, x / 2 ^ y.toNat) :: st) S μ kc ks) : Ex G Φ nL (pc) L ((0, y) :: (0, x) :: st) S μ kc ks := by
  obtain ⟨p, e, R, s, m, args, below, meth, c, Q⟩ := Φ
  obtain ⟨hx, hb, hml, hown, hts, hK, hsz, hR⟩ := hΦ
  intro H locs ls hz hW hS hl
  show W _ _ _ _ _ _ _ _ _ _ _ _ _ _ _ (F0 m pc ls (.int (Int32.ofInt y) :: .int (Int32.ofInt x) :: st.map (mv G)))
  refine lv_ishr hx hb d ?_
  rw [← i32_shr hxr h0 h1]
  exact k H locs ls hz hW hS hl
theorem ex_iushr {G : Gm} {Φ : Fr} {cc : ByteArray} {own : String} {nL fr lo mc ms pc : Nat} {L : List (Option AV)} {st : List AV} {S : List Sh} {μ : Mem} {kc ks : Nat} {x y : Int} (hΦ : St G Φ cc own nL fr lo mc ms) (d : decode cc pc = .ok (.iushr, 1)) (k : Ex G Φ nL (pc + 1) L ((0, mushr x y) :: st) S μ kc ks) : Ex G Φ nL (pc) L ((0, y) :: (0, x) :: st) S μ kc ks := by
  obtain ⟨p, e, R, s, m, args, below, meth, c, Q⟩ := Φ
  obtain ⟨hx, hb, hml, hown, hts, hK, hsz, hR⟩ := hΦ
  intro H locs ls hz hW hS hl
  show W _ _ _ _ _ _ _ _ _ _ _ _ _ _ _ (F0 m pc ls (.int (Int32.ofInt y) :: .int (Int32.ofInt x) :: st.map (mv G)))
  refine lv_iushr (v := Int32.ofInt (mushr x y)) hx hb d (Int32.ofInt_toInt _).symm ?_
  exact k H locs ls hz hW hS hl
theorem ex_i2l {G : Gm} {Φ : Fr} {cc : ByteArray} {own : String} {nL fr lo mc ms pc : Nat} {L : List (Option AV)} {st : List AV} {S : List Sh} {μ : Mem} {kc ks : Nat} {x : Int} (hΦ : St G Φ cc own nL fr lo mc ms) (d : decode cc pc = .ok (.i2l, 1)) (hxr : R32 x) (k : Ex G Φ nL (pc + 1) L ((1, x) :: st) S μ kc ks) : Ex G Φ nL (pc) L ((0, x) :: st) S μ kc ks := by
  obtain ⟨p, e, R, s, m, args, below, meth, c, Q⟩ := Φ
  obtain ⟨hx, hb, hml, hown, hts, hK, hsz, hR⟩ := hΦ
  intro H locs ls hz hW hS hl
  show W _ _ _ _ _ _ _ _ _ _ _ _ _ _ _ (F0 m pc ls (.int (Int32.ofInt x) :: st.map (mv G)))
  refine lv_i2l hx hb d (i32_i64 hxr) ?_
  exact k H locs ls hz hW hS hl
theorem ex_l2i {G : Gm} {Φ : Fr} {cc : ByteArray} {own : String} {nL fr lo mc ms pc : Nat} {L : List (Option AV)} {st : List AV} {S : List Sh} {μ : Mem} {kc ks : Nat} {x : Int} (hΦ : St G Φ cc own nL fr lo mc ms) (d : decode cc pc = .ok (.l2i, 1)) (k : Ex G Φ nL (pc + 1) L ((0, x) :: st) S μ kc ks) : Ex G Φ nL (pc) L ((1, x) :: st) S μ kc ks := by
  obtain ⟨p, e, R, s, m, args, below, meth, c, Q⟩ := Φ
  obtain ⟨hx, hb, hml, hown, hts, hK, hsz, hR⟩ := hΦ
  intro H locs ls hz hW hS hl
  show W _ _ _ _ _ _ _ _ _ _ _ _ _ _ _ (F0 m pc ls (.long (Int64.ofInt x) :: st.map (mv G)))
  refine lv_l2i hx hb d (i64_i32 x) ?_
  exact k H locs ls hz hW hS hl
theorem ex_i2c {G : Gm} {Φ : Fr} {cc : ByteArray} {own : String} {nL fr lo mc ms pc : Nat} {L : List (Option AV)} {st : List AV} {S : List Sh} {μ : Mem} {kc ks : Nat} {x : Int} (hΦ : St G Φ cc own nL fr lo mc ms) (d : decode cc pc = .ok (.i2c, 1)) (h0 : 0 ≤ x) (h1 : x ≤ 65535) (k : Ex G Φ nL (pc + 1) L ((0, x) :: st) S μ kc ks) : Ex G Φ nL (pc) L ((0, x) :: st) S μ kc ks := by
  obtain ⟨p, e, R, s, m, args, below, meth, c, Q⟩ := Φ
  obtain ⟨hx, hb, hml, hown, hts, hK, hsz, hR⟩ := hΦ
  intro H locs ls hz hW hS hl
  show W _ _ _ _ _ _ _ _ _ _ _ _ _ _ _ (F0 m pc ls (.int (Int32.ofInt x) :: st.map (mv G)))
  refine lv_i2c hx hb d (i32_char h0 h1) ?_
  exact k H locs ls hz hW hS hl
theorem ex_lcmp {G : Gm} {Φ : Fr} {cc : ByteArray} {own : String} {nL fr lo mc ms pc : Nat} {L : List (Option AV)} {st : List AV} {S : List Sh} {μ : Mem} {kc ks : Nat} {x y : Int} (hΦ : St G Φ cc own nL fr lo mc ms) (d : decode cc pc = .ok (.lcmp, 1)) (hxr : R64 x) (hy : R64 y) (k : Ex G Φ nL (pc + 1) L ((0, mcmp x y) :: st) S μ kc ks) : Ex G Φ nL (pc) L ((1, y) :: (1, x) :: st) S μ kc ks := by
  obtain ⟨p, e, R, s, m, args, below, meth, c, Q⟩ := Φ
  obtain ⟨hx, hb, hml, hown, hts, hK, hsz, hR⟩ := hΦ
  intro H locs ls hz hW hS hl
  show W _ _ _ _ _ _ _ _ _ _ _ _ _ _ _ (F0 m pc ls (.long (Int64.ofInt y) :: .long (Int64.ofInt x) :: st.map (mv G)))
  refine W.lcmp hx hb d ?_
  rw [i64_cmp hxr hy]
  exact k H locs ls hz hW hS hl
theorem ex_iconst {G : Gm} {Φ : Fr} {cc : ByteArray} {own : String} {nL fr lo mc ms pc : Nat} {L : List (Option AV)} {st : List AV} {S : List Sh} {μ : Mem} {kc ks : Nat} {n : Int} (hΦ : St G Φ cc own nL fr lo mc ms) (d : decode cc pc = .ok (.iconst n, 1)) (k : Ex G Φ nL (pc + 1) L ((0, n) :: st) S μ kc ks) : Ex G Φ nL (pc) L (st) S μ kc ks := by
  obtain ⟨p, e, R, s, m, args, below, meth, c, Q⟩ := Φ
  obtain ⟨hx, hb, hml, hown, hts, hK, hsz, hR⟩ := hΦ
  intro H locs ls hz hW hS hl
  show W _ _ _ _ _ _ _ _ _ _ _ _ _ _ _ (F0 m pc ls (st.map (mv G)))
  refine lv_iconst hx hb d rfl ?_
  exact k H locs ls hz hW hS hl
theorem ex_bipush {G : Gm} {Φ : Fr} {cc : ByteArray} {own : String} {nL fr lo mc ms pc : Nat} {L : List (Option AV)} {st : List AV} {S : List Sh} {μ : Mem} {kc ks : Nat} {n : Int} (hΦ : St G Φ cc own nL fr lo mc ms) (d : decode cc pc = .ok (.bipush n, 2)) (hn : (Int8.ofInt n).toInt32 = Int32.ofInt n) (k : Ex G Φ nL (pc + 2) L ((0, n) :: st) S μ kc ks) : Ex G Φ nL (pc) L (st) S μ kc ks := by
  obtain ⟨p, e, R, s, m, args, below, meth, c, Q⟩ := Φ
  obtain ⟨hx, hb, hml, hown, hts, hK, hsz, hR⟩ := hΦ
  intro H locs ls hz hW hS hl
  show W _ _ _ _ _ _ _ _ _ _ _ _ _ _ _ (F0 m pc ls (st.map (mv G)))
  refine lv_bipush hx hb d hn ?_
  exact k H locs ls hz hW hS hl
theorem ex_sipush {G : Gm} {Φ : Fr} {cc : ByteArray} {own : String} {nL fr lo mc ms pc : Nat} {L : List (Option AV)} {st : List AV} {S : List Sh} {μ : Mem} {kc ks : Nat} {n : Int} (hΦ : St G Φ cc own nL fr lo mc ms) (d : decode cc pc = .ok (.sipush n, 3)) (hn : (Int16.ofInt n).toInt32 = Int32.ofInt n) (k : Ex G Φ nL (pc + 3) L ((0, n) :: st) S μ kc ks) : Ex G Φ nL (pc) L (st) S μ kc ks := by
  obtain ⟨p, e, R, s, m, args, below, meth, c, Q⟩ := Φ
  obtain ⟨hx, hb, hml, hown, hts, hK, hsz, hR⟩ := hΦ
  intro H locs ls hz hW hS hl
  show W _ _ _ _ _ _ _ _ _ _ _ _ _ _ _ (F0 m pc ls (st.map (mv G)))
  refine lv_sipush hx hb d hn ?_
  exact k H locs ls hz hW hS hl
theorem ex_lconst {G : Gm} {Φ : Fr} {cc : ByteArray} {own : String} {nL fr lo mc ms pc : Nat} {L : List (Option AV)} {st : List AV} {S : List Sh} {μ : Mem} {kc ks : Nat} {n : Fin 2} {x : Int} (hΦ : St G Φ cc own nL fr lo mc ms) (d : decode cc pc = .ok (.lconst n, 1)) (hn : Int64.ofNat n.val = Int64.ofInt x) (k : Ex G Φ nL (pc + 1) L ((1, x) :: st) S μ kc ks) : Ex G Φ nL (pc) L (st) S μ kc ks := by
  obtain ⟨p, e, R, s, m, args, below, meth, c, Q⟩ := Φ
  obtain ⟨hx, hb, hml, hown, hts, hK, hsz, hR⟩ := hΦ
  intro H locs ls hz hW hS hl
  show W _ _ _ _ _ _ _ _ _ _ _ _ _ _ _ (F0 m pc ls (st.map (mv G)))
  refine lv_lconst hx hb d hn ?_
  exact k H locs ls hz hW hS hl
theorem ex_ldc {G : Gm} {Φ : Fr} {cc : ByteArray} {own : String} {nL fr lo mc ms pc : Nat} {L : List (Option AV)} {st : List AV} {S : List Sh} {μ : Mem} {kc ks : Nat} {i : Nat} {x : Int} (hΦ : St G Φ cc own nL fr lo mc ms) (d : decode cc pc = .ok (.ldc i, 2)) (hc : Cond.constant own i (Int32.ofInt x) ∈ wsT) (k : Ex G Φ nL (pc + 2) L ((0, x) :: st) S μ kc ks) : Ex G Φ nL (pc) L (st) S μ kc ks := by
  obtain ⟨p, e, R, s, m, args, below, meth, c, Q⟩ := Φ
  obtain ⟨hx, hb, hml, hown, hts, hK, hsz, hR⟩ := hΦ
  intro H locs ls hz hW hS hl
  show W _ _ _ _ _ _ _ _ _ _ _ _ _ _ _ (F0 m pc ls (st.map (mv G)))
  refine lv_ldc hx hb hown (hts _ hc) d ?_
  exact k H locs ls hz hW hS hl
theorem ex_ldc2 {G : Gm} {Φ : Fr} {cc : ByteArray} {own : String} {nL fr lo mc ms pc : Nat} {L : List (Option AV)} {st : List AV} {S : List Sh} {μ : Mem} {kc ks : Nat} {i : Nat} {x : Int} (hΦ : St G Φ cc own nL fr lo mc ms) (d : decode cc pc = .ok (.ldc2_w i, 3)) (hc : Cond.constantLong own i (Int64.ofInt x) ∈ wsT) (k : Ex G Φ nL (pc + 3) L ((1, x) :: st) S μ kc ks) : Ex G Φ nL (pc) L (st) S μ kc ks := by
  obtain ⟨p, e, R, s, m, args, below, meth, c, Q⟩ := Φ
  obtain ⟨hx, hb, hml, hown, hts, hK, hsz, hR⟩ := hΦ
  intro H locs ls hz hW hS hl
  show W _ _ _ _ _ _ _ _ _ _ _ _ _ _ _ (F0 m pc ls (st.map (mv G)))
  refine lv_ldc2 hx hb hown (hts _ hc) d ?_
  exact k H locs ls hz hW hS hl
theorem ex_ldcw {G : Gm} {Φ : Fr} {cc : ByteArray} {own : String} {nL fr lo mc ms pc : Nat} {L : List (Option AV)} {st : List AV} {S : List Sh} {μ : Mem} {kc ks : Nat} {i : Nat} {x : Int} (hΦ : St G Φ cc own nL fr lo mc ms) (d : decode cc pc = .ok (.ldc_w i, 3)) (hc : Cond.constant own i (Int32.ofInt x) ∈ wsT) (k : Ex G Φ nL (pc + 3) L ((0, x) :: st) S μ kc ks) : Ex G Φ nL (pc) L (st) S μ kc ks := by
  obtain ⟨p, e, R, s, m, args, below, meth, c, Q⟩ := Φ
  obtain ⟨hx, hb, hml, hown, hts, hK, hsz, hR⟩ := hΦ
  intro H locs ls hz hW hS hl
  show W _ _ _ _ _ _ _ _ _ _ _ _ _ _ _ (F0 m pc ls (st.map (mv G)))
  refine lv_ldcw hx hb hown (hts _ hc) d ?_
  exact k H locs ls hz hW hS hl
theorem ex_iload {G : Gm} {Φ : Fr} {cc : ByteArray} {own : String} {nL fr lo mc ms pc : Nat} {L : List (Option AV)} {st : List AV} {S : List Sh} {μ : Mem} {kc ks : Nat} {i : Nat} {x : Int} (hΦ : St G Φ cc own nL fr lo mc ms) (d : decode cc pc = .ok (.iload i, 2)) (hi : L[i]? = some (some (0, x))) (k : Ex G Φ nL (pc + 2) L ((0, x) :: st) S μ kc ks) : Ex G Φ nL (pc) L (st) S μ kc ks := by
  obtain ⟨p, e, R, s, m, args, below, meth, c, Q⟩ := Φ
  obtain ⟨hx, hb, hml, hown, hts, hK, hsz, hR⟩ := hΦ
  intro H locs ls hz hW hS hl
  show W _ _ _ _ _ _ _ _ _ _ _ _ _ _ _ (F0 m pc ls (st.map (mv G)))
  refine lv_iload hx hb d (lhas_at (v := (0, x)) hl hi) ?_
  exact k H locs ls hz hW hS hl
theorem ex_iload_n {G : Gm} {Φ : Fr} {cc : ByteArray} {own : String} {nL fr lo mc ms pc : Nat} {L : List (Option AV)} {st : List AV} {S : List Sh} {μ : Mem} {kc ks : Nat} {n : Fin 4} {x : Int} (hΦ : St G Φ cc own nL fr lo mc ms) (d : decode cc pc = .ok (.iload_n n, 1)) (hi : L[n.val]? = some (some (0, x))) (k : Ex G Φ nL (pc + 1) L ((0, x) :: st) S μ kc ks) : Ex G Φ nL (pc) L (st) S μ kc ks := by
  obtain ⟨p, e, R, s, m, args, below, meth, c, Q⟩ := Φ
  obtain ⟨hx, hb, hml, hown, hts, hK, hsz, hR⟩ := hΦ
  intro H locs ls hz hW hS hl
  show W _ _ _ _ _ _ _ _ _ _ _ _ _ _ _ (F0 m pc ls (st.map (mv G)))
  refine lv_iload_n hx hb d rfl (lhas_at (v := (0, x)) hl hi) ?_
  exact k H locs ls hz hW hS hl
theorem ex_lload {G : Gm} {Φ : Fr} {cc : ByteArray} {own : String} {nL fr lo mc ms pc : Nat} {L : List (Option AV)} {st : List AV} {S : List Sh} {μ : Mem} {kc ks : Nat} {i : Nat} {x : Int} (hΦ : St G Φ cc own nL fr lo mc ms) (d : decode cc pc = .ok (.lload i, 2)) (hi : L[i]? = some (some (1, x))) (k : Ex G Φ nL (pc + 2) L ((1, x) :: st) S μ kc ks) : Ex G Φ nL (pc) L (st) S μ kc ks := by
  obtain ⟨p, e, R, s, m, args, below, meth, c, Q⟩ := Φ
  obtain ⟨hx, hb, hml, hown, hts, hK, hsz, hR⟩ := hΦ
  intro H locs ls hz hW hS hl
  show W _ _ _ _ _ _ _ _ _ _ _ _ _ _ _ (F0 m pc ls (st.map (mv G)))
  refine lv_lload hx hb d (lhas_at (v := (1, x)) hl hi) ?_
  exact k H locs ls hz hW hS hl
theorem ex_lload_n {G : Gm} {Φ : Fr} {cc : ByteArray} {own : String} {nL fr lo mc ms pc : Nat} {L : List (Option AV)} {st : List AV} {S : List Sh} {μ : Mem} {kc ks : Nat} {n : Fin 4} {x : Int} (hΦ : St G Φ cc own nL fr lo mc ms) (d : decode cc pc = .ok (.lload_n n, 1)) (hi : L[n.val]? = some (some (1, x))) (k : Ex G Φ nL (pc + 1) L ((1, x) :: st) S μ kc ks) : Ex G Φ nL (pc) L (st) S μ kc ks := by
  obtain ⟨p, e, R, s, m, args, below, meth, c, Q⟩ := Φ
  obtain ⟨hx, hb, hml, hown, hts, hK, hsz, hR⟩ := hΦ
  intro H locs ls hz hW hS hl
  show W _ _ _ _ _ _ _ _ _ _ _ _ _ _ _ (F0 m pc ls (st.map (mv G)))
  refine lv_lload_n hx hb d rfl (lhas_at (v := (1, x)) hl hi) ?_
  exact k H locs ls hz hW hS hl
theorem ex_aload {G : Gm} {Φ : Fr} {cc : ByteArray} {own : String} {nL fr lo mc ms pc : Nat} {L : List (Option AV)} {st : List AV} {S : List Sh} {μ : Mem} {kc ks : Nat} {i : Nat} {x : Int} (hΦ : St G Φ cc own nL fr lo mc ms) (d : decode cc pc = .ok (.aload i, 2)) (hi : L[i]? = some (some (2, x))) (h0 : 0 ≤ x) (k : Ex G Φ nL (pc + 2) L ((2, x) :: st) S μ kc ks) : Ex G Φ nL (pc) L (st) S μ kc ks := by
  obtain ⟨p, e, R, s, m, args, below, meth, c, Q⟩ := Φ
  obtain ⟨hx, hb, hml, hown, hts, hK, hsz, hR⟩ := hΦ
  intro H locs ls hz hW hS hl
  have h1 := lhas_at (v := (2, x)) hl hi
  have h2 := k H locs ls hz hW hS hl
  rw [List.map_cons, mv_ref h0] at h2
  rw [mv_ref h0] at h1
  exact lv_aload hx hb d h1 h2
theorem ex_aload_n {G : Gm} {Φ : Fr} {cc : ByteArray} {own : String} {nL fr lo mc ms pc : Nat} {L : List (Option AV)} {st : List AV} {S : List Sh} {μ : Mem} {kc ks : Nat} {n : Fin 4} {x : Int} (hΦ : St G Φ cc own nL fr lo mc ms) (d : decode cc pc = .ok (.aload_n n, 1)) (hi : L[n.val]? = some (some (2, x))) (h0 : 0 ≤ x) (k : Ex G Φ nL (pc + 1) L ((2, x) :: st) S μ kc ks) : Ex G Φ nL (pc) L (st) S μ kc ks := by
  obtain ⟨p, e, R, s, m, args, below, meth, c, Q⟩ := Φ
  obtain ⟨hx, hb, hml, hown, hts, hK, hsz, hR⟩ := hΦ
  intro H locs ls hz hW hS hl
  have h1 := lhas_at (v := (2, x)) hl hi
  have h2 := k H locs ls hz hW hS hl
  rw [List.map_cons, mv_ref h0] at h2
  rw [mv_ref h0] at h1
  exact lv_aload_n hx hb d rfl h1 h2
theorem ex_istore {G : Gm} {Φ : Fr} {cc : ByteArray} {own : String} {nL fr lo mc ms pc : Nat} {L : List (Option AV)} {st : List AV} {S : List Sh} {μ : Mem} {kc ks : Nat} {i : Nat} {x : Int} {L' : List (Option AV)} (hΦ : St G Φ cc own nL fr lo mc ms) (d : decode cc pc = .ok (.istore i, 2)) (hn : i < nL) (hL : ls1 L i (0, x) = L') (k : Ex G Φ nL (pc + 2) L' (st) S μ kc ks) : Ex G Φ nL (pc) L ((0, x) :: st) S μ kc ks := by
  subst hL
  obtain ⟨p, e, R, s, m, args, below, meth, c, Q⟩ := Φ
  obtain ⟨hx, hb, hml, hown, hts, hK, hsz, hR⟩ := hΦ
  intro H locs ls hz hW hS hl
  exact lv_istore hx hb d (lhas_lv hl) hn rfl (fun ls' h' => k H locs ls' hz hW hS (lhas_1 h'))
theorem ex_istore_n {G : Gm} {Φ : Fr} {cc : ByteArray} {own : String} {nL fr lo mc ms pc : Nat} {L : List (Option AV)} {st : List AV} {S : List Sh} {μ : Mem} {kc ks : Nat} {n : Fin 4} {x : Int} {L' : List (Option AV)} (hΦ : St G Φ cc own nL fr lo mc ms) (d : decode cc pc = .ok (.istore_n n, 1)) (hn : n.val < nL) (hL : ls1 L n.val (0, x) = L') (k : Ex G Φ nL (pc + 1) L' (st) S μ kc ks) : Ex G Φ nL (pc) L ((0, x) :: st) S μ kc ks := by
  subst hL
  obtain ⟨p, e, R, s, m, args, below, meth, c, Q⟩ := Φ
  obtain ⟨hx, hb, hml, hown, hts, hK, hsz, hR⟩ := hΦ
  intro H locs ls hz hW hS hl
  exact lv_istore_n hx hb d rfl (lhas_lv hl) hn rfl (fun ls' h' => k H locs ls' hz hW hS (lhas_1 h'))
theorem ex_lstore {G : Gm} {Φ : Fr} {cc : ByteArray} {own : String} {nL fr lo mc ms pc : Nat} {L : List (Option AV)} {st : List AV} {S : List Sh} {μ : Mem} {kc ks : Nat} {i : Nat} {x : Int} {L' : List (Option AV)} (hΦ : St G Φ cc own nL fr lo mc ms) (d : decode cc pc = .ok (.lstore i, 2)) (hn : i + 1 < nL) (hL : ls2 L i (1, x) = L') (k : Ex G Φ nL (pc + 2) L' (st) S μ kc ks) : Ex G Φ nL (pc) L ((1, x) :: st) S μ kc ks := by
  subst hL
  obtain ⟨p, e, R, s, m, args, below, meth, c, Q⟩ := Φ
  obtain ⟨hx, hb, hml, hown, hts, hK, hsz, hR⟩ := hΦ
  intro H locs ls hz hW hS hl
  exact lv_lstore hx hb d (lhas_lv hl) hn rfl (fun ls' h' => k H locs ls' hz hW hS (lhas_2 h'))
theorem ex_lstore_n {G : Gm} {Φ : Fr} {cc : ByteArray} {own : String} {nL fr lo mc ms pc : Nat} {L : List (Option AV)} {st : List AV} {S : List Sh} {μ : Mem} {kc ks : Nat} {n : Fin 4} {x : Int} {L' : List (Option AV)} (hΦ : St G Φ cc own nL fr lo mc ms) (d : decode cc pc = .ok (.lstore_n n, 1)) (hn : n.val + 1 < nL) (hL : ls2 L n.val (1, x) = L') (k : Ex G Φ nL (pc + 1) L' (st) S μ kc ks) : Ex G Φ nL (pc) L ((1, x) :: st) S μ kc ks := by
  subst hL
  obtain ⟨p, e, R, s, m, args, below, meth, c, Q⟩ := Φ
  obtain ⟨hx, hb, hml, hown, hts, hK, hsz, hR⟩ := hΦ
  intro H locs ls hz hW hS hl
  exact lv_lstore_n hx hb d rfl (lhas_lv hl) hn rfl (fun ls' h' => k H locs ls' hz hW hS (lhas_2 h'))
theorem ex_astore {G : Gm} {Φ : Fr} {cc : ByteArray} {own : String} {nL fr lo mc ms pc : Nat} {L : List (Option AV)} {st : List AV} {S : List Sh} {μ : Mem} {kc ks : Nat} {i : Nat} {x : Int} {L' : List (Option AV)} (hΦ : St G Φ cc own nL fr lo mc ms) (d : decode cc pc = .ok (.astore i, 2)) (hn : i < nL) (h0 : 0 ≤ x) (hL : ls1 L i (2, x) = L') (k : Ex G Φ nL (pc + 2) L' (st) S μ kc ks) : Ex G Φ nL (pc) L ((2, x) :: st) S μ kc ks := by
  subst hL
  obtain ⟨p, e, R, s, m, args, below, meth, c, Q⟩ := Φ
  obtain ⟨hx, hb, hml, hown, hts, hK, hsz, hR⟩ := hΦ
  intro H locs ls hz hW hS hl
  rw [List.map_cons, mv_ref h0]
  exact lv_astore hx hb d (lhas_lv hl) hn rfl (fun ls' h' => k H locs ls' hz hW hS (lhas_1 (by rw [mv_ref h0]; exact h')))
theorem ex_astore_n {G : Gm} {Φ : Fr} {cc : ByteArray} {own : String} {nL fr lo mc ms pc : Nat} {L : List (Option AV)} {st : List AV} {S : List Sh} {μ : Mem} {kc ks : Nat} {n : Fin 4} {x : Int} {L' : List (Option AV)} (hΦ : St G Φ cc own nL fr lo mc ms) (d : decode cc pc = .ok (.astore_n n, 1)) (hn : n.val < nL) (h0 : 0 ≤ x) (hL : ls1 L n.val (2, x) = L') (k : Ex G Φ nL (pc + 1) L' (st) S μ kc ks) : Ex G Φ nL (pc) L ((2, x) :: st) S μ kc ks := by
  subst hL
  obtain ⟨p, e, R, s, m, args, below, meth, c, Q⟩ := Φ
  obtain ⟨hx, hb, hml, hown, hts, hK, hsz, hR⟩ := hΦ
  intro H locs ls hz hW hS hl
  rw [List.map_cons, mv_ref h0]
  exact lv_astore_n hx hb d rfl (lhas_lv hl) hn rfl (fun ls' h' => k H locs ls' hz hW hS (lhas_1 (by rw [mv_ref h0]; exact h')))
theorem ex_iinc {G : Gm} {Φ : Fr} {cc : ByteArray} {own : String} {nL fr lo mc ms pc : Nat} {L : List (Option AV)} {st : List AV} {S : List Sh} {μ : Mem} {kc ks : Nat} {i : Nat} {n x : Int} {L' : List (Option AV)} (hΦ : St G Φ cc own nL fr lo mc ms) (d : decode cc pc = .ok (.iinc i n, 3)) (hi : L[i]? = some (some (0, x))) (hn : i < nL) (hL : ls1 L i (0, x + n) = L') (k : Ex G Φ nL (pc + 3) L' (st) S μ kc ks) : Ex G Φ nL (pc) L (st) S μ kc ks := by
  subst hL
  obtain ⟨p, e, R, s, m, args, below, meth, c, Q⟩ := Φ
  obtain ⟨hx, hb, hml, hown, hts, hK, hsz, hR⟩ := hΦ
  intro H locs ls hz hW hS hl
  have hm : (i, mv G (0, x)) ∈ lpairs G L := lpairs_mem.mpr ⟨(0, x), hi, rfl⟩
  obtain ⟨q, hq⟩ := List.getElem?_of_mem hm
  exact lv_iinc (x := Int32.ofInt x) (v := Int32.ofInt (x + n)) hx hb d (lhas_lv hl) (k := q) hq (Int32.ofInt_add x n).symm hn rfl (fun ls' h' => k H locs ls' hz hW hS (lhas_1 (u := (0, x + n)) h'))
theorem mv_cat1 {G : Gm} {v : AV} (h : v.1 ≠ 1) : (mv G v).category = 1 := by
  rcases lv_cat (mv G v) with q | q
  · exact q
  · exact absurd (mv_cat q) h
theorem ex_dup {G : Gm} {Φ : Fr} {cc : ByteArray} {own : String} {nL fr lo mc ms pc : Nat} {L : List (Option AV)} {st : List AV} {S : List Sh} {μ : Mem} {kc ks : Nat} {v : AV} (hΦ : St G Φ cc own nL fr lo mc ms) (d : decode cc pc = .ok (.dup, 1)) (hv : v.1 ≠ 1) (k : Ex G Φ nL (pc + 1) L (v :: v :: st) S μ kc ks) : Ex G Φ nL (pc) L (v :: st) S μ kc ks := by
  obtain ⟨p, e, R, s, m, args, below, meth, c, Q⟩ := Φ
  obtain ⟨hx, hb, hml, hown, hts, hK, hsz, hR⟩ := hΦ
  intro H locs ls hz hW hS hl
  show W _ _ _ _ _ _ _ _ _ _ _ _ _ _ _ (F0 m pc ls (mv G v :: st.map (mv G)))
  refine lv_dup hx hb d (mv_cat1 hv) ?_
  exact k H locs ls hz hW hS hl
theorem ex_pop {G : Gm} {Φ : Fr} {cc : ByteArray} {own : String} {nL fr lo mc ms pc : Nat} {L : List (Option AV)} {st : List AV} {S : List Sh} {μ : Mem} {kc ks : Nat} {v : AV} (hΦ : St G Φ cc own nL fr lo mc ms) (d : decode cc pc = .ok (.pop, 1)) (hv : v.1 ≠ 1) (k : Ex G Φ nL (pc + 1) L (st) S μ kc ks) : Ex G Φ nL (pc) L (v :: st) S μ kc ks := by
  obtain ⟨p, e, R, s, m, args, below, meth, c, Q⟩ := Φ
  obtain ⟨hx, hb, hml, hown, hts, hK, hsz, hR⟩ := hΦ
  intro H locs ls hz hW hS hl
  show W _ _ _ _ _ _ _ _ _ _ _ _ _ _ _ (F0 m pc ls (mv G v :: st.map (mv G)))
  refine lv_pop hx hb d (mv_cat1 hv) ?_
  exact k H locs ls hz hW hS hl
theorem ex_dup_x1 {G : Gm} {Φ : Fr} {cc : ByteArray} {own : String} {nL fr lo mc ms pc : Nat} {L : List (Option AV)} {st : List AV} {S : List Sh} {μ : Mem} {kc ks : Nat} {v u : AV} (hΦ : St G Φ cc own nL fr lo mc ms) (d : decode cc pc = .ok (.dup_x1, 1)) (hv : v.1 ≠ 1) (hu : u.1 ≠ 1) (k : Ex G Φ nL (pc + 1) L (v :: u :: v :: st) S μ kc ks) : Ex G Φ nL (pc) L (v :: u :: st) S μ kc ks := by
  obtain ⟨p, e, R, s, m, args, below, meth, c, Q⟩ := Φ
  obtain ⟨hx, hb, hml, hown, hts, hK, hsz, hR⟩ := hΦ
  intro H locs ls hz hW hS hl
  show W _ _ _ _ _ _ _ _ _ _ _ _ _ _ _ (F0 m pc ls (mv G v :: mv G u :: st.map (mv G)))
  refine lv_dup_x1 hx hb d (mv_cat1 hv) (mv_cat1 hu) ?_
  exact k H locs ls hz hW hS hl
theorem ex_dup2 {G : Gm} {Φ : Fr} {cc : ByteArray} {own : String} {nL fr lo mc ms pc : Nat} {L : List (Option AV)} {st : List AV} {S : List Sh} {μ : Mem} {kc ks : Nat} {v u : AV} (hΦ : St G Φ cc own nL fr lo mc ms) (d : decode cc pc = .ok (.dup2, 1)) (hv : v.1 ≠ 1) (hu : u.1 ≠ 1) (k : Ex G Φ nL (pc + 1) L (v :: u :: v :: u :: st) S μ kc ks) : Ex G Φ nL (pc) L (v :: u :: st) S μ kc ks := by
  obtain ⟨p, e, R, s, m, args, below, meth, c, Q⟩ := Φ
  obtain ⟨hx, hb, hml, hown, hts, hK, hsz, hR⟩ := hΦ
  intro H locs ls hz hW hS hl
  show W _ _ _ _ _ _ _ _ _ _ _ _ _ _ _ (F0 m pc ls (mv G v :: mv G u :: st.map (mv G)))
  refine lv_dup2_11 hx hb d (mv_cat1 hv) (mv_cat1 hu) ?_
  exact k H locs ls hz hW hS hl
theorem ex_icmp_eq {G : Gm} {Φ : Fr} {cc : ByteArray} {own : String} {nL fr lo mc ms pc : Nat} {L : List (Option AV)} {st : List AV} {S : List Sh} {μ : Mem} {kc ks : Nat} {x y off : Int} (tgt : Nat) (hΦ : St G Φ cc own nL fr lo mc ms) (d : decode cc pc = .ok (.if_icmp .eq off, 3)) (ht : (pc : Int) + off = (tgt : Int)) (hxr : R32 x) (hyr : R32 y) (kt : x = y → Ex G Φ nL (tgt) L (st) S μ kc ks) (kf : ¬ (x = y) → Ex G Φ nL (pc + 3) L (st) S μ kc ks) : Ex G Φ nL (pc) L ((0, y) :: (0, x) :: st) S μ kc ks := by
  obtain ⟨p, e, R, s, m, args, below, meth, c, Q⟩ := Φ
  obtain ⟨hx, hb, hml, hown, hts, hK, hsz, hR⟩ := hΦ
  intro H locs ls hz hW hS hl
  show W _ _ _ _ _ _ _ _ _ _ _ _ _ _ _ (F0 m pc ls (.int (Int32.ofInt y) :: .int (Int32.ofInt x) :: st.map (mv G)))
  refine lv_icmp_eq hx hb d ht (fun q => kt ((i32_eq hxr hyr).mp q) H locs ls hz hW hS hl) (fun q => kf (fun z => q ((i32_eq hxr hyr).mpr z)) H locs ls hz hW hS hl)
theorem ex_if_eq {G : Gm} {Φ : Fr} {cc : ByteArray} {own : String} {nL fr lo mc ms pc : Nat} {L : List (Option AV)} {st : List AV} {S : List Sh} {μ : Mem} {kc ks : Nat} {x off : Int} (tgt : Nat) (hΦ : St G Φ cc own nL fr lo mc ms) (d : decode cc pc = .ok (.ifCond .eq off, 3)) (ht : (pc : Int) + off = (tgt : Int)) (hxr : R32 x) (kt : x = 0 → Ex G Φ nL (tgt) L (st) S μ kc ks) (kf : ¬ (x = 0) → Ex G Φ nL (pc + 3) L (st) S μ kc ks) : Ex G Φ nL (pc) L ((0, x) :: st) S μ kc ks := by
  obtain ⟨p, e, R, s, m, args, below, meth, c, Q⟩ := Φ
  obtain ⟨hx, hb, hml, hown, hts, hK, hsz, hR⟩ := hΦ
  intro H locs ls hz hW hS hl
  show W _ _ _ _ _ _ _ _ _ _ _ _ _ _ _ (F0 m pc ls (.int (Int32.ofInt x) :: st.map (mv G)))
  refine lv_if_eq hx hb d ht (fun q => kt ((i32_eq hxr R32_0).mp q) H locs ls hz hW hS hl) (fun q => kf (fun z => q ((i32_eq hxr R32_0).mpr z)) H locs ls hz hW hS hl)
theorem ex_icmp_ne {G : Gm} {Φ : Fr} {cc : ByteArray} {own : String} {nL fr lo mc ms pc : Nat} {L : List (Option AV)} {st : List AV} {S : List Sh} {μ : Mem} {kc ks : Nat} {x y off : Int} (tgt : Nat) (hΦ : St G Φ cc own nL fr lo mc ms) (d : decode cc pc = .ok (.if_icmp .ne off, 3)) (ht : (pc : Int) + off = (tgt : Int)) (hxr : R32 x) (hyr : R32 y) (kt : x ≠ y → Ex G Φ nL (tgt) L (st) S μ kc ks) (kf : x = y → Ex G Φ nL (pc + 3) L (st) S μ kc ks) : Ex G Φ nL (pc) L ((0, y) :: (0, x) :: st) S μ kc ks := by
  obtain ⟨p, e, R, s, m, args, below, meth, c, Q⟩ := Φ
  obtain ⟨hx, hb, hml, hown, hts, hK, hsz, hR⟩ := hΦ
  intro H locs ls hz hW hS hl
  show W _ _ _ _ _ _ _ _ _ _ _ _ _ _ _ (F0 m pc ls (.int (Int32.ofInt y) :: .int (Int32.ofInt x) :: st.map (mv G)))
  refine lv_icmp_ne hx hb d ht (fun q => kt ((not_congr (i32_eq hxr hyr)).mp q) H locs ls hz hW hS hl) (fun q => kf ((i32_eq hxr hyr).mp q) H locs ls hz hW hS hl)
theorem ex_if_ne {G : Gm} {Φ : Fr} {cc : ByteArray} {own : String} {nL fr lo mc ms pc : Nat} {L : List (Option AV)} {st : List AV} {S : List Sh} {μ : Mem} {kc ks : Nat} {x off : Int} (tgt : Nat) (hΦ : St G Φ cc own nL fr lo mc ms) (d : decode cc pc = .ok (.ifCond .ne off, 3)) (ht : (pc : Int) + off = (tgt : Int)) (hxr : R32 x) (kt : x ≠ 0 → Ex G Φ nL (tgt) L (st) S μ kc ks) (kf : x = 0 → Ex G Φ nL (pc + 3) L (st) S μ kc ks) : Ex G Φ nL (pc) L ((0, x) :: st) S μ kc ks := by
  obtain ⟨p, e, R, s, m, args, below, meth, c, Q⟩ := Φ
  obtain ⟨hx, hb, hml, hown, hts, hK, hsz, hR⟩ := hΦ
  intro H locs ls hz hW hS hl
  show W _ _ _ _ _ _ _ _ _ _ _ _ _ _ _ (F0 m pc ls (.int (Int32.ofInt x) :: st.map (mv G)))
  refine lv_if_ne hx hb d ht (fun q => kt ((not_congr (i32_eq hxr R32_0)).mp q) H locs ls hz hW hS hl) (fun q => kf ((i32_eq hxr R32_0).mp q) H locs ls hz hW hS hl)
theorem ex_icmp_lt {G : Gm} {Φ : Fr} {cc : ByteArray} {own : String} {nL fr lo mc ms pc : Nat} {L : List (Option AV)} {st : List AV} {S : List Sh} {μ : Mem} {kc ks : Nat} {x y off : Int} (tgt : Nat) (hΦ : St G Φ cc own nL fr lo mc ms) (d : decode cc pc = .ok (.if_icmp .lt off, 3)) (ht : (pc : Int) + off = (tgt : Int)) (hxr : R32 x) (hyr : R32 y) (kt : x < y → Ex G Φ nL (tgt) L (st) S μ kc ks) (kf : ¬ (x < y) → Ex G Φ nL (pc + 3) L (st) S μ kc ks) : Ex G Φ nL (pc) L ((0, y) :: (0, x) :: st) S μ kc ks := by
  obtain ⟨p, e, R, s, m, args, below, meth, c, Q⟩ := Φ
  obtain ⟨hx, hb, hml, hown, hts, hK, hsz, hR⟩ := hΦ
  intro H locs ls hz hW hS hl
  show W _ _ _ _ _ _ _ _ _ _ _ _ _ _ _ (F0 m pc ls (.int (Int32.ofInt y) :: .int (Int32.ofInt x) :: st.map (mv G)))
  refine lv_icmp_lt hx hb d ht (fun q => kt ((i32_lt hxr hyr).mp q) H locs ls hz hW hS hl) (fun q => kf (fun z => q ((i32_lt hxr hyr).mpr z)) H locs ls hz hW hS hl)
theorem ex_if_lt {G : Gm} {Φ : Fr} {cc : ByteArray} {own : String} {nL fr lo mc ms pc : Nat} {L : List (Option AV)} {st : List AV} {S : List Sh} {μ : Mem} {kc ks : Nat} {x off : Int} (tgt : Nat) (hΦ : St G Φ cc own nL fr lo mc ms) (d : decode cc pc = .ok (.ifCond .lt off, 3)) (ht : (pc : Int) + off = (tgt : Int)) (hxr : R32 x) (kt : x < 0 → Ex G Φ nL (tgt) L (st) S μ kc ks) (kf : ¬ (x < 0) → Ex G Φ nL (pc + 3) L (st) S μ kc ks) : Ex G Φ nL (pc) L ((0, x) :: st) S μ kc ks := by
  obtain ⟨p, e, R, s, m, args, below, meth, c, Q⟩ := Φ
  obtain ⟨hx, hb, hml, hown, hts, hK, hsz, hR⟩ := hΦ
  intro H locs ls hz hW hS hl
  show W _ _ _ _ _ _ _ _ _ _ _ _ _ _ _ (F0 m pc ls (.int (Int32.ofInt x) :: st.map (mv G)))
  refine lv_if_lt hx hb d ht (fun q => kt ((i32_lt hxr R32_0).mp q) H locs ls hz hW hS hl) (fun q => kf (fun z => q ((i32_lt hxr R32_0).mpr z)) H locs ls hz hW hS hl)
theorem ex_icmp_ge {G : Gm} {Φ : Fr} {cc : ByteArray} {own : String} {nL fr lo mc ms pc : Nat} {L : List (Option AV)} {st : List AV} {S : List Sh} {μ : Mem} {kc ks : Nat} {x y off : Int} (tgt : Nat) (hΦ : St G Φ cc own nL fr lo mc ms) (d : decode cc pc = .ok (.if_icmp .ge off, 3)) (ht : (pc : Int) + off = (tgt : Int)) (hxr : R32 x) (hyr : R32 y) (kt : y ≤ x → Ex G Φ nL (tgt) L (st) S μ kc ks) (kf : ¬ (y ≤ x) → Ex G Φ nL (pc + 3) L (st) S μ kc ks) : Ex G Φ nL (pc) L ((0, y) :: (0, x) :: st) S μ kc ks := by
  obtain ⟨p, e, R, s, m, args, below, meth, c, Q⟩ := Φ
  obtain ⟨hx, hb, hml, hown, hts, hK, hsz, hR⟩ := hΦ
  intro H locs ls hz hW hS hl
  show W _ _ _ _ _ _ _ _ _ _ _ _ _ _ _ (F0 m pc ls (.int (Int32.ofInt y) :: .int (Int32.ofInt x) :: st.map (mv G)))
  refine lv_icmp_ge hx hb d ht (fun q => kt ((i32_le hyr hxr).mp q) H locs ls hz hW hS hl) (fun q => kf (fun z => q ((i32_le hyr hxr).mpr z)) H locs ls hz hW hS hl)
theorem ex_if_ge {G : Gm} {Φ : Fr} {cc : ByteArray} {own : String} {nL fr lo mc ms pc : Nat} {L : List (Option AV)} {st : List AV} {S : List Sh} {μ : Mem} {kc ks : Nat} {x off : Int} (tgt : Nat) (hΦ : St G Φ cc own nL fr lo mc ms) (d : decode cc pc = .ok (.ifCond .ge off, 3)) (ht : (pc : Int) + off = (tgt : Int)) (hxr : R32 x) (kt : 0 ≤ x → Ex G Φ nL (tgt) L (st) S μ kc ks) (kf : ¬ (0 ≤ x) → Ex G Φ nL (pc + 3) L (st) S μ kc ks) : Ex G Φ nL (pc) L ((0, x) :: st) S μ kc ks := by
  obtain ⟨p, e, R, s, m, args, below, meth, c, Q⟩ := Φ
  obtain ⟨hx, hb, hml, hown, hts, hK, hsz, hR⟩ := hΦ
  intro H locs ls hz hW hS hl
  show W _ _ _ _ _ _ _ _ _ _ _ _ _ _ _ (F0 m pc ls (.int (Int32.ofInt x) :: st.map (mv G)))
  refine lv_if_ge hx hb d ht (fun q => kt ((i32_le R32_0 hxr).mp q) H locs ls hz hW hS hl) (fun q => kf (fun z => q ((i32_le R32_0 hxr).mpr z)) H locs ls hz hW hS hl)
theorem ex_icmp_gt {G : Gm} {Φ : Fr} {cc : ByteArray} {own : String} {nL fr lo mc ms pc : Nat} {L : List (Option AV)} {st : List AV} {S : List Sh} {μ : Mem} {kc ks : Nat} {x y off : Int} (tgt : Nat) (hΦ : St G Φ cc own nL fr lo mc ms) (d : decode cc pc = .ok (.if_icmp .gt off, 3)) (ht : (pc : Int) + off = (tgt : Int)) (hxr : R32 x) (hyr : R32 y) (kt : y < x → Ex G Φ nL (tgt) L (st) S μ kc ks) (kf : ¬ (y < x) → Ex G Φ nL (pc + 3) L (st) S μ kc ks) : Ex G Φ nL (pc) L ((0, y) :: (0, x) :: st) S μ kc ks := by
  obtain ⟨p, e, R, s, m, args, below, meth, c, Q⟩ := Φ
  obtain ⟨hx, hb, hml, hown, hts, hK, hsz, hR⟩ := hΦ
  intro H locs ls hz hW hS hl
  show W _ _ _ _ _ _ _ _ _ _ _ _ _ _ _ (F0 m pc ls (.int (Int32.ofInt y) :: .int (Int32.ofInt x) :: st.map (mv G)))
  refine lv_icmp_gt hx hb d ht (fun q => kt ((i32_lt hyr hxr).mp q) H locs ls hz hW hS hl) (fun q => kf (fun z => q ((i32_lt hyr hxr).mpr z)) H locs ls hz hW hS hl)
theorem ex_if_gt {G : Gm} {Φ : Fr} {cc : ByteArray} {own : String} {nL fr lo mc ms pc : Nat} {L : List (Option AV)} {st : List AV} {S : List Sh} {μ : Mem} {kc ks : Nat} {x off : Int} (tgt : Nat) (hΦ : St G Φ cc own nL fr lo mc ms) (d : decode cc pc = .ok (.ifCond .gt off, 3)) (ht : (pc : Int) + off = (tgt : Int)) (hxr : R32 x) (kt : 0 < x → Ex G Φ nL (tgt) L (st) S μ kc ks) (kf : ¬ (0 < x) → Ex G Φ nL (pc + 3) L (st) S μ kc ks) : Ex G Φ nL (pc) L ((0, x) :: st) S μ kc ks := by
  obtain ⟨p, e, R, s, m, args, below, meth, c, Q⟩ := Φ
  obtain ⟨hx, hb, hml, hown, hts, hK, hsz, hR⟩ := hΦ
  intro H locs ls hz hW hS hl
  show W _ _ _ _ _ _ _ _ _ _ _ _ _ _ _ (F0 m pc ls (.int (Int32.ofInt x) :: st.map (mv G)))
  refine lv_if_gt hx hb d ht (fun q => kt ((i32_lt R32_0 hxr).mp q) H locs ls hz hW hS hl) (fun q => kf (fun z => q ((i32_lt R32_0 hxr).mpr z)) H locs ls hz hW hS hl)
theorem ex_icmp_le {G : Gm} {Φ : Fr} {cc : ByteArray} {own : String} {nL fr lo mc ms pc : Nat} {L : List (Option AV)} {st : List AV} {S : List Sh} {μ : Mem} {kc ks : Nat} {x y off : Int} (tgt : Nat) (hΦ : St G Φ cc own nL fr lo mc ms) (d : decode cc pc = .ok (.if_icmp .le off, 3)) (ht : (pc : Int) + off = (tgt : Int)) (hxr : R32 x) (hyr : R32 y) (kt : x ≤ y → Ex G Φ nL (tgt) L (st) S μ kc ks) (kf : ¬ (x ≤ y) → Ex G Φ nL (pc + 3) L (st) S μ kc ks) : Ex G Φ nL (pc) L ((0, y) :: (0, x) :: st) S μ kc ks := by
  obtain ⟨p, e, R, s, m, args, below, meth, c, Q⟩ := Φ
  obtain ⟨hx, hb, hml, hown, hts, hK, hsz, hR⟩ := hΦ
  intro H locs ls hz hW hS hl
  show W _ _ _ _ _ _ _ _ _ _ _ _ _ _ _ (F0 m pc ls (.int (Int32.ofInt y) :: .int (Int32.ofInt x) :: st.map (mv G)))
  refine lv_icmp_le hx hb d ht (fun q => kt ((i32_le hxr hyr).mp q) H locs ls hz hW hS hl) (fun q => kf (fun z => q ((i32_le hxr hyr).mpr z)) H locs ls hz hW hS hl)
theorem ex_if_le {G : Gm} {Φ : Fr} {cc : ByteArray} {own : String} {nL fr lo mc ms pc : Nat} {L : List (Option AV)} {st : List AV} {S : List Sh} {μ : Mem} {kc ks : Nat} {x off : Int} (tgt : Nat) (hΦ : St G Φ cc own nL fr lo mc ms) (d : decode cc pc = .ok (.ifCond .le off, 3)) (ht : (pc : Int) + off = (tgt : Int)) (hxr : R32 x) (kt : x ≤ 0 → Ex G Φ nL (tgt) L (st) S μ kc ks) (kf : ¬ (x ≤ 0) → Ex G Φ nL (pc + 3) L (st) S μ kc ks) : Ex G Φ nL (pc) L ((0, x) :: st) S μ kc ks := by
  obtain ⟨p, e, R, s, m, args, below, meth, c, Q⟩ := Φ
  obtain ⟨hx, hb, hml, hown, hts, hK, hsz, hR⟩ := hΦ
  intro H locs ls hz hW hS hl
  show W _ _ _ _ _ _ _ _ _ _ _ _ _ _ _ (F0 m pc ls (.int (Int32.ofInt x) :: st.map (mv G)))
  refine lv_if_le hx hb d ht (fun q => kt ((i32_le hxr R32_0).mp q) H locs ls hz hW hS hl) (fun q => kf (fun z => q ((i32_le hxr R32_0).mpr z)) H locs ls hz hW hS hl)
theorem ex_goto {G : Gm} {Φ : Fr} {cc : ByteArray} {own : String} {nL fr lo mc ms pc : Nat} {L : List (Option AV)} {st : List AV} {S : List Sh} {μ : Mem} {kc ks : Nat} {off : Int} (tgt : Nat) (hΦ : St G Φ cc own nL fr lo mc ms) (d : decode cc pc = .ok (.goto off, 3)) (ht : (pc : Int) + off = (tgt : Int)) (k : Ex G Φ nL (tgt) L (st) S μ kc ks) : Ex G Φ nL (pc) L (st) S μ kc ks := by
  obtain ⟨p, e, R, s, m, args, below, meth, c, Q⟩ := Φ
  obtain ⟨hx, hb, hml, hown, hts, hK, hsz, hR⟩ := hΦ
  intro H locs ls hz hW hS hl
  exact lv_goto hx hb d ht (k H locs ls hz hW hS hl)
theorem ex_table {G : Gm} {Φ : Fr} {cc : ByteArray} {own : String} {nL fr lo mc ms pc : Nat} {L : List (Option AV)} {st : List AV} {S : List Sh} {μ : Mem} {kc ks : Nat} {dflt lo' hi x : Int} {offs : Array Int} {len : Nat} (hΦ : St G Φ cc own nL fr lo mc ms) (d : decode cc pc = .ok (.tableswitch dflt lo' hi offs, len)) (hxr : R32 x) (dt : Nat) (hd : (pc : Int) + dflt = (dt : Int)) (kd : (x < lo' ∨ hi < x) → Ex G Φ nL (dt) L (st) S μ kc ks) (kt : lo' ≤ x → x ≤ hi → ∃ (off : Int) (tgt : Nat), offs[(x - lo').toNat]? = some off ∧ (pc : Int) + off = (tgt : Int) ∧ Ex G Φ nL (tgt) L (st) S μ kc ks) : Ex G Φ nL (pc) L ((0, x) :: st) S μ kc ks := by
  obtain ⟨p, e, R, s, m, args, below, meth, c, Q⟩ := Φ
  obtain ⟨hx, hb, hml, hown, hts, hK, hsz, hR⟩ := hΦ
  intro H locs ls hz hW hS hl
  show W _ _ _ _ _ _ _ _ _ _ _ _ _ _ _ (F0 m pc ls (.int (Int32.ofInt x) :: st.map (mv G)))
  by_cases h : x < lo' ∨ hi < x
  · exact lv_tableOut hx hb d (by rw [i32_in hxr]; exact h) hd (kd h H locs ls hz hW hS hl)
  · obtain ⟨off, tgt, h1, h2, h3⟩ := kt (by omega) (by omega)
    exact lv_tableIn hx hb d (by rw [i32_in hxr]; omega) (by rw [i32_in hxr]; omega) (by rw [i32_in hxr]; exact h1) h2 (h3 H locs ls hz hW hS hl)
theorem ex_lookup {G : Gm} {Φ : Fr} {cc : ByteArray} {own : String} {nL fr lo mc ms pc : Nat} {L : List (Option AV)} {st : List AV} {S : List Sh} {μ : Mem} {kc ks : Nat} {dflt x off : Int} {pr : Array (Int × Int)} {len tgt : Nat} (hΦ : St G Φ cc own nL fr lo mc ms) (d : decode cc pc = .ok (.lookupswitch dflt pr, len)) (hp : (pr.toList.zip (pr.toList.drop 1)).all (fun (a, next) => a.1 < next.1) = true) (hxr : R32 x) (ho : Op.lookupswitch.offset pr.toList dflt x = off) (ht : (pc : Int) + off = (tgt : Int)) (k : Ex G Φ nL (tgt) L (st) S μ kc ks) : Ex G Φ nL (pc) L ((0, x) :: st) S μ kc ks := by
  obtain ⟨p, e, R, s, m, args, below, meth, c, Q⟩ := Φ
  obtain ⟨hx, hb, hml, hown, hts, hK, hsz, hR⟩ := hΦ
  intro H locs ls hz hW hS hl
  show W _ _ _ _ _ _ _ _ _ _ _ _ _ _ _ (F0 m pc ls (.int (Int32.ofInt x) :: st.map (mv G)))
  exact lv_lookup hx hb d hp (by rw [i32_in hxr]; exact ho) ht (k H locs ls hz hW hS hl)
theorem ex_getf {G : Gm} {Φ : Fr} {cc : ByteArray} {own : String} {nL fr lo mc ms pc : Nat} {L : List (Option AV)} {st : List AV} {S : List Sh} {μ : Mem} {kc ks : Nat} {idx ci j kd : Nat} {z : Int} (hΦ : St G Φ cc own nL fr lo mc ms) (f : FL own idx ci j kd) (hz' : So S z (.inl ci)) (d : decode cc pc = .ok (.getfield idx, 3)) (k : Ex G Φ nL (pc + 3) L ((kd, μ z j) :: st) S μ kc ks) : Ex G Φ nL (pc) L ((2, z) :: st) S μ kc ks := by
  obtain ⟨p, e, R, s, m, args, below, meth, c, Q⟩ := Φ
  obtain ⟨hx, hb, hml, hown, hts, hK, hsz, hR⟩ := hΦ
  intro H locs ls hz hW hS hl
  obtain ⟨f1, f2, f3, f4⟩ := f
  subst f4
  rw [List.map_cons, mv_ref hz'.1]
  have h1 := mw_get (G := G) (μ := μ) hz'.2
  rw [So_nat hz'] at h1
  exact va_get (D := G.2.1) (ci := ci) (v := mv G (mfk ci j, μ z j)) hx hb hts (mT_in f1) hown hK.1 hW z.toNat h1 (mC_in f1) j f2 (hts _ f3) (fun _ h => h) (flds_get f2) d (k H locs ls hz hW hS hl)
theorem wd_put {G : Gm} {S : List Sh} {μ : Mem} {H1 : Heap} {z x : Int} {ci j : Nat} (hz : So S z (.inl ci)) (hj : j < mN ci) (hP : va_P G.2.1 vwCl ((mw G S μ).set z.toNat (G.2.2.2.1 + z.toNat, .inr (ci, ((List.range (mN ci)).map fun j => mv G (mfk ci j, μ z j)).set j (mv G (mfk ci j, x))))) H1) : wd G S (mu μ z j x) H1 := by
  rw [flds_set hj] at hP
  rw [mw_set (μ' := mu μ z j x) hz.2 (by rw [mu_at (So_nat hz)]; rfl) (fun i hi => mu_off (So_nat hz) i hi)] at hP
  exact hP
def Ini (Φ : Fr) : Prop := match Φ with
  | (_, _, _, _, _, _, _, meth, _, _) => meth.name = "<init>"
theorem fkind_ref {t : FieldType} (h : fkind t = 2) : (∃ n, t = .object n) ∨ ∃ u, t = .array u := by
  cases t <;> first | exact Or.inl ⟨_, rfl⟩ | exact Or.inr ⟨_, rfl⟩ | cases h
theorem ref_ok {t : FieldType} (h : fkind t = 2) (a : Nat) : narrow t (.ref a) = .ref a ∧ fits t (.ref a) = true := by
  rcases fkind_ref h with ⟨n, rfl⟩ | ⟨u, rfl⟩ <;> exact ⟨rfl, rfl⟩
theorem ex_putf {G : Gm} {Φ : Fr} {cc : ByteArray} {own : String} {nL fr lo mc ms pc : Nat} {L : List (Option AV)} {st : List AV} {S : List Sh} {μ : Mem} {kc ks : Nat} {idx ci j : Nat} {z x : Int} (hΦ : St G Φ cc own nL fr lo mc ms) (f : FL own idx ci j 0) (hz' : So S z (.inl ci)) (hfin : (mT ci j).2.2.2 = false) (hty : mty ci j = .int) (d : decode cc pc = .ok (.putfield idx, 3)) (k : Ex G Φ nL (pc + 3) L (st) S (mu μ z j x) kc ks) : Ex G Φ nL (pc) L ((0, x) :: (2, z) :: st) S μ kc ks := by
  obtain ⟨p, e, R, s, m, args, below, meth, c, Q⟩ := Φ
  obtain ⟨hx, hb, hml, hown, hts, hK, hsz, hR⟩ := hΦ
  intro H locs ls hz hW hS hl
  obtain ⟨f1, f2, f3, f4⟩ := f
  rw [List.map_cons, List.map_cons, mv_ref hz'.1]
  have h1 := mw_get (G := G) (μ := μ) hz'.2
  rw [So_nat hz'] at h1
  refine va_put (D := G.2.1) (ci := ci) hx hb hts (mT_in f1) (mty ci) (mty_ok f1) (mnm_ok f1) hown hK.1 hW mw_D hS z.toNat h1 (mC_in f1) j f2 (hts _ f3) (fun _ h => h) hfin (ty := mty ci j) (mty_ok f1 j f2) (by rw [hty]; exact rfl) (by rw [hty]; exact rfl) (by simp; exact f2) d (fun H1 locs1 hP _ hS1 => ?_)
  refine k H1 locs1 ls hz (wd_put hz' f2 ?_) hS1 hl
  rw [show mv G (mfk ci j, x) = .int (Int32.ofInt x) by rw [f4]; rfl]
  exact hP
theorem ex_putz {G : Gm} {Φ : Fr} {cc : ByteArray} {own : String} {nL fr lo mc ms pc : Nat} {L : List (Option AV)} {st : List AV} {S : List Sh} {μ : Mem} {kc ks : Nat} {idx ci j : Nat} {z x : Int} (hΦ : St G Φ cc own nL fr lo mc ms) (f : FL own idx ci j 0) (hz' : So S z (.inl ci)) (hfin : (mT ci j).2.2.2 = false) (hty : mty ci j = .boolean) (g0 : 0 ≤ x) (g1 : x ≤ 1) (d : decode cc pc = .ok (.putfield idx, 3)) (k : Ex G Φ nL (pc + 3) L (st) S (mu μ z j x) kc ks) : Ex G Φ nL (pc) L ((0, x) :: (2, z) :: st) S μ kc ks := by
  obtain ⟨p, e, R, s, m, args, below, meth, c, Q⟩ := Φ
  obtain ⟨hx, hb, hml, hown, hts, hK, hsz, hR⟩ := hΦ
  intro H locs ls hz hW hS hl
  obtain ⟨f1, f2, f3, f4⟩ := f
  rw [List.map_cons, List.map_cons, mv_ref hz'.1]
  have h1 := mw_get (G := G) (μ := μ) hz'.2
  rw [So_nat hz'] at h1
  refine va_put (D := G.2.1) (ci := ci) hx hb hts (mT_in f1) (mty ci) (mty_ok f1) (mnm_ok f1) hown hK.1 hW mw_D hS z.toNat h1 (mC_in f1) j f2 (hts _ f3) (fun _ h => h) hfin (ty := mty ci j) (mty_ok f1 j f2) (by rw [hty]; exact (i32_narZ g0 g1).1) (by rw [hty]; exact (i32_narZ g0 g1).2.1) (by simp; exact f2) d (fun H1 locs1 hP _ hS1 => ?_)
  refine k H1 locs1 ls hz (wd_put hz' f2 ?_) hS1 hl
  rw [show mv G (mfk ci j, x) = .int (Int32.ofInt x) by rw [f4]; rfl]
  exact hP
theorem ex_puta {G : Gm} {Φ : Fr} {cc : ByteArray} {own : String} {nL fr lo mc ms pc : Nat} {L : List (Option AV)} {st : List AV} {S : List Sh} {μ : Mem} {kc ks : Nat} {idx ci j : Nat} {z x : Int} (hΦ : St G Φ cc own nL fr lo mc ms) (f : FL own idx ci j 2) (hz' : So S z (.inl ci)) (hfin : (mT ci j).2.2.2 = false) (h0 : 0 ≤ x) (d : decode cc pc = .ok (.putfield idx, 3)) (k : Ex G Φ nL (pc + 3) L (st) S (mu μ z j x) kc ks) : Ex G Φ nL (pc) L ((2, x) :: (2, z) :: st) S μ kc ks := by
  obtain ⟨p, e, R, s, m, args, below, meth, c, Q⟩ := Φ
  obtain ⟨hx, hb, hml, hown, hts, hK, hsz, hR⟩ := hΦ
  intro H locs ls hz hW hS hl
  obtain ⟨f1, f2, f3, f4⟩ := f
  rw [List.map_cons, List.map_cons, mv_ref h0, mv_ref hz'.1]
  have h1 := mw_get (G := G) (μ := μ) hz'.2
  rw [So_nat hz'] at h1
  refine va_put (D := G.2.1) (ci := ci) hx hb hts (mT_in f1) (mty ci) (mty_ok f1) (mnm_ok f1) hown hK.1 hW mw_D hS z.toNat h1 (mC_in f1) j f2 (hts _ f3) (fun _ h => h) hfin (mty_ok f1 j f2) (ref_ok (t := mty ci j) f4 _).1 (ref_ok (t := mty ci j) f4 _).2 (by simp; exact f2) d (fun H1 locs1 hP _ hS1 => ?_)
  refine k H1 locs1 ls hz (wd_put hz' f2 ?_) hS1 hl
  rw [show mv G (mfk ci j, x) = .ref (G.2.2.2.1 + x.toNat) by rw [f4]; exact mv_ref h0]
  exact hP
theorem ex_putaF {G : Gm} {Φ : Fr} {cc : ByteArray} {own : String} {nL fr lo mc ms pc : Nat} {L : List (Option AV)} {st : List AV} {S : List Sh} {μ : Mem} {kc ks : Nat} {idx ci j : Nat} {z x : Int} (hΦ : St G Φ cc own nL fr lo mc ms) (f : FL own idx ci j 2) (hz' : So S z (.inl ci)) (hfin : (mT ci j).2.2.2 = true) (h0 : 0 ≤ x) (hin : Ini Φ) (hdecl : (mT ci j).1 = own) (d : decode cc pc = .ok (.putfield idx, 3)) (k : Ex G Φ nL (pc + 3) L (st) S (mu μ z j x) kc ks) : Ex G Φ nL (pc) L ((2, x) :: (2, z) :: st) S μ kc ks := by
  obtain ⟨p, e, R, s, m, args, below, meth, c, Q⟩ := Φ
  obtain ⟨hx, hb, hml, hown, hts, hK, hsz, hR⟩ := hΦ
  intro H locs ls hz hW hS hl
  obtain ⟨f1, f2, f3, f4⟩ := f
  rw [List.map_cons, List.map_cons, mv_ref h0, mv_ref hz'.1]
  have h1 := mw_get (G := G) (μ := μ) hz'.2
  rw [So_nat hz'] at h1
  refine va_putF (D := G.2.1) (ci := ci) hx hb hts (mT_in f1) (mty ci) (mty_ok f1) (mnm_ok f1) hown hK.1 hW mw_D hS z.toNat h1 (mC_in f1) j f2 (hts _ f3) (fun _ h => h) hfin hin hdecl (mty_ok f1 j f2) (ref_ok (t := mty ci j) f4 _).1 (ref_ok (t := mty ci j) f4 _).2 (by simp; exact f2) d (fun H1 locs1 hP _ hS1 => ?_)
  refine k H1 locs1 ls hz (wd_put hz' f2 ?_) hS1 hl
  rw [show mv G (mfk ci j, x) = .ref (G.2.2.2.1 + x.toNat) by rw [f4]; exact mv_ref h0]
  exact hP
theorem wd_ast {G : Gm} {S : List Sh} {μ : Mem} {H1 : Heap} {z i x : Int} {s : Sh} {e : va_E} (hz : So S z s) (hP : va_P G.2.1 vwCl ((mw G S μ).set z.toNat (G.2.2.2.1 + z.toNat, e)) H1) (he : e = ment G s (mu μ z i x z)) : wd G S (mu μ z i x) H1 := by
  rw [mw_set (μ' := mu μ z i x) hz.2 (by rw [So_nat hz]; exact he) (fun j hj => mu_off (So_nat hz) j hj)] at hP
  exact hP
theorem So_len {S : List Sh} {z : Int} {k n : Nat} (_ : So S z (.inr (k, n))) : True := trivial
theorem upd_i {f : Int → Int} {i x : Int} (h0 : 0 ≤ i) (μ : Mem) (z : Int) (hf : f = μ z) : upd (fun j : Nat => Int32.ofInt (f j)) i.toNat (Int32.ofInt x) = fun j : Nat => Int32.ofInt (mu μ z i x z j) := by
  subst hf
  funext j
  have e : ((i.toNat : Nat) : Int) = i := Int.toNat_of_nonneg h0
  by_cases hj : j = i.toNat
  · subst hj
    rw [e, mu_same]
    simp [upd]
  · rw [mu_ne (by omega)]
    simp [upd, hj]
theorem upd_l {f : Int → Int} {i x : Int} (h0 : 0 ≤ i) (μ : Mem) (z : Int) (hf : f = μ z) : vp_updL (fun j : Nat => Int64.ofInt (f j)) i.toNat (Int64.ofInt x) = fun j : Nat => Int64.ofInt (mu μ z i x z j) := by
  subst hf
  funext j
  have e : ((i.toNat : Nat) : Int) = i := Int.toNat_of_nonneg h0
  by_cases hj : j = i.toNat
  · subst hj
    rw [e, mu_same]
    simp [vp_updL]
  · rw [mu_ne (by omega)]
    simp [vp_updL, hj]
theorem upd_q {G : Gm} {f : Int → Int} {i x : Int} (h0 : 0 ≤ i) (hx : 0 ≤ x) (μ : Mem) (z : Int) (hf : f = μ z) : va_up (fun j : Nat => mr G (f j)) i.toNat (some (G.2.2.2.1 + x.toNat)) = fun j : Nat => mr G (mu μ z i x z j) := by
  subst hf
  funext j
  have e : ((i.toNat : Nat) : Int) = i := Int.toNat_of_nonneg h0
  by_cases hj : j = i.toNat
  · subst hj
    rw [e, mu_same]
    simp [va_up, mr, show ¬ x < 0 by omega]
  · rw [mu_ne (by omega)]
    simp [va_up, hj]
theorem ex_iald {G : Gm} {Φ : Fr} {cc : ByteArray} {own : String} {nL fr lo mc ms pc : Nat} {L : List (Option AV)} {st : List AV} {S : List Sh} {μ : Mem} {kc ks : Nat} {n : Nat} {z i : Int} (hΦ : St G Φ cc own nL fr lo mc ms) (hz' : So S z (.inr (0, n))) (h0 : 0 ≤ i) (h1 : i < n) (hn : n ≤ 2147483647) (d : decode cc pc = .ok (.iaload, 1)) (k : Ex G Φ nL (pc + 1) L ((0, μ z i) :: st) S μ kc ks) : Ex G Φ nL (pc) L ((0, i) :: (2, z) :: st) S μ kc ks := by
  obtain ⟨p, e, R, s, m, args, below, meth, c, Q⟩ := Φ
  obtain ⟨hx, hb, hml, hown, hts, hK, hsz, hR⟩ := hΦ
  intro H locs ls hz hW hS hl
  rw [List.map_cons, List.map_cons, mv_ref hz'.1]
  have h2 := mw_get (G := G) (μ := μ) hz'.2
  rw [So_nat hz'] at h2
  have hi : R32 i := ⟨by omega, by omega⟩
  refine va_iald (D := G.2.1) hx hb hK.1 hW z.toNat 0 h2 (rfl : (mtys G)[0]? = some (_, .int)) (i32_vin h0 h1 hn) d ?_
  show W _ _ _ _ _ _ _ _ _ _ _ _ _ _ _ (F0 m (pc + 1) ls (.int (Int32.ofInt (μ z ((Int32.ofInt i).toNatClampNeg : Nat))) :: st.map (mv G)))
  rw [i32_tn hi, Int.toNat_of_nonneg h0]
  exact k H locs ls hz hW hS hl
theorem ex_lald {G : Gm} {Φ : Fr} {cc : ByteArray} {own : String} {nL fr lo mc ms pc : Nat} {L : List (Option AV)} {st : List AV} {S : List Sh} {μ : Mem} {kc ks : Nat} {n : Nat} {z i : Int} (hΦ : St G Φ cc own nL fr lo mc ms) (hz' : So S z (.inr (1, n))) (h0 : 0 ≤ i) (h1 : i < n) (hn : n ≤ 2147483647) (d : decode cc pc = .ok (.laload, 1)) (k : Ex G Φ nL (pc + 1) L ((1, μ z i) :: st) S μ kc ks) : Ex G Φ nL (pc) L ((0, i) :: (2, z) :: st) S μ kc ks := by
  obtain ⟨p, e, R, s, m, args, below, meth, c, Q⟩ := Φ
  obtain ⟨hx, hb, hml, hown, hts, hK, hsz, hR⟩ := hΦ
  intro H locs ls hz hW hS hl
  rw [List.map_cons, List.map_cons, mv_ref hz'.1]
  have h2 := mw_get (G := G) (μ := μ) hz'.2
  rw [So_nat hz'] at h2
  have hi : R32 i := ⟨by omega, by omega⟩
  refine va_lald (D := G.2.1) hx hb hK.1 hW z.toNat 1 h2 (rfl : (mtys G)[1]? = some (_, .long)) (i32_vin h0 h1 hn) d ?_
  show W _ _ _ _ _ _ _ _ _ _ _ _ _ _ _ (F0 m (pc + 1) ls (.long (Int64.ofInt (μ z ((Int32.ofInt i).toNatClampNeg : Nat))) :: st.map (mv G)))
  rw [i32_tn hi, Int.toNat_of_nonneg h0]
  exact k H locs ls hz hW hS hl
theorem ex_cald {G : Gm} {Φ : Fr} {cc : ByteArray} {own : String} {nL fr lo mc ms pc : Nat} {L : List (Option AV)} {st : List AV} {S : List Sh} {μ : Mem} {kc ks : Nat} {n : Nat} {z i : Int} (hΦ : St G Φ cc own nL fr lo mc ms) (hz' : So S z (.inr (2, n))) (h0 : 0 ≤ i) (h1 : i < n) (hn : n ≤ 2147483647) (d : decode cc pc = .ok (.caload, 1)) (k : Ex G Φ nL (pc + 1) L ((0, μ z i) :: st) S μ kc ks) : Ex G Φ nL (pc) L ((0, i) :: (2, z) :: st) S μ kc ks := by
  obtain ⟨p, e, R, s, m, args, below, meth, c, Q⟩ := Φ
  obtain ⟨hx, hb, hml, hown, hts, hK, hsz, hR⟩ := hΦ
  intro H locs ls hz hW hS hl
  rw [List.map_cons, List.map_cons, mv_ref hz'.1]
  have h2 := mw_get (G := G) (μ := μ) hz'.2
  rw [So_nat hz'] at h2
  have hi : R32 i := ⟨by omega, by omega⟩
  refine va_cald (D := G.2.1) hx hb hK.1 hW z.toNat 2 h2 (rfl : (mtys G)[2]? = some (_, .char)) (i32_vin h0 h1 hn) d ?_
  show W _ _ _ _ _ _ _ _ _ _ _ _ _ _ _ (F0 m (pc + 1) ls (.int (Int32.ofInt (μ z ((Int32.ofInt i).toNatClampNeg : Nat))) :: st.map (mv G)))
  rw [i32_tn hi, Int.toNat_of_nonneg h0]
  exact k H locs ls hz hW hS hl
theorem ex_zald {G : Gm} {Φ : Fr} {cc : ByteArray} {own : String} {nL fr lo mc ms pc : Nat} {L : List (Option AV)} {st : List AV} {S : List Sh} {μ : Mem} {kc ks : Nat} {n : Nat} {z i : Int} (hΦ : St G Φ cc own nL fr lo mc ms) (hz' : So S z (.inr (3, n))) (h0 : 0 ≤ i) (h1 : i < n) (hn : n ≤ 2147483647) (d : decode cc pc = .ok (.baload, 1)) (k : Ex G Φ nL (pc + 1) L ((0, μ z i) :: st) S μ kc ks) : Ex G Φ nL (pc) L ((0, i) :: (2, z) :: st) S μ kc ks := by
  obtain ⟨p, e, R, s, m, args, below, meth, c, Q⟩ := Φ
  obtain ⟨hx, hb, hml, hown, hts, hK, hsz, hR⟩ := hΦ
  intro H locs ls hz hW hS hl
  rw [List.map_cons, List.map_cons, mv_ref hz'.1]
  have h2 := mw_get (G := G) (μ := μ) hz'.2
  rw [So_nat hz'] at h2
  have hi : R32 i := ⟨by omega, by omega⟩
  refine va_zald (D := G.2.1) hx hb hK.1 hW z.toNat 3 h2 (rfl : (mtys G)[3]? = some (_, .boolean)) (i32_vin h0 h1 hn) d ?_
  show W _ _ _ _ _ _ _ _ _ _ _ _ _ _ _ (F0 m (pc + 1) ls (.int (Int32.ofInt (μ z ((Int32.ofInt i).toNatClampNeg : Nat))) :: st.map (mv G)))
  rw [i32_tn hi, Int.toNat_of_nonneg h0]
  exact k H locs ls hz hW hS hl
theorem ex_iast {G : Gm} {Φ : Fr} {cc : ByteArray} {own : String} {nL fr lo mc ms pc : Nat} {L : List (Option AV)} {st : List AV} {S : List Sh} {μ : Mem} {kc ks : Nat} {n : Nat} {z i x : Int} (hΦ : St G Φ cc own nL fr lo mc ms) (hz' : So S z (.inr (0, n))) (h0 : 0 ≤ i) (h1 : i < n) (hn : n ≤ 2147483647) (d : decode cc pc = .ok (.iastore, 1)) (k : Ex G Φ nL (pc + 1) L (st) S (mu μ z i x) kc ks) : Ex G Φ nL (pc) L ((0, x) :: (0, i) :: (2, z) :: st) S μ kc ks := by
  obtain ⟨p, e, R, s, m, args, below, meth, c, Q⟩ := Φ
  obtain ⟨hx, hb, hml, hown, hts, hK, hsz, hR⟩ := hΦ
  intro H locs ls hz hW hS hl
  rw [List.map_cons, List.map_cons, List.map_cons, mv_ref hz'.1]
  have h2 := mw_get (G := G) (μ := μ) hz'.2
  rw [So_nat hz'] at h2
  have hi : R32 i := ⟨by omega, by omega⟩
  refine va_iast (D := G.2.1) hx hb hK.1 hW mw_D hS z.toNat 0 h2 (rfl : (mtys G)[0]? = some (_, .int)) (i32_vin h0 h1 hn) d (fun H1 locs1 hP _ hS1 => ?_)
  rw [i32_tn hi] at hP
  exact k H1 locs1 ls hz (wd_ast hz' hP (by rw [upd_i h0 μ z rfl]; rfl)) hS1 hl
theorem ex_last {G : Gm} {Φ : Fr} {cc : ByteArray} {own : String} {nL fr lo mc ms pc : Nat} {L : List (Option AV)} {st : List AV} {S : List Sh} {μ : Mem} {kc ks : Nat} {n : Nat} {z i x : Int} (hΦ : St G Φ cc own nL fr lo mc ms) (hz' : So S z (.inr (1, n))) (h0 : 0 ≤ i) (h1 : i < n) (hn : n ≤ 2147483647) (d : decode cc pc = .ok (.lastore, 1)) (k : Ex G Φ nL (pc + 1) L (st) S (mu μ z i x) kc ks) : Ex G Φ nL (pc) L ((1, x) :: (0, i) :: (2, z) :: st) S μ kc ks := by
  obtain ⟨p, e, R, s, m, args, below, meth, c, Q⟩ := Φ
  obtain ⟨hx, hb, hml, hown, hts, hK, hsz, hR⟩ := hΦ
  intro H locs ls hz hW hS hl
  rw [List.map_cons, List.map_cons, List.map_cons, mv_ref hz'.1]
  have h2 := mw_get (G := G) (μ := μ) hz'.2
  rw [So_nat hz'] at h2
  have hi : R32 i := ⟨by omega, by omega⟩
  refine va_last (D := G.2.1) hx hb hK.1 hW mw_D hS z.toNat 1 h2 (rfl : (mtys G)[1]? = some (_, .long)) (i32_vin h0 h1 hn) d (fun H1 locs1 hP _ hS1 => ?_)
  rw [i32_tn hi] at hP
  exact k H1 locs1 ls hz (wd_ast hz' hP (by rw [upd_l h0 μ z rfl]; rfl)) hS1 hl
theorem ex_cast {G : Gm} {Φ : Fr} {cc : ByteArray} {own : String} {nL fr lo mc ms pc : Nat} {L : List (Option AV)} {st : List AV} {S : List Sh} {μ : Mem} {kc ks : Nat} {n : Nat} {z i x : Int} (hΦ : St G Φ cc own nL fr lo mc ms) (hz' : So S z (.inr (2, n))) (h0 : 0 ≤ i) (h1 : i < n) (hn : n ≤ 2147483647) (g0 : 0 ≤ x) (g1 : x ≤ 65535) (d : decode cc pc = .ok (.castore, 1)) (k : Ex G Φ nL (pc + 1) L (st) S (mu μ z i x) kc ks) : Ex G Φ nL (pc) L ((0, x) :: (0, i) :: (2, z) :: st) S μ kc ks := by
  obtain ⟨p, e, R, s, m, args, below, meth, c, Q⟩ := Φ
  obtain ⟨hx, hb, hml, hown, hts, hK, hsz, hR⟩ := hΦ
  intro H locs ls hz hW hS hl
  rw [List.map_cons, List.map_cons, List.map_cons, mv_ref hz'.1]
  have h2 := mw_get (G := G) (μ := μ) hz'.2
  rw [So_nat hz'] at h2
  have hi : R32 i := ⟨by omega, by omega⟩
  refine va_cast (D := G.2.1) hx hb hK.1 hW mw_D hS z.toNat 2 h2 (rfl : (mtys G)[2]? = some (_, .char)) (i32_vin h0 h1 hn) d (fun H1 locs1 hP _ hS1 => ?_)
  rw [i32_tn hi] at hP
  rw [show vp_nar .char (Int32.ofInt x) = Int32.ofInt x from (lg_nar_char (Int32.ofInt x)).trans (i32_char g0 g1)] at hP
  exact k H1 locs1 ls hz (wd_ast hz' hP (by rw [upd_i h0 μ z rfl]; rfl)) hS1 hl
theorem ex_zast {G : Gm} {Φ : Fr} {cc : ByteArray} {own : String} {nL fr lo mc ms pc : Nat} {L : List (Option AV)} {st : List AV} {S : List Sh} {μ : Mem} {kc ks : Nat} {n : Nat} {z i x : Int} (hΦ : St G Φ cc own nL fr lo mc ms) (hz' : So S z (.inr (3, n))) (h0 : 0 ≤ i) (h1 : i < n) (hn : n ≤ 2147483647) (g0 : 0 ≤ x) (g1 : x ≤ 1) (d : decode cc pc = .ok (.bastore, 1)) (k : Ex G Φ nL (pc + 1) L (st) S (mu μ z i x) kc ks) : Ex G Φ nL (pc) L ((0, x) :: (0, i) :: (2, z) :: st) S μ kc ks := by
  obtain ⟨p, e, R, s, m, args, below, meth, c, Q⟩ := Φ
  obtain ⟨hx, hb, hml, hown, hts, hK, hsz, hR⟩ := hΦ
  intro H locs ls hz hW hS hl
  rw [List.map_cons, List.map_cons, List.map_cons, mv_ref hz'.1]
  have h2 := mw_get (G := G) (μ := μ) hz'.2
  rw [So_nat hz'] at h2
  have hi : R32 i := ⟨by omega, by omega⟩
  refine va_zast (D := G.2.1) hx hb hK.1 hW mw_D hS z.toNat 3 h2 (rfl : (mtys G)[3]? = some (_, .boolean)) (i32_vin h0 h1 hn) d (fun H1 locs1 hP _ hS1 => ?_)
  rw [i32_tn hi] at hP
  rw [(i32_narZ g0 g1).2.2] at hP
  exact k H1 locs1 ls hz (wd_ast hz' hP (by rw [upd_i h0 μ z rfl]; rfl)) hS1 hl
theorem ex_aald4 {G : Gm} {Φ : Fr} {cc : ByteArray} {own : String} {nL fr lo mc ms pc : Nat} {L : List (Option AV)} {st : List AV} {S : List Sh} {μ : Mem} {kc ks : Nat} {n : Nat} {z i : Int} (hΦ : St G Φ cc own nL fr lo mc ms) (hz' : So S z (.inr (4, n))) (h0 : 0 ≤ i) (h1 : i < n) (hn : n ≤ 2147483647) (d : decode cc pc = .ok (.aaload, 1)) (k : Ex G Φ nL (pc + 1) L ((2, μ z i) :: st) S μ kc ks) : Ex G Φ nL (pc) L ((0, i) :: (2, z) :: st) S μ kc ks := by
  obtain ⟨p, e, R, s, m, args, below, meth, c, Q⟩ := Φ
  obtain ⟨hx, hb, hml, hown, hts, hK, hsz, hR⟩ := hΦ
  intro H locs ls hz hW hS hl
  rw [List.map_cons, List.map_cons, mv_ref hz'.1]
  have h2 := mw_get (G := G) (μ := μ) hz'.2
  rw [So_nat hz'] at h2
  have hi : R32 i := ⟨by omega, by omega⟩
  refine va_aldq (D := G.2.1) hx hb hK.1 hW z.toNat 4 h2 (rfl : (mtys G)[4]? = some (_, .object _)) (i32_vin h0 h1 hn) d ?_
  show W _ _ _ _ _ _ _ _ _ _ _ _ _ _ _ (F0 m (pc + 1) ls (va_rf (mr G (μ z ((Int32.ofInt i).toNatClampNeg : Nat))) :: st.map (mv G)))
  rw [i32_tn hi, Int.toNat_of_nonneg h0]
  exact k H locs ls hz hW hS hl
theorem ex_aast4 {G : Gm} {Φ : Fr} {cc : ByteArray} {own : String} {nL fr lo mc ms pc : Nat} {L : List (Option AV)} {st : List AV} {S : List Sh} {μ : Mem} {kc ks : Nat} {n : Nat} {z i x : Int} (hΦ : St G Φ cc own nL fr lo mc ms) (hz' : So S z (.inr (4, n))) (h0 : 0 ≤ i) (h1 : i < n) (hn : n ≤ 2147483647) (hv : So S x (.inl 1)) (d : decode cc pc = .ok (.aastore, 1)) (k : Ex G Φ nL (pc + 1) L (st) S (mu μ z i x) kc ks) : Ex G Φ nL (pc) L ((2, x) :: (0, i) :: (2, z) :: st) S μ kc ks := by
  obtain ⟨p, e, R, s, m, args, below, meth, c, Q⟩ := Φ
  obtain ⟨hx, hb, hml, hown, hts, hK, hsz, hR⟩ := hΦ
  intro H locs ls hz hW hS hl
  rw [List.map_cons, List.map_cons, List.map_cons, mv_ref hz'.1, mv_ref hv.1]
  have h2 := mw_get (G := G) (μ := μ) hz'.2
  rw [So_nat hz'] at h2
  have h4 := mw_get (G := G) (μ := μ) hv.2
  have hi : R32 i := ⟨by omega, by omega⟩
  refine va_astq (D := G.2.1) (r := (mC 1, mT 1, mN 1)) hx hb hK.1 hW mw_D hS z.toNat 4 x.toNat 1 h2 (rfl : (mtys G)[4]? = some (_, .object (mC 1))) h4 (mC_in (by decide)) (i32_vin h0 h1 hn) d (fun H1 locs1 hP _ hS1 => ?_)
  rw [i32_tn hi] at hP
  exact k H1 locs1 ls hz (wd_ast hz' hP (by rw [upd_q h0 hv.1 μ z rfl]; rfl)) hS1 hl
theorem ex_aald5 {G : Gm} {Φ : Fr} {cc : ByteArray} {own : String} {nL fr lo mc ms pc : Nat} {L : List (Option AV)} {st : List AV} {S : List Sh} {μ : Mem} {kc ks : Nat} {n : Nat} {z i : Int} (hΦ : St G Φ cc own nL fr lo mc ms) (hz' : So S z (.inr (5, n))) (h0 : 0 ≤ i) (h1 : i < n) (hn : n ≤ 2147483647) (d : decode cc pc = .ok (.aaload, 1)) (k : Ex G Φ nL (pc + 1) L ((2, μ z i) :: st) S μ kc ks) : Ex G Φ nL (pc) L ((0, i) :: (2, z) :: st) S μ kc ks := by
  obtain ⟨p, e, R, s, m, args, below, meth, c, Q⟩ := Φ
  obtain ⟨hx, hb, hml, hown, hts, hK, hsz, hR⟩ := hΦ
  intro H locs ls hz hW hS hl
  rw [List.map_cons, List.map_cons, mv_ref hz'.1]
  have h2 := mw_get (G := G) (μ := μ) hz'.2
  rw [So_nat hz'] at h2
  have hi : R32 i := ⟨by omega, by omega⟩
  refine va_aldq (D := G.2.1) hx hb hK.1 hW z.toNat 5 h2 (rfl : (mtys G)[5]? = some (_, .object _)) (i32_vin h0 h1 hn) d ?_
  show W _ _ _ _ _ _ _ _ _ _ _ _ _ _ _ (F0 m (pc + 1) ls (va_rf (mr G (μ z ((Int32.ofInt i).toNatClampNeg : Nat))) :: st.map (mv G)))
  rw [i32_tn hi, Int.toNat_of_nonneg h0]
  exact k H locs ls hz hW hS hl
theorem ex_aast5 {G : Gm} {Φ : Fr} {cc : ByteArray} {own : String} {nL fr lo mc ms pc : Nat} {L : List (Option AV)} {st : List AV} {S : List Sh} {μ : Mem} {kc ks : Nat} {n : Nat} {z i x : Int} (hΦ : St G Φ cc own nL fr lo mc ms) (hz' : So S z (.inr (5, n))) (h0 : 0 ≤ i) (h1 : i < n) (hn : n ≤ 2147483647) (hv : So S x (.inl 5)) (d : decode cc pc = .ok (.aastore, 1)) (k : Ex G Φ nL (pc + 1) L (st) S (mu μ z i x) kc ks) : Ex G Φ nL (pc) L ((2, x) :: (0, i) :: (2, z) :: st) S μ kc ks := by
  obtain ⟨p, e, R, s, m, args, below, meth, c, Q⟩ := Φ
  obtain ⟨hx, hb, hml, hown, hts, hK, hsz, hR⟩ := hΦ
  intro H locs ls hz hW hS hl
  rw [List.map_cons, List.map_cons, List.map_cons, mv_ref hz'.1, mv_ref hv.1]
  have h2 := mw_get (G := G) (μ := μ) hz'.2
  rw [So_nat hz'] at h2
  have h4 := mw_get (G := G) (μ := μ) hv.2
  have hi : R32 i := ⟨by omega, by omega⟩
  refine va_astq (D := G.2.1) (r := (mC 5, mT 5, mN 5)) hx hb hK.1 hW mw_D hS z.toNat 5 x.toNat 5 h2 (rfl : (mtys G)[5]? = some (_, .object (mC 5))) h4 (mC_in (by decide)) (i32_vin h0 h1 hn) d (fun H1 locs1 hP _ hS1 => ?_)
  rw [i32_tn hi] at hP
  exact k H1 locs1 ls hz (wd_ast hz' hP (by rw [upd_q h0 hv.1 μ z rfl]; rfl)) hS1 hl
theorem ex_alen {G : Gm} {Φ : Fr} {cc : ByteArray} {own : String} {nL fr lo mc ms pc : Nat} {L : List (Option AV)} {st : List AV} {S : List Sh} {μ : Mem} {kc ks : Nat} {k n : Nat} {z : Int} (hΦ : St G Φ cc own nL fr lo mc ms) (hz' : So S z (.inr (k, n))) (hk : k = 0 ∨ k = 1) (d : decode cc pc = .ok (.arraylength, 1)) (k : Ex G Φ nL (pc + 1) L ((0, (n : Int)) :: st) S μ kc ks) : Ex G Φ nL (pc) L ((2, z) :: st) S μ kc ks := by
  obtain ⟨p, e, R, s, m, args, below, meth, c, Q⟩ := Φ
  obtain ⟨hx, hb, hml, hown, hts, hK, hsz, hR⟩ := hΦ
  intro H locs ls hz hW hS hl
  rw [List.map_cons, mv_ref hz'.1]
  have h2 := mw_get (G := G) (μ := μ) hz'.2
  rcases hk with rfl | rfl
  · exact va_alen (D := G.2.1) (v := Int32.ofInt n) hx hb hK.1 hW z.toNat 0 h2 (rfl : (mtys G)[0]? = some (_, .int)) (Int32.ofInt_eq_ofNat (n := n)).symm d (k H locs ls hz hW hS hl)
  · exact va_alen (D := G.2.1) (v := Int32.ofInt n) hx hb hK.1 hW z.toNat 1 h2 (rfl : (mtys G)[1]? = some (_, .long)) (Int32.ofInt_eq_ofNat (n := n)).symm d (k H locs ls hz hW hS hl)
theorem kst_moved {G : Gm} {s t : State} (hW : s.WarmedH t.vm) (h : kst G s) : kst G t := ⟨va_K.moved hW.alike h.1, fun q hq => va_Nw.warmM hW (h.2.1 q hq), h.2.2.1.moved hW.alike, h.2.2.2.moved hW.alike⟩
theorem mq_ret {G : Gm} {mc : Nat} {P : Option AV → List Sh → Mem → Prop} {r : Option AV} {v : Option Value} {S : List Sh} {μ : Mem} {H : Heap} {args : Array Value} {s : State} {locs : List Loc} (hv : v = r.map (mv G)) (hP : P r S μ) (hK : kst G s) (hz : s.heap.size + mc = G.2.2.2.1 + S.length) (hW : wd G S μ H) (hS : va_S (fun q : Nat => G.2.2.2.1 ≤ q) s.heap H locs) : ∀ t : State, t.heap = H → s.WarmedH t.vm → mq G mc P args s (.returned v) t := by
  intro t ht hw
  refine ⟨⟨r, S, μ, by rw [hv], hP, hz, by rw [ht]; exact hW, kst_moved hw hK⟩, hS.F ht⟩
theorem ex_ireturn {G : Gm} {Φ : Fr} {cc : ByteArray} {own : String} {nL fr lo mc ms pc : Nat} {L : List (Option AV)} {S : List Sh} {μ : Mem} {P : Option AV → List Sh → Mem → Prop} {x : Int} (hΦ : St G Φ cc own nL fr lo mc ms) (hRt : Rt G Φ P mc ms (some .int)) (d : decode cc pc = .ok (.ireturn, 1)) (h : P (some (0, x)) S μ) : Ex G Φ nL pc L [(0, x)] S μ mc ms := by
  obtain ⟨p, e, R, s, m, args, below, meth, c, Q⟩ := Φ
  obtain ⟨hx, hb, hml, hown, hts, hK, hsz, hR⟩ := hΦ
  obtain ⟨hr, hlk, rfl⟩ := hRt
  intro H locs ls hz hW hS hl
  exact W.iret (v := Int32.ofInt x) hx hb hr (mq_ret (r := some (0, x)) rfl h hK hz hW hS) hS.2.2 d hlk
theorem ex_zreturn {G : Gm} {Φ : Fr} {cc : ByteArray} {own : String} {nL fr lo mc ms pc : Nat} {L : List (Option AV)} {S : List Sh} {μ : Mem} {P : Option AV → List Sh → Mem → Prop} {x : Int} (hΦ : St G Φ cc own nL fr lo mc ms) (hRt : Rt G Φ P mc ms (some .boolean)) (h0 : 0 ≤ x) (h1 : x ≤ 1) (d : decode cc pc = .ok (.ireturn, 1)) (h : P (some (0, x)) S μ) : Ex G Φ nL pc L [(0, x)] S μ mc ms := by
  obtain ⟨p, e, R, s, m, args, below, meth, c, Q⟩ := Φ
  obtain ⟨hx, hb, hml, hown, hts, hK, hsz, hR⟩ := hΦ
  obtain ⟨hr, hlk, rfl⟩ := hRt
  intro H locs ls hz hW hS hl
  exact W.zret (v := Int32.ofInt x) hx hb hr (i32_narZ h0 h1).1 (mq_ret (r := some (0, x)) rfl h hK hz hW hS) hS.2.2 d hlk
theorem ex_lreturn {G : Gm} {Φ : Fr} {cc : ByteArray} {own : String} {nL fr lo mc ms pc : Nat} {L : List (Option AV)} {S : List Sh} {μ : Mem} {P : Option AV → List Sh → Mem → Prop} {x : Int} (hΦ : St G Φ cc own nL fr lo mc ms) (hRt : Rt G Φ P mc ms (some .long)) (d : decode cc pc = .ok (.lreturn, 1)) (h : P (some (1, x)) S μ) : Ex G Φ nL pc L [(1, x)] S μ mc ms := by
  obtain ⟨p, e, R, s, m, args, below, meth, c, Q⟩ := Φ
  obtain ⟨hx, hb, hml, hown, hts, hK, hsz, hR⟩ := hΦ
  obtain ⟨hr, hlk, rfl⟩ := hRt
  intro H locs ls hz hW hS hl
  exact W.lret (v := Int64.ofInt x) hx hb hr (mq_ret (r := some (1, x)) rfl h hK hz hW hS) hS.2.2 d hlk
theorem ex_return {G : Gm} {Φ : Fr} {cc : ByteArray} {own : String} {nL fr lo mc ms pc : Nat} {L : List (Option AV)} {S : List Sh} {μ : Mem} {P : Option AV → List Sh → Mem → Prop} (hΦ : St G Φ cc own nL fr lo mc ms) (hRt : Rt G Φ P mc ms none) (d : decode cc pc = .ok (.return_, 1)) (h : P none S μ) : Ex G Φ nL pc L [] S μ mc ms := by
  obtain ⟨p, e, R, s, m, args, below, meth, c, Q⟩ := Φ
  obtain ⟨hx, hb, hml, hown, hts, hK, hsz, hR⟩ := hΦ
  obtain ⟨hr, hlk, rfl⟩ := hRt
  intro H locs ls hz hW hS hl
  exact W.vret hx hb hr (mq_ret (r := none) rfl h hK hz hW hS) hS.2.2 d hlk
/-- the heap's size at a place of the walk -/
theorem heap_at {p : Program} {l : Launch} {e : Env} {R : Room} {s : State} {m : MethodId} {args : Array Value} {below : List Frame} {meth : Method} {c : Code} {T : State} {locs : List Loc} {kc ks : Nat} {G : Gm} {S : List Sh} {μ : Mem} {A : Nat → Prop} (X : Stand p l e R s m args below meth c T locs kc ks) (hz : s.heap.size + kc = G.2.2.2.1 + S.length) (hb : G.2.2.2.1 ≤ s.heap.size) (hW : wd G S μ T.heap) (hS : va_S A s.heap T.heap locs) : T.heap.size = G.2.2.2.1 + S.length := by
  have h1 := X.heapSize
  have h2 := hS.1
  cases hn : S.length with
  | zero => omega
  | succ n =>
    have hl : n < S.length := by omega
    have h3 := (hW n _ (mw_get (List.getElem?_eq_getElem hl))).lt
    dsimp only at h3
    omega
theorem ex_run {p : Program} {l : Launch} {e : Env} {R : Room} {s : State} {m : MethodId} {args : Array Value} {below : List Frame} {meth : Method} {c : Code} {H : Heap} {locs : List Loc} {kc ks mc ms : Nat} {Q : State → Prop} {g : JFrame} {G : Gm} {S : List Sh} {st : List AV} {as : Array Value} {P : Option AV → List Sh → Mem → Prop}
    (hr : va_Run p l e R s m args below meth c H locs kc ks mc ms g (st.map (mv G)) (mq G mc P as) (fun q : Nat => G.2.2.2.1 ≤ q)) (hHs : H.size = G.2.2.2.1 + S.length) (hz : s.heap.size + kc = G.2.2.2.1 + S.length) (hS : va_S (fun q : Nat => G.2.2.2.1 ≤ q) s.heap H locs)
    (k : ∀ (r : Option AV) (S' : List Sh) (μ' : Mem), P r S' μ' → ∀ (H1 : Heap) (locs1 : List Loc), s.heap.size + (kc + mc) = G.2.2.2.1 + S'.length → wd G S' μ' H1 → va_S (fun q : Nat => G.2.2.2.1 ≤ q) s.heap H1 locs1 → W p l e R s m args below meth c H1 locs1 (kc + mc) (ks + ms) Q { g with pc := g.pc + 3, stack := (r.toList ++ st).map (mv G) }) : W p l e R s m args below meth c H locs kc ks Q g := by
  intro T hT X
  obtain ⟨v, st₀, t, T', L, h0, X', hL, e1, e2, ⟨⟨r, S', μ', hv, hP, hz', hW', hK'⟩, hF⟩, stp⟩ := hr T hT X
  obtain rfl : v = r.map (mv G) := by cases hv; rfl
  rw [h0] at hz'
  have hF1 : H.size ≤ t.heap.size := by rw [← h0]; exact hF.1
  have hF2 : ∀ q : Nat, q < H.size → ¬ G.2.2.2.1 ≤ q → t.heap[q]? = H[q]? := by rw [← h0]; exact hF.2
  obtain ⟨t2, a1, b1⟩ := k r S' μ' hP T'.heap (locs ++ L) (by omega) (by rw [e1]; exact hW')
    ⟨Nat.le_trans hS.1 (by rw [e1]; exact hF1), fun q h1 h2 => by rw [e1, hF2 q (Nat.lt_of_lt_of_le h1 hS.1) h2]; exact hS.2.1 q h1 h2, fun q hq => by
      rcases List.mem_append.mp hq with h | h
      · exact hS.2.2 q h
      · exact hL q h⟩ T' rfl X'
  refine ⟨t2, stp t2 ?_, b1⟩
  have e3 : (r.map (mv G)).toList ++ st.map (mv G) = (r.toList ++ st).map (mv G) := by cases r <;> rfl
  rw [e3]
  exact a1
/-- what a call of M by entry idx of class own wants of the tables -/
def lfB (own : String) (idx : Nat) (M : Md) (n : Nat) : Prop := Cond.methodLink own idx M.1 ∈ wsT ∧ Cond.code M.1 M.2.1 M.2.2.1 M.2.2.2.1 ∈ wsT ∧ Cond.initialized M.1.cls ∈ wsT ∧ (M.1.cls ≠ "java/lang/invoke/MethodHandle" ∧ M.1.cls ≠ "java/lang/invoke/VarHandle" ∧ (parseMethodDescriptor M.1.desc).map (fun d => d.parameters.length) = some n)
def lfV (own : String) (idx : Nat) (M : Md) (n : Nat) : Prop := lfB own idx M n ∧ Cond.instanceMethod M.1 ∈ wsT ∧ Cond.selects M.1.cls M.1 M.1 ∈ wsT
def lfS (own : String) (idx : Nat) (M : Md) (n : Nat) : Prop := lfB own idx M n ∧ Cond.static M.1 ∈ wsT
def lfI (own : String) (idx : Nat) (M : Md) (n : Nat) : Prop := lfB own idx M n ∧ Cond.instanceMethod M.1 ∈ wsT ∧ M.1.name = "<init>" ∧ M.2.2.2.1 = none
/-- the same, a nest mate's private one -/
def lfN (own : String) (idx : Nat) (M : Md) (n : Nat) : Prop := (own, idx, M.1, "CogFamily") ∈ nestW ∧ Cond.code M.1 M.2.1 M.2.2.1 M.2.2.2.1 ∈ wsT ∧ Cond.initialized M.1.cls ∈ wsT ∧ (M.1.cls ≠ "java/lang/invoke/MethodHandle" ∧ M.1.cls ≠ "java/lang/invoke/VarHandle" ∧ (parseMethodDescriptor M.1.desc).map (fun d => d.parameters.length) = some n)
def lfSN (own : String) (idx : Nat) (M : Md) (n : Nat) : Prop := lfN own idx M n ∧ Cond.static M.1 ∈ wsT
def lfIN (own : String) (idx : Nat) (M : Md) (n : Nat) : Prop := lfN own idx M n ∧ Cond.instanceMethod M.1 ∈ wsT ∧ M.1.name = "<init>" ∧ M.2.2.2.1 = none
def rmF (M : Md) (fr lo : Nat) : Prop := M.2.2.2.2.1 + 1 ≤ fr ∧ 8 + (M.2.2.1 + 11) + M.2.2.2.2.2 ≤ lo
theorem wsM_in {M : Md} (h : Cond.code M.1 M.2.1 M.2.2.1 M.2.2.2.1 ∈ wsT) : GoodIn wsT (wsM M) := by
  intro w hw
  rcases List.mem_cons.mp hw with rfl | hw
  · exact wsT_gi _ h
  · exact wsT_gi _ hw
theorem st_cat {G : Gm} {st : List AV} (h : st.length ≤ 4) : ((st.map (mv G)).map fun v => v.category).sum ≤ 8 := by
  have key : ∀ l : List AV, ((l.map (mv G)).map fun v => v.category).sum ≤ 2 * l.length := by
    intro l
    induction l with
    | nil => simp
    | cons v t ih =>
      have : (mv G v).category ≤ 2 := by rcases lv_cat (mv G v) with q | q <;> omega
      simp only [List.map_cons, List.sum_cons, List.length_cons]
      omega
  have := key st
  omega
theorem blind {G : Gm} {as : List AV} {S : List Sh} {μ : Mem} : FrameBlind (va_Pc (as.map (mv G)) (fun U => U.heap.size = G.2.2.2.1 + S.length ∧ wd G S μ U.heap ∧ kst G U)) := by
  intro a U g mk q
  obtain ⟨q0, q1, q2, q3, q4, q5, q6⟩ := q
  have hvm : U.vm = (U.calling g mk a).vm := rfl
  exact ⟨q0, q1, q2, va_K.moved (u := U) (U := U.calling g mk a) (Vm.Alike.refl U.vm) q3, fun q hq => va_Nw.same rfl hvm (q4 q hq), q5.moved (Vm.Alike.refl U.vm), q6.moved (Vm.Alike.refl U.vm)⟩
theorem ex_callV {G : Gm} {Φ : Fr} {cc : ByteArray} {own : String} {nL fr lo mc ms pc : Nat} {L : List (Option AV)} {st : List AV} {S : List Sh} {μ : Mem} {kc ks : Nat} {idx mc' ms' n : Nat} {M : Md} {P' : Option AV → List Sh → Mem → Prop} {z : Int} (as stk : List AV) (hΦ : St G Φ cc own nL fr lo mc ms) (f : lfV own idx M n) (hrm : rmF M fr lo) (hsl : st.length ≤ 4) (hal : as.length = n) (hroom : kc + mc' ≤ mc ∧ ks + ms' ≤ ms) (ci : Nat) (hci : ci < 9) (hcl : M.1.cls = mC ci) (hz' : So S z (.inl ci)) (d : decode cc pc = .ok (.invokevirtual idx, 3)) (hst : stk = as.reverse ++ (2, z) :: st) (h : Call G M mc' ms' ((2, z) :: as) S μ P') (k : ∀ (r : Option AV) (S' : List Sh) (μ' : Mem), P' r S' μ' → Ex G Φ nL (pc + 3) L (r.toList ++ st) S' μ' (kc + mc') (ks + ms')) : Ex G Φ nL pc L stk S μ kc ks := by
  subst hst
  obtain ⟨p, e, R, s, m, args, below, meth, c, Q⟩ := Φ
  obtain ⟨hx, hb, hml, hown, hts, hK, hsz, hR⟩ := hΦ
  intro H locs ls hz hW hS hl
  obtain ⟨⟨f1, f2, f3, f4⟩, f5⟩ := f
  obtain ⟨f5, f6⟩ := f5
  rw [hcl] at f6
  intro T hT X
  have hHs : H.size = G.2.2.2.1 + S.length := by rw [← hT]; exact heap_at X hz hsz (by rw [hT]; exact hW) (by rw [hT]; exact hS)
  have hst : (as.reverse ++ (2, z) :: st).map (mv G) = (as.map (mv G)).reverse ++ .ref (G.2.2.2.1 + z.toNat) :: st.map (mv G) := by rw [List.map_append, List.map_reverse, List.map_cons, mv_ref hz'.1]
  rw [hst]
  have hin : GoodIn wsT (wsM M) := wsM_in f2
  have hfr : (rmM M mc' ms').frames + 1 ≤ R.frames := by rw [hR]; exact hrm.1
  have hlo : 8 + (M.2.2.1 + 11) + (rmM M mc' ms').locals ≤ R.locals := by rw [hR]; exact hrm.2
  have hsig : ∀ sig, parseMethodDescriptor M.1.desc = some sig → n = sig.parameters.length := fun sig hs => by have h2 := f4.2.2; rw [hs] at h2; exact (Option.some.inj h2).symm
  have hpay := pay_in hts hin
  have hcode : Cond.code M.1 M.2.1 M.2.2.1 M.2.2.2.1 ∈ wsM M := List.mem_cons_self
  have hcb := hts _ f2
  have hini := hts _ f3
  have cb : CallB R s args own idx M.1 M.2.1 M.2.2.1 M.2.2.2.1 (wsM M) (rmM M mc' ms') mc' ms' n := ⟨rfl, rfl, hfr, hlo, hpay, hcode, hcb, hini, ⟨f4.1, f4.2.1⟩, hsig, hts _ f1⟩
  have hfix : CallFix p m c cc nL s args wsT own := ⟨hx, hb, hml, hown, hts⟩
  have hpc : ∀ U : State, U.heap = H → s.WarmedH U.vm → va_Pc ((((2, z) :: as)).map (mv G)) (fun U => U.heap.size = G.2.2.2.1 + S.length ∧ wd G S μ U.heap ∧ kst G U) (Value.ref (G.2.2.2.1 + z.toNat) :: as.map (mv G)).toArray U := fun U hU hWm => ⟨by rw [List.map_cons, mv_ref hz'.1], by rw [hU]; exact hHs, by rw [hU]; exact hW, kst_moved hWm hK⟩
  have hroom' : kc + mc' ≤ R.cells ∧ ks + ms' ≤ R.slots := by rw [hR]; exact hroom
  have hcat : 2 * (F0 m pc ls ((as.map (mv G)).reverse ++ .ref (G.2.2.2.1 + z.toNat) :: st.map (mv G))).monitorRoom + ((st.map (mv G)).map fun v => v.category).sum ≤ 8 := by show 2 * 0 + _ ≤ 8; have := st_cat (G := G) hsl; omega
  have hrun := va_runV (C := mC ci) (b := G.2.2.2.1 + z.toNat) (e := e) (below := below) (meth := meth) (locs := locs) (g := F0 m pc ls ((as.map (mv G)).reverse ++ .ref (G.2.2.2.1 + z.toNat) :: st.map (mv G))) (As := as.map (mv G)) (rest := st.map (mv G)) hfix h ⟨cb, hts _ f5, hts _ f6⟩ ⟨blind, va_recv (D := G.2.1) hK.1 hW (mC_in hci) (mw_get hz'.2), hpc⟩ rfl (by rw [List.length_map]; exact hal) hl.1 rfl hcat d hroom'
  exact ex_run (S := S) hrun hHs hz hS (fun r S' μ' hP H1 locs1 hz1 hW1 hS1 => k r S' μ' hP H1 locs1 ls hz1 hW1 hS1 hl) T hT X
theorem ex_callS {G : Gm} {Φ : Fr} {cc : ByteArray} {own : String} {nL fr lo mc ms pc : Nat} {L : List (Option AV)} {st : List AV} {S : List Sh} {μ : Mem} {kc ks : Nat} {idx mc' ms' n : Nat} {M : Md} {P' : Option AV → List Sh → Mem → Prop} (as stk : List AV) (hΦ : St G Φ cc own nL fr lo mc ms) (f : lfS own idx M n) (hrm : rmF M fr lo) (hsl : st.length ≤ 4) (hal : as.length = n) (hroom : kc + mc' ≤ mc ∧ ks + ms' ≤ ms) (d : decode cc pc = .ok (.invokestatic idx, 3)) (hst : stk = as.reverse ++ st) (h : Call G M mc' ms' as S μ P') (k : ∀ (r : Option AV) (S' : List Sh) (μ' : Mem), P' r S' μ' → Ex G Φ nL (pc + 3) L (r.toList ++ st) S' μ' (kc + mc') (ks + ms')) : Ex G Φ nL pc L stk S μ kc ks := by
  subst hst
  obtain ⟨p, e, R, s, m, args, below, meth, c, Q⟩ := Φ
  obtain ⟨hx, hb, hml, hown, hts, hK, hsz, hR⟩ := hΦ
  intro H locs ls hz hW hS hl
  obtain ⟨⟨f1, f2, f3, f4⟩, f5⟩ := f
  intro T hT X
  have hHs : H.size = G.2.2.2.1 + S.length := by rw [← hT]; exact heap_at X hz hsz (by rw [hT]; exact hW) (by rw [hT]; exact hS)
  have hst : (as.reverse ++ st).map (mv G) = (as.map (mv G)).reverse ++ st.map (mv G) := by rw [List.map_append, List.map_reverse]
  rw [hst]
  have hin : GoodIn wsT (wsM M) := wsM_in f2
  have hfr : (rmM M mc' ms').frames + 1 ≤ R.frames := by rw [hR]; exact hrm.1
  have hlo : 8 + (M.2.2.1 + 11) + (rmM M mc' ms').locals ≤ R.locals := by rw [hR]; exact hrm.2
  have hsig : ∀ sig, parseMethodDescriptor M.1.desc = some sig → n = sig.parameters.length := fun sig hs => by have h2 := f4.2.2; rw [hs] at h2; exact (Option.some.inj h2).symm
  have hpay := pay_in hts hin
  have hcode : Cond.code M.1 M.2.1 M.2.2.1 M.2.2.2.1 ∈ wsM M := List.mem_cons_self
  have hcb := hts _ f2
  have hini := hts _ f3
  have cb : CallB R s args own idx M.1 M.2.1 M.2.2.1 M.2.2.2.1 (wsM M) (rmM M mc' ms') mc' ms' n := ⟨rfl, rfl, hfr, hlo, hpay, hcode, hcb, hini, ⟨f4.1, f4.2.1⟩, hsig, hts _ f1⟩
  have hfix : CallFix p m c cc nL s args wsT own := ⟨hx, hb, hml, hown, hts⟩
  have hpc : ∀ U : State, U.heap = H → s.WarmedH U.vm → va_Pc ((as).map (mv G)) (fun U => U.heap.size = G.2.2.2.1 + S.length ∧ wd G S μ U.heap ∧ kst G U) (as.map (mv G)).toArray U := fun U hU hWm => ⟨rfl, by rw [hU]; exact hHs, by rw [hU]; exact hW, kst_moved hWm hK⟩
  have hroom' : kc + mc' ≤ R.cells ∧ ks + ms' ≤ R.slots := by rw [hR]; exact hroom
  have hcat : 2 * (F0 m pc ls ((as.map (mv G)).reverse ++ st.map (mv G))).monitorRoom + ((st.map (mv G)).map fun v => v.category).sum ≤ 8 := by show 2 * 0 + _ ≤ 8; have := st_cat (G := G) hsl; omega
  have hrun := va_runS (e := e) (below := below) (meth := meth) (locs := locs) (g := F0 m pc ls ((as.map (mv G)).reverse ++ st.map (mv G))) (As := as.map (mv G)) (rest := st.map (mv G)) hfix h ⟨cb, hts _ f5⟩ ⟨blind, hpc⟩ rfl (by rw [List.length_map]; exact hal) hl.1 rfl hcat d hroom'
  exact ex_run (S := S) hrun hHs hz hS (fun r S' μ' hP H1 locs1 hz1 hW1 hS1 => k r S' μ' hP H1 locs1 ls hz1 hW1 hS1 hl) T hT X
theorem ex_callSN {G : Gm} {Φ : Fr} {cc : ByteArray} {own : String} {nL fr lo mc ms pc : Nat} {L : List (Option AV)} {st : List AV} {S : List Sh} {μ : Mem} {kc ks : Nat} {idx mc' ms' n : Nat} {M : Md} {P' : Option AV → List Sh → Mem → Prop} (as stk : List AV) (hΦ : St G Φ cc own nL fr lo mc ms) (f : lfSN own idx M n) (hrm : rmF M fr lo) (hsl : st.length ≤ 4) (hal : as.length = n) (hroom : kc + mc' ≤ mc ∧ ks + ms' ≤ ms) (d : decode cc pc = .ok (.invokestatic idx, 3)) (hst : stk = as.reverse ++ st) (h : Call G M mc' ms' as S μ P') (k : ∀ (r : Option AV) (S' : List Sh) (μ' : Mem), P' r S' μ' → Ex G Φ nL (pc + 3) L (r.toList ++ st) S' μ' (kc + mc') (ks + ms')) : Ex G Φ nL pc L stk S μ kc ks := by
  subst hst
  obtain ⟨p, e, R, s, m, args, below, meth, c, Q⟩ := Φ
  obtain ⟨hx, hb, hml, hown, hts, hK, hsz, hR⟩ := hΦ
  intro H locs ls hz hW hS hl
  obtain ⟨⟨f1, f2, f3, f4⟩, f5⟩ := f
  have fl : va_Nw (.methodLinkNest own idx M.1 "CogFamily") s := hK.2.1 _ f1
  intro T hT X
  have hHs : H.size = G.2.2.2.1 + S.length := by rw [← hT]; exact heap_at X hz hsz (by rw [hT]; exact hW) (by rw [hT]; exact hS)
  have hst : (as.reverse ++ st).map (mv G) = (as.map (mv G)).reverse ++ st.map (mv G) := by rw [List.map_append, List.map_reverse]
  rw [hst]
  have hin : GoodIn wsT (wsM M) := wsM_in f2
  have hfr : (rmM M mc' ms').frames + 1 ≤ R.frames := by rw [hR]; exact hrm.1
  have hlo : 8 + (M.2.2.1 + 11) + (rmM M mc' ms').locals ≤ R.locals := by rw [hR]; exact hrm.2
  have hsig : ∀ sig, parseMethodDescriptor M.1.desc = some sig → n = sig.parameters.length := fun sig hs => by have h2 := f4.2.2; rw [hs] at h2; exact (Option.some.inj h2).symm
  have hpay := pay_in hts hin
  have hcode : Cond.code M.1 M.2.1 M.2.2.1 M.2.2.2.1 ∈ wsM M := List.mem_cons_self
  have hcb := hts _ f2
  have hini := hts _ f3
  have cb : va_CN R s args own idx M.1 "CogFamily" M.2.1 M.2.2.1 M.2.2.2.1 (wsM M) (rmM M mc' ms') mc' ms' n := ⟨⟨rfl, rfl, hfr, hlo, hpay, hcode⟩, hcb, hini, ⟨f4.1, f4.2.1⟩, hsig, va_Nw.use rfl fl⟩
  have hfix : CallFix p m c cc nL s args wsT own := ⟨hx, hb, hml, hown, hts⟩
  have hpc : ∀ U : State, U.heap = H → s.WarmedH U.vm → va_Pc ((as).map (mv G)) (fun U => U.heap.size = G.2.2.2.1 + S.length ∧ wd G S μ U.heap ∧ kst G U) (as.map (mv G)).toArray U := fun U hU hWm => ⟨rfl, by rw [hU]; exact hHs, by rw [hU]; exact hW, kst_moved hWm hK⟩
  have hroom' : kc + mc' ≤ R.cells ∧ ks + ms' ≤ R.slots := by rw [hR]; exact hroom
  have hcat : 2 * (F0 m pc ls ((as.map (mv G)).reverse ++ st.map (mv G))).monitorRoom + ((st.map (mv G)).map fun v => v.category).sum ≤ 8 := by show 2 * 0 + _ ≤ 8; have := st_cat (G := G) hsl; omega
  have hrun := va_runSN (e := e) (below := below) (meth := meth) (locs := locs) (g := F0 m pc ls ((as.map (mv G)).reverse ++ st.map (mv G))) (As := as.map (mv G)) (rest := st.map (mv G)) hfix h ⟨cb, hts _ f5, trivial⟩ ⟨blind, hpc⟩ rfl (by rw [List.length_map]; exact hal) hl.1 rfl hcat d hroom'
  exact ex_run (S := S) hrun hHs hz hS (fun r S' μ' hP H1 locs1 hz1 hW1 hS1 => k r S' μ' hP H1 locs1 ls hz1 hW1 hS1 hl) T hT X
theorem ex_callI {G : Gm} {Φ : Fr} {cc : ByteArray} {own : String} {nL fr lo mc ms pc : Nat} {L : List (Option AV)} {st : List AV} {S : List Sh} {μ : Mem} {kc ks : Nat} {idx mc' ms' n : Nat} {M : Md} {P' : Option AV → List Sh → Mem → Prop} {z : Int} (as stk : List AV) (hΦ : St G Φ cc own nL fr lo mc ms) (f : lfI own idx M n) (hrm : rmF M fr lo) (hsl : st.length ≤ 4) (hal : as.length = n) (hroom : kc + mc' ≤ mc ∧ ks + ms' ≤ ms) (hz' : 0 ≤ z) (d : decode cc pc = .ok (.invokespecial idx, 3)) (hst : stk = as.reverse ++ (2, z) :: st) (h : Call G M mc' ms' ((2, z) :: as) S μ P') (k : ∀ (r : Option AV) (S' : List Sh) (μ' : Mem), P' r S' μ' → Ex G Φ nL (pc + 3) L (r.toList ++ st) S' μ' (kc + mc') (ks + ms')) : Ex G Φ nL pc L stk S μ kc ks := by
  subst hst
  obtain ⟨p, e, R, s, m, args, below, meth, c, Q⟩ := Φ
  obtain ⟨hx, hb, hml, hown, hts, hK, hsz, hR⟩ := hΦ
  intro H locs ls hz hW hS hl
  obtain ⟨⟨f1, f2, f3, f4⟩, f5⟩ := f
  obtain ⟨f5, f6, f7⟩ := f5
  intro T hT X
  have hHs : H.size = G.2.2.2.1 + S.length := by rw [← hT]; exact heap_at X hz hsz (by rw [hT]; exact hW) (by rw [hT]; exact hS)
  have hst : (as.reverse ++ (2, z) :: st).map (mv G) = (as.map (mv G)).reverse ++ .ref (G.2.2.2.1 + z.toNat) :: st.map (mv G) := by rw [List.map_append, List.map_reverse, List.map_cons, mv_ref hz']
  rw [hst]
  have hin : GoodIn wsT (wsM M) := wsM_in f2
  have hfr : (rmM M mc' ms').frames + 1 ≤ R.frames := by rw [hR]; exact hrm.1
  have hlo : 8 + (M.2.2.1 + 11) + (rmM M mc' ms').locals ≤ R.locals := by rw [hR]; exact hrm.2
  have hsig : ∀ sig, parseMethodDescriptor M.1.desc = some sig → n = sig.parameters.length := fun sig hs => by have h2 := f4.2.2; rw [hs] at h2; exact (Option.some.inj h2).symm
  have hpay := pay_in hts hin
  have hcode : Cond.code M.1 M.2.1 M.2.2.1 M.2.2.2.1 ∈ wsM M := List.mem_cons_self
  have hcb := hts _ f2
  have hini := hts _ f3
  rw [f7] at hcode hcb
  have cb : CallB R s args own idx M.1 M.2.1 M.2.2.1 none (wsM M) (rmM M mc' ms') mc' ms' n := ⟨rfl, rfl, hfr, hlo, hpay, hcode, hcb, hini, ⟨f4.1, f4.2.1⟩, hsig, hts _ f1⟩
  have hfix : CallFix p m c cc nL s args wsT own := ⟨hx, hb, hml, hown, hts⟩
  have hpc : ∀ U : State, U.heap = H → s.WarmedH U.vm → va_Pc ((((2, z) :: as)).map (mv G)) (fun U => U.heap.size = G.2.2.2.1 + S.length ∧ wd G S μ U.heap ∧ kst G U) (Value.ref (G.2.2.2.1 + z.toNat) :: as.map (mv G)).toArray U := fun U hU hWm => ⟨by rw [List.map_cons, mv_ref hz'], by rw [hU]; exact hHs, by rw [hU]; exact hW, kst_moved hWm hK⟩
  have hroom' : kc + mc' ≤ R.cells ∧ ks + ms' ≤ R.slots := by rw [hR]; exact hroom
  have hcat : 2 * (F0 m pc ls ((as.map (mv G)).reverse ++ .ref (G.2.2.2.1 + z.toNat) :: st.map (mv G))).monitorRoom + ((st.map (mv G)).map fun v => v.category).sum ≤ 8 := by show 2 * 0 + _ ≤ 8; have := st_cat (G := G) hsl; omega
  have hrun := va_runI (b := G.2.2.2.1 + z.toNat) (e := e) (below := below) (meth := meth) (locs := locs) (g := F0 m pc ls ((as.map (mv G)).reverse ++ .ref (G.2.2.2.1 + z.toNat) :: st.map (mv G))) (As := as.map (mv G)) (rest := st.map (mv G)) hfix h ⟨cb, f6, hts _ f5⟩ ⟨blind, hpc⟩ rfl (by rw [List.length_map]; exact hal) hl.1 rfl hcat d hroom'
  exact ex_run (S := S) hrun hHs hz hS (fun r S' μ' hP H1 locs1 hz1 hW1 hS1 => k r S' μ' hP H1 locs1 ls hz1 hW1 hS1 hl) T hT X
theorem ex_callIN {G : Gm} {Φ : Fr} {cc : ByteArray} {own : String} {nL fr lo mc ms pc : Nat} {L : List (Option AV)} {st : List AV} {S : List Sh} {μ : Mem} {kc ks : Nat} {idx mc' ms' n : Nat} {M : Md} {P' : Option AV → List Sh → Mem → Prop} {z : Int} (as stk : List AV) (hΦ : St G Φ cc own nL fr lo mc ms) (f : lfIN own idx M n) (hrm : rmF M fr lo) (hsl : st.length ≤ 4) (hal : as.length = n) (hroom : kc + mc' ≤ mc ∧ ks + ms' ≤ ms) (hz' : 0 ≤ z) (d : decode cc pc = .ok (.invokespecial idx, 3)) (hst : stk = as.reverse ++ (2, z) :: st) (h : Call G M mc' ms' ((2, z) :: as) S μ P') (k : ∀ (r : Option AV) (S' : List Sh) (μ' : Mem), P' r S' μ' → Ex G Φ nL (pc + 3) L (r.toList ++ st) S' μ' (kc + mc') (ks + ms')) : Ex G Φ nL pc L stk S μ kc ks := by
  subst hst
  obtain ⟨p, e, R, s, m, args, below, meth, c, Q⟩ := Φ
  obtain ⟨hx, hb, hml, hown, hts, hK, hsz, hR⟩ := hΦ
  intro H locs ls hz hW hS hl
  obtain ⟨⟨f1, f2, f3, f4⟩, f5⟩ := f
  have fl : va_Nw (.methodLinkNest own idx M.1 "CogFamily") s := hK.2.1 _ f1
  obtain ⟨f5, f6, f7⟩ := f5
  intro T hT X
  have hHs : H.size = G.2.2.2.1 + S.length := by rw [← hT]; exact heap_at X hz hsz (by rw [hT]; exact hW) (by rw [hT]; exact hS)
  have hst : (as.reverse ++ (2, z) :: st).map (mv G) = (as.map (mv G)).reverse ++ .ref (G.2.2.2.1 + z.toNat) :: st.map (mv G) := by rw [List.map_append, List.map_reverse, List.map_cons, mv_ref hz']
  rw [hst]
  have hin : GoodIn wsT (wsM M) := wsM_in f2
  have hfr : (rmM M mc' ms').frames + 1 ≤ R.frames := by rw [hR]; exact hrm.1
  have hlo : 8 + (M.2.2.1 + 11) + (rmM M mc' ms').locals ≤ R.locals := by rw [hR]; exact hrm.2
  have hsig : ∀ sig, parseMethodDescriptor M.1.desc = some sig → n = sig.parameters.length := fun sig hs => by have h2 := f4.2.2; rw [hs] at h2; exact (Option.some.inj h2).symm
  have hpay := pay_in hts hin
  have hcode : Cond.code M.1 M.2.1 M.2.2.1 M.2.2.2.1 ∈ wsM M := List.mem_cons_self
  have hcb := hts _ f2
  have hini := hts _ f3
  rw [f7] at hcode hcb
  have cb : va_CN R s args own idx M.1 "CogFamily" M.2.1 M.2.2.1 none (wsM M) (rmM M mc' ms') mc' ms' n := ⟨⟨rfl, rfl, hfr, hlo, hpay, hcode⟩, hcb, hini, ⟨f4.1, f4.2.1⟩, hsig, va_Nw.use rfl fl⟩
  have hfix : CallFix p m c cc nL s args wsT own := ⟨hx, hb, hml, hown, hts⟩
  have hpc : ∀ U : State, U.heap = H → s.WarmedH U.vm → va_Pc ((((2, z) :: as)).map (mv G)) (fun U => U.heap.size = G.2.2.2.1 + S.length ∧ wd G S μ U.heap ∧ kst G U) (Value.ref (G.2.2.2.1 + z.toNat) :: as.map (mv G)).toArray U := fun U hU hWm => ⟨by rw [List.map_cons, mv_ref hz'], by rw [hU]; exact hHs, by rw [hU]; exact hW, kst_moved hWm hK⟩
  have hroom' : kc + mc' ≤ R.cells ∧ ks + ms' ≤ R.slots := by rw [hR]; exact hroom
  have hcat : 2 * (F0 m pc ls ((as.map (mv G)).reverse ++ .ref (G.2.2.2.1 + z.toNat) :: st.map (mv G))).monitorRoom + ((st.map (mv G)).map fun v => v.category).sum ≤ 8 := by show 2 * 0 + _ ≤ 8; have := st_cat (G := G) hsl; omega
  have hrun := va_runIN (b := G.2.2.2.1 + z.toNat) (e := e) (below := below) (meth := meth) (locs := locs) (g := F0 m pc ls ((as.map (mv G)).reverse ++ .ref (G.2.2.2.1 + z.toNat) :: st.map (mv G))) (As := as.map (mv G)) (rest := st.map (mv G)) hfix h ⟨cb, f6, hts _ f5⟩ ⟨blind, hpc⟩ rfl (by rw [List.length_map]; exact hal) hl.1 rfl hcat d hroom'
  exact ex_run (S := S) hrun hHs hz hS (fun r S' μ' hP H1 locs1 hz1 hW1 hS1 => k r S' μ' hP H1 locs1 ls hz1 hW1 hS1 hl) T hT X
/-- a new cell stands where the list says -/
theorem new_at {p : Program} {l : Launch} {e : Env} {R : Room} {s : State} {m : MethodId} {args : Array Value} {below : List Frame} {meth : Method} {c : Code} {T : State} {locs : List Loc} {kc ks : Nat} {G : Gm} {S : List Sh} {μ : Mem} {q : Nat} {x : va_E} (X : Stand p l e R s m args below meth c T locs (kc + 1) ks) (hz : s.heap.size + kc = G.2.2.2.1 + S.length) (hP : va_P G.2.1 vwCl (mw G S μ ++ [(q, x)]) T.heap) (hD : va_D (fun q : Nat => G.2.2.2.1 ≤ q) (mw G S μ ++ [(q, x)])) : q = G.2.2.2.1 + S.length := by
  have h1 := X.heapSize
  have e1 : (mw G S μ ++ [(q, x)])[S.length]? = some (q, x) := by rw [List.getElem?_append_right (by rw [mw_len]; omega), mw_len, Nat.sub_self]; rfl
  have h2 := (hP _ _ e1).lt
  have h3 := hD.2 _ _ e1
  dsimp only at h2 h3
  by_cases hlt : q < G.2.2.2.1 + S.length
  · have hk : q - G.2.2.2.1 < S.length := by omega
    have e2 : (mw G S μ ++ [(q, x)])[q - G.2.2.2.1]? = some (G.2.2.2.1 + (q - G.2.2.2.1), ment G S[q - G.2.2.2.1] (μ (q - G.2.2.2.1 : Nat))) := by
      rw [List.getElem?_append_left (by rw [mw_len]; exact hk), mw_get (List.getElem?_eq_getElem hk)]
    have := hD.1 _ _ _ _ e1 e2 (by dsimp only; omega)
    omega
  · omega
def mz (μ : Mem) (k : Int) (f : Int → Int) : Mem := fun k' => if k' = k then f else μ k'
theorem mz_at {μ : Mem} {k : Int} {f : Int → Int} : mz μ k f k = f := by simp [mz]
theorem mz_ne {μ : Mem} {k k' : Int} {f : Int → Int} (h : k' ≠ k) : mz μ k f k' = μ k' := by simp [mz, h]
/-- a new object's fields: nulls and noughts -/
def mdf (ci : Nat) : Int → Int := fun j => if mfk ci j.toNat = 2 then -1 else 0
def fplain (t : FieldType) : Bool := match t with
  | .int => true
  | .boolean => true
  | .object _ => true
  | .array _ => true
  | _ => false
theorem mdf_ok {G : Gm} {t : FieldType} (h : fplain t = true) : defaultValue t = mv G (fkind t, if fkind t = 2 then -1 else 0) := by
  cases t <;> first | rfl | cases h
theorem wd_new {G : Gm} {S : List Sh} {μ μ' : Mem} {H : Heap} {s : Sh} {x : va_E} (hP : va_P G.2.1 vwCl (mw G S μ ++ [(G.2.2.2.1 + S.length, x)]) H) (hx : x = ment G s (μ' S.length)) (ho : ∀ j : Nat, j < S.length → μ' j = μ j) : wd G (S ++ [s]) μ' H := by
  rw [mw_push hx ho] at hP
  exact hP
theorem ex_new {G : Gm} {Φ : Fr} {cc : ByteArray} {own : String} {nL fr lo mc ms pc : Nat} {L : List (Option AV)} {st : List AV} {S : List Sh} {μ : Mem} {kc ks : Nat} {idx ci : Nat} (hΦ : St G Φ cc own nL fr lo mc ms) (hci : ci < 9) (hpl : (List.range (mN ci)).all (fun j => fplain (mty ci j)) = true) (f1 : Cond.classLink own idx (mC ci) ∈ wsT) (f2 : Cond.instantiable (mC ci) (mN ci) ∈ wsT) (f3 : Cond.initialized (mC ci) ∈ wsT) (hroom : kc + 1 ≤ mc ∧ ks + mN ci ≤ ms) (d : decode cc pc = .ok (.new idx, 3)) (k : Ex G Φ nL (pc + 3) L ((2, (S.length : Int)) :: st) (S ++ [.inl ci]) (mz μ S.length (mdf ci)) (kc + 1) (ks + mN ci)) : Ex G Φ nL pc L st S μ kc ks := by
  obtain ⟨p, e, R, s, m, args, below, meth, c, Q⟩ := Φ
  obtain ⟨hx, hb, hml, hown, hts, hK, hsz, hR⟩ := hΦ
  intro H locs ls hz hW hS hl
  refine va_new (D := G.2.1) (ci := ci) (c0 := c) (fs := (List.range (mN ci)).map fun j => mv G (mfk ci j, mdf ci j)) hx hb hts (mT_in hci) (mty ci) (mty_ok hci) hown (hts _ f1) (hts _ f2) (hts _ f3) hK.1 hW mw_D hS (fun q hq => Nat.le_trans hsz hq) (mC_in hci) (fun j hj => ?_) (by rw [hR]; exact hroom.1) (by rw [hR]; exact hroom.2) d (fun q H1 hP hD hS1 => ?_)
  · have h1 : fplain (mty ci j) = true := List.all_eq_true.mp hpl j (List.mem_range.mpr hj)
    rw [mdf_ok (G := G) h1, vp_V, List.getD_eq_getElem?_getD, List.getElem?_map, List.getElem?_range hj]
    rfl
  · intro T hT X
    have hq := new_at X hz (by rw [hT]; exact hP) hD
    subst hq
    have h2 := k H1 locs ls (by rw [List.length_append]; simp only [List.length_cons, List.length_nil]; omega) (wd_new hP (by rw [mz_at]; rfl) (fun j hj => mz_ne (by omega))) hS1 hl
    rw [List.map_cons, mv_ref (by omega), Int.toNat_natCast] at h2
    exact h2 T hT X
theorem ex_newa0 {G : Gm} {Φ : Fr} {cc : ByteArray} {own : String} {nL fr lo mc ms pc : Nat} {L : List (Option AV)} {st : List AV} {S : List Sh} {μ : Mem} {kc ks : Nat} {n : Nat} {x : Int} (hΦ : St G Φ cc own nL fr lo mc ms) (hn : x = n) (hle : n ≤ 100000) (f1 : Cond.arrayClass .int ∈ wsT) (hroom : kc + 1 ≤ mc ∧ ks + n ≤ ms) (d : decode cc pc = .ok (.newarray .int, 2)) (k : Ex G Φ nL (pc + 2) L ((2, (S.length : Int)) :: st) (S ++ [.inr (0, n)]) (mz μ S.length (fun _ => 0)) (kc + 1) (ks + n)) : Ex G Φ nL pc L ((0, x) :: st) S μ kc ks := by
  subst hn
  obtain ⟨p, e, R, s, m, args, below, meth, c, Q⟩ := Φ
  obtain ⟨hx, hb, hml, hown, hts, hK, hsz, hR⟩ := hΦ
  intro H locs ls hz hW hS hl
  have hr : R32 (n : Int) := ⟨by omega, by omega⟩
  refine va_newa (D := G.2.1) (atype := .int) (n := Int32.ofInt n) (a0 := (n, (.inl fun _ => 0))) hx hb (hts _ f1) rfl hK.1 hW mw_D hS (fun q hq => Nat.le_trans hsz hq) (fun cA => rfl) (fun q => absurd ((i32_lt hr R32_0).mp q) (by omega)) (by rw [i32_tn hr]; rfl) (by show n * 4 ≤ _; omega) (by rw [hR]; exact hroom.1) (by rw [hR]; exact hroom.2) d (fun q cA H1 hKn hP hD hS1 => ?_)
  have hcA : cA = G.2.2.1 0 := by
    have g1 := (hKn.2 6 (cA, .int) rfl).2
    have g2 := (hK.1.2 0 (G.2.2.1 0, .int) rfl).2
    exact Option.some.inj (g1.symm.trans g2)
  subst hcA
  intro T hT X
  have hq := new_at X hz (by rw [hT]; exact hP) hD
  subst hq
  have h2 := k H1 locs ls (by rw [List.length_append]; simp only [List.length_cons, List.length_nil]; omega) (wd_new hP (by rw [mz_at]; rfl) (fun j hj => mz_ne (by omega))) hS1 hl
  rw [List.map_cons, mv_ref (by omega), Int.toNat_natCast] at h2
  exact h2 T hT X
theorem ex_newa1 {G : Gm} {Φ : Fr} {cc : ByteArray} {own : String} {nL fr lo mc ms pc : Nat} {L : List (Option AV)} {st : List AV} {S : List Sh} {μ : Mem} {kc ks : Nat} {n : Nat} {x : Int} (hΦ : St G Φ cc own nL fr lo mc ms) (hn : x = n) (hle : n ≤ 100000) (f1 : Cond.arrayClass .long ∈ wsT) (hroom : kc + 1 ≤ mc ∧ ks + n ≤ ms) (d : decode cc pc = .ok (.newarray .long, 2)) (k : Ex G Φ nL (pc + 2) L ((2, (S.length : Int)) :: st) (S ++ [.inr (1, n)]) (mz μ S.length (fun _ => 0)) (kc + 1) (ks + n)) : Ex G Φ nL pc L ((0, x) :: st) S μ kc ks := by
  subst hn
  obtain ⟨p, e, R, s, m, args, below, meth, c, Q⟩ := Φ
  obtain ⟨hx, hb, hml, hown, hts, hK, hsz, hR⟩ := hΦ
  intro H locs ls hz hW hS hl
  have hr : R32 (n : Int) := ⟨by omega, by omega⟩
  refine va_newa (D := G.2.1) (atype := .long) (n := Int32.ofInt n) (a0 := (n, (.inr (.inl fun _ => 0)))) hx hb (hts _ f1) rfl hK.1 hW mw_D hS (fun q hq => Nat.le_trans hsz hq) (fun cA => rfl) (fun q => absurd ((i32_lt hr R32_0).mp q) (by omega)) (by rw [i32_tn hr]; rfl) (by show n * 8 ≤ _; omega) (by rw [hR]; exact hroom.1) (by rw [hR]; exact hroom.2) d (fun q cA H1 hKn hP hD hS1 => ?_)
  have hcA : cA = G.2.2.1 1 := by
    have g1 := (hKn.2 6 (cA, .long) rfl).2
    have g2 := (hK.1.2 1 (G.2.2.1 1, .long) rfl).2
    exact Option.some.inj (g1.symm.trans g2)
  subst hcA
  intro T hT X
  have hq := new_at X hz (by rw [hT]; exact hP) hD
  subst hq
  have h2 := k H1 locs ls (by rw [List.length_append]; simp only [List.length_cons, List.length_nil]; omega) (wd_new hP (by rw [mz_at]; rfl) (fun j hj => mz_ne (by omega))) hS1 hl
  rw [List.map_cons, mv_ref (by omega), Int.toNat_natCast] at h2
  exact h2 T hT X
theorem ex_newa2 {G : Gm} {Φ : Fr} {cc : ByteArray} {own : String} {nL fr lo mc ms pc : Nat} {L : List (Option AV)} {st : List AV} {S : List Sh} {μ : Mem} {kc ks : Nat} {n : Nat} {x : Int} (hΦ : St G Φ cc own nL fr lo mc ms) (hn : x = n) (hle : n ≤ 100000) (f1 : Cond.arrayClass .char ∈ wsT) (hroom : kc + 1 ≤ mc ∧ ks + n ≤ ms) (d : decode cc pc = .ok (.newarray .char, 2)) (k : Ex G Φ nL (pc + 2) L ((2, (S.length : Int)) :: st) (S ++ [.inr (2, n)]) (mz μ S.length (fun _ => 0)) (kc + 1) (ks + n)) : Ex G Φ nL pc L ((0, x) :: st) S μ kc ks := by
  subst hn
  obtain ⟨p, e, R, s, m, args, below, meth, c, Q⟩ := Φ
  obtain ⟨hx, hb, hml, hown, hts, hK, hsz, hR⟩ := hΦ
  intro H locs ls hz hW hS hl
  have hr : R32 (n : Int) := ⟨by omega, by omega⟩
  refine va_newa (D := G.2.1) (atype := .char) (n := Int32.ofInt n) (a0 := (n, (.inl fun _ => 0))) hx hb (hts _ f1) rfl hK.1 hW mw_D hS (fun q hq => Nat.le_trans hsz hq) (fun cA => rfl) (fun q => absurd ((i32_lt hr R32_0).mp q) (by omega)) (by rw [i32_tn hr]; rfl) (by show n * 2 ≤ _; omega) (by rw [hR]; exact hroom.1) (by rw [hR]; exact hroom.2) d (fun q cA H1 hKn hP hD hS1 => ?_)
  have hcA : cA = G.2.2.1 2 := by
    have g1 := (hKn.2 6 (cA, .char) rfl).2
    have g2 := (hK.1.2 2 (G.2.2.1 2, .char) rfl).2
    exact Option.some.inj (g1.symm.trans g2)
  subst hcA
  intro T hT X
  have hq := new_at X hz (by rw [hT]; exact hP) hD
  subst hq
  have h2 := k H1 locs ls (by rw [List.length_append]; simp only [List.length_cons, List.length_nil]; omega) (wd_new hP (by rw [mz_at]; rfl) (fun j hj => mz_ne (by omega))) hS1 hl
  rw [List.map_cons, mv_ref (by omega), Int.toNat_natCast] at h2
  exact h2 T hT X
theorem ex_newa3 {G : Gm} {Φ : Fr} {cc : ByteArray} {own : String} {nL fr lo mc ms pc : Nat} {L : List (Option AV)} {st : List AV} {S : List Sh} {μ : Mem} {kc ks : Nat} {n : Nat} {x : Int} (hΦ : St G Φ cc own nL fr lo mc ms) (hn : x = n) (hle : n ≤ 100000) (f1 : Cond.arrayClass .boolean ∈ wsT) (hroom : kc + 1 ≤ mc ∧ ks + n ≤ ms) (d : decode cc pc = .ok (.newarray .boolean, 2)) (k : Ex G Φ nL (pc + 2) L ((2, (S.length : Int)) :: st) (S ++ [.inr (3, n)]) (mz μ S.length (fun _ => 0)) (kc + 1) (ks + n)) : Ex G Φ nL pc L ((0, x) :: st) S μ kc ks := by
  subst hn
  obtain ⟨p, e, R, s, m, args, below, meth, c, Q⟩ := Φ
  obtain ⟨hx, hb, hml, hown, hts, hK, hsz, hR⟩ := hΦ
  intro H locs ls hz hW hS hl
  have hr : R32 (n : Int) := ⟨by omega, by omega⟩
  refine va_newa (D := G.2.1) (atype := .boolean) (n := Int32.ofInt n) (a0 := (n, (.inl fun _ => 0))) hx hb (hts _ f1) rfl hK.1 hW mw_D hS (fun q hq => Nat.le_trans hsz hq) (fun cA => rfl) (fun q => absurd ((i32_lt hr R32_0).mp q) (by omega)) (by rw [i32_tn hr]; rfl) (by show n * 1 ≤ _; omega) (by rw [hR]; exact hroom.1) (by rw [hR]; exact hroom.2) d (fun q cA H1 hKn hP hD hS1 => ?_)
  have hcA : cA = G.2.2.1 3 := by
    have g1 := (hKn.2 6 (cA, .boolean) rfl).2
    have g2 := (hK.1.2 3 (G.2.2.1 3, .boolean) rfl).2
    exact Option.some.inj (g1.symm.trans g2)
  subst hcA
  intro T hT X
  have hq := new_at X hz (by rw [hT]; exact hP) hD
  subst hq
  have h2 := k H1 locs ls (by rw [List.length_append]; simp only [List.length_cons, List.length_nil]; omega) (wd_new hP (by rw [mz_at]; rfl) (fun j hj => mz_ne (by omega))) hS1 hl
  rw [List.map_cons, mv_ref (by omega), Int.toNat_natCast] at h2
  exact h2 T hT X
theorem ex_newq4 {G : Gm} {Φ : Fr} {cc : ByteArray} {own : String} {nL fr lo mc ms pc : Nat} {L : List (Option AV)} {st : List AV} {S : List Sh} {μ : Mem} {kc ks : Nat} {n idx : Nat} {x : Int} (hΦ : St G Φ cc own nL fr lo mc ms) (hn : x = n) (hle : n ≤ 100000) (f1 : Cond.classLink own idx "CogFamily$Image" ∈ wsT) (hroom : kc + 1 ≤ mc ∧ ks + n ≤ ms) (d : decode cc pc = .ok (.anewarray idx, 3)) (k : Ex G Φ nL (pc + 3) L ((2, (S.length : Int)) :: st) (S ++ [.inr (4, n)]) (mz μ S.length (fun _ => -1)) (kc + 1) (ks + n)) : Ex G Φ nL pc L ((0, x) :: st) S μ kc ks := by
  subst hn
  obtain ⟨p, e, R, s, m, args, below, meth, c, Q⟩ := Φ
  obtain ⟨hx, hb, hml, hown, hts, hK, hsz, hR⟩ := hΦ
  intro H locs ls hz hW hS hl
  have hr : R32 (n : Int) := ⟨by omega, by omega⟩
  refine va_newq (D := G.2.1) (n := Int32.ofInt n) (N' := n) hx hb hown (hts _ f1) hK.2.2.1 hK.1 hW mw_D hS (fun q hq => Nat.le_trans hsz hq) (fun q => absurd ((i32_lt hr R32_0).mp q) (by omega)) (by rw [i32_tn hr]; rfl) (by omega) (by rw [hR]; exact hroom.1) (by rw [hR]; exact hroom.2) d (fun q cA H1 hKn hP hD hS1 => ?_)
  have hcA : cA = G.2.2.1 4 := by
    obtain ⟨-, _, _, -, -, -, g1⟩ := hKn.2 6 (cA, .object "CogFamily$Image") rfl
    obtain ⟨-, _, _, -, -, -, g2⟩ := hK.1.2 4 (G.2.2.1 4, .object "CogFamily$Image") rfl
    exact Option.some.inj (g1.symm.trans g2)
  subst hcA
  intro T hT X
  have hq := new_at X hz (by rw [hT]; exact hP) hD
  subst hq
  have h2 := k H1 locs ls (by rw [List.length_append]; simp only [List.length_cons, List.length_nil]; omega) (wd_new hP (by rw [mz_at]; rfl) (fun j hj => mz_ne (by omega))) hS1 hl
  rw [List.map_cons, mv_ref (by omega), Int.toNat_natCast] at h2
  exact h2 T hT X
theorem ex_newq5 {G : Gm} {Φ : Fr} {cc : ByteArray} {own : String} {nL fr lo mc ms pc : Nat} {L : List (Option AV)} {st : List AV} {S : List Sh} {μ : Mem} {kc ks : Nat} {n idx : Nat} {x : Int} (hΦ : St G Φ cc own nL fr lo mc ms) (hn : x = n) (hle : n ≤ 100000) (f1 : Cond.classLink own idx "CogFamily$Stand" ∈ wsT) (hroom : kc + 1 ≤ mc ∧ ks + n ≤ ms) (d : decode cc pc = .ok (.anewarray idx, 3)) (k : Ex G Φ nL (pc + 3) L ((2, (S.length : Int)) :: st) (S ++ [.inr (5, n)]) (mz μ S.length (fun _ => -1)) (kc + 1) (ks + n)) : Ex G Φ nL pc L ((0, x) :: st) S μ kc ks := by
  subst hn
  obtain ⟨p, e, R, s, m, args, below, meth, c, Q⟩ := Φ
  obtain ⟨hx, hb, hml, hown, hts, hK, hsz, hR⟩ := hΦ
  intro H locs ls hz hW hS hl
  have hr : R32 (n : Int) := ⟨by omega, by omega⟩
  refine va_newq (D := G.2.1) (n := Int32.ofInt n) (N' := n) hx hb hown (hts _ f1) hK.2.2.2 hK.1 hW mw_D hS (fun q hq => Nat.le_trans hsz hq) (fun q => absurd ((i32_lt hr R32_0).mp q) (by omega)) (by rw [i32_tn hr]; rfl) (by omega) (by rw [hR]; exact hroom.1) (by rw [hR]; exact hroom.2) d (fun q cA H1 hKn hP hD hS1 => ?_)
  have hcA : cA = G.2.2.1 5 := by
    obtain ⟨-, _, _, -, -, -, g1⟩ := hKn.2 6 (cA, .object "CogFamily$Stand") rfl
    obtain ⟨-, _, _, -, -, -, g2⟩ := hK.1.2 5 (G.2.2.1 5, .object "CogFamily$Stand") rfl
    exact Option.some.inj (g1.symm.trans g2)
  subst hcA
  intro T hT X
  have hq := new_at X hz (by rw [hT]; exact hP) hD
  subst hq
  have h2 := k H1 locs ls (by rw [List.length_append]; simp only [List.length_cons, List.length_nil]; omega) (wd_new hP (by rw [mz_at]; rfl) (fun j hj => mz_ne (by omega))) hS1 hl
  rw [List.map_cons, mv_ref (by omega), Int.toNat_natCast] at h2
  exact h2 T hT X
theorem ex_objinit {G : Gm} {Φ : Fr} {cc : ByteArray} {own : String} {nL fr lo mc ms pc : Nat} {L : List (Option AV)} {st : List AV} {S : List Sh} {μ : Mem} {kc ks : Nat} {idx : Nat} {z : Int} (hΦ : St G Φ cc own nL fr lo mc ms) (f1 : Cond.methodLink own idx Lib.objectInit ∈ wsT) (f2 : Cond.instanceMethod Lib.objectInit ∈ wsT) (f3 : Cond.code Lib.objectInit ⟨#[0xb1]⟩ 1 none ∈ wsT) (hrm : 1 ≤ fr ∧ 20 ≤ lo) (hsl : st.length ≤ 4) (h0 : 0 ≤ z) (d : decode cc pc = .ok (.invokespecial idx, 3)) (k : Ex G Φ nL (pc + 3) L (st) S μ kc ks) : Ex G Φ nL (pc) L ((2, z) :: st) S μ kc ks := by
  obtain ⟨p, e, R, s, m, args, below, meth, c, Q⟩ := Φ
  obtain ⟨hx, hb, hml, hown, hts, hK, hsz, hR⟩ := hΦ
  intro H locs ls hz hW hS hl
  rw [List.map_cons, mv_ref h0]
  refine W.objInit hx hb hown (hts _ f1) (hts _ f2) (hts _ f3) rfl (by rw [hml]; exact hl.1) rfl d (by rw [hR]; exact hrm.1) (by rw [hR]; show 2 * 0 + _ + 12 ≤ lo; have := st_cat (G := G) hsl; have := hrm.2; omega) (k H locs ls hz hW hS hl)
theorem ex_mmax {G : Gm} {Φ : Fr} {cc : ByteArray} {own : String} {nL fr lo mc ms pc : Nat} {L : List (Option AV)} {st : List AV} {S : List Sh} {μ : Mem} {kc ks : Nat} {idx : Nat} {x y : Int} (hΦ : St G Φ cc own nL fr lo mc ms) (f1 : Cond.methodLink own idx Lib.Math.max.name ∈ wsT) (f2 : Cond.static Lib.Math.max.name ∈ wsT) (f3 : Cond.initialized "java/lang/Math" ∈ wsT) (f4 : Cond.code Lib.Math.max.name Lib.Math.max.code 2 (some .int) ∈ wsT) (hrm : 1 ≤ fr ∧ 23 ≤ lo) (hkc : kc ≤ mc ∧ ks ≤ ms) (hsl : st.length ≤ 4) (hxr : R32 x) (hyr : R32 y) (d : decode cc pc = .ok (.invokestatic idx, 3)) (k : Ex G Φ nL (pc + 3) L ((0, if x < y then y else x) :: st) S μ kc ks) : Ex G Φ nL (pc) L ((0, y) :: (0, x) :: st) S μ kc ks := by
  obtain ⟨p, e, R, s, m, args, below, meth, c, Q⟩ := Φ
  obtain ⟨hx, hb, hml, hown, hts, hK, hsz, hR⟩ := hΦ
  intro H locs ls hz hW hS hl
  have hc := st_cat (G := G) hsl
  have h2 := k H locs ls hz hW hS hl
  refine va_mmax hx hb (by rw [hml]; exact hl.1.symm) hown (hts _ f1) (hts _ f2) (hts _ f3) (hts _ f4) (by rw [hR]; exact hrm.1) (by rw [hR]; show _ ≤ lo; have := hrm.2; omega) (by rw [hR]; exact hkc.1) (by rw [hR]; exact hkc.2) d ?_
  by_cases q : x < y
  · rw [if_pos ((i32_lt hxr hyr).mpr q)]; rw [if_pos q] at h2; exact h2
  · rw [if_neg (fun z => q ((i32_lt hxr hyr).mp z))]; rw [if_neg q] at h2; exact h2
theorem ex_mmin {G : Gm} {Φ : Fr} {cc : ByteArray} {own : String} {nL fr lo mc ms pc : Nat} {L : List (Option AV)} {st : List AV} {S : List Sh} {μ : Mem} {kc ks : Nat} {idx : Nat} {x y : Int} (hΦ : St G Φ cc own nL fr lo mc ms) (f1 : Cond.methodLink own idx Lib.Math.min.name ∈ wsT) (f2 : Cond.static Lib.Math.min.name ∈ wsT) (f3 : Cond.initialized "java/lang/Math" ∈ wsT) (f4 : Cond.code Lib.Math.min.name Lib.Math.min.code 2 (some .int) ∈ wsT) (hrm : 1 ≤ fr ∧ 23 ≤ lo) (hkc : kc ≤ mc ∧ ks ≤ ms) (hsl : st.length ≤ 4) (hxr : R32 x) (hyr : R32 y) (d : decode cc pc = .ok (.invokestatic idx, 3)) (k : Ex G Φ nL (pc + 3) L ((0, if y < x then y else x) :: st) S μ kc ks) : Ex G Φ nL (pc) L ((0, y) :: (0, x) :: st) S μ kc ks := by
  obtain ⟨p, e, R, s, m, args, below, meth, c, Q⟩ := Φ
  obtain ⟨hx, hb, hml, hown, hts, hK, hsz, hR⟩ := hΦ
  intro H locs ls hz hW hS hl
  have hc := st_cat (G := G) hsl
  have h2 := k H locs ls hz hW hS hl
  refine va_mmin hx hb (by rw [hml]; exact hl.1.symm) hown (hts _ f1) (hts _ f2) (hts _ f3) (hts _ f4) (by rw [hR]; exact hrm.1) (by rw [hR]; show _ ≤ lo; have := hrm.2; omega) (by rw [hR]; exact hkc.1) (by rw [hR]; exact hkc.2) d ?_
  by_cases q : y < x
  · rw [if_pos ((i32_lt hyr hxr).mpr q)]; rw [if_pos q] at h2; exact h2
  · rw [if_neg (fun z => q ((i32_lt hyr hxr).mp z))]; rw [if_neg q] at h2; exact h2
theorem ex_mmax_long {G : Gm} {Φ : Fr} {cc : ByteArray} {own : String} {nL fr lo mc ms pc : Nat} {L : List (Option AV)} {st : List AV} {S : List Sh} {μ : Mem} {kc ks : Nat} {idx : Nat} {x y : Int} (hΦ : St G Φ cc own nL fr lo mc ms) (f1 : Cond.methodLink own idx Lib.MathLoose.max_long.x ∈ wsT) (f2 : Cond.static Lib.MathLoose.max_long.x ∈ wsT) (f3 : Cond.initialized "java/lang/Math" ∈ wsT) (f4 : Cond.code Lib.MathLoose.max_long.x Lib.MathLoose.max_long.code 4 (some .long) ∈ wsT) (hrm : 1 ≤ fr ∧ 23 ≤ lo) (hkc : kc ≤ mc ∧ ks ≤ ms) (hsl : st.length ≤ 4) (hxr : R64 x) (hyr : R64 y) (d : decode cc pc = .ok (.invokestatic idx, 3)) (k : Ex G Φ nL (pc + 3) L ((1, if y < x then x else y) :: st) S μ kc ks) : Ex G Φ nL (pc) L ((1, y) :: (1, x) :: st) S μ kc ks := by
  obtain ⟨p, e, R, s, m, args, below, meth, c, Q⟩ := Φ
  obtain ⟨hx, hb, hml, hown, hts, hK, hsz, hR⟩ := hΦ
  intro H locs ls hz hW hS hl
  have hc := st_cat (G := G) hsl
  have h2 := k H locs ls hz hW hS hl
  refine va_mmax_long hx hb (by rw [hml]; exact hl.1.symm) hown (hts _ f1) (hts _ f2) (hts _ f3) (hts _ f4) (by rw [hR]; exact hrm.1) (by rw [hR]; show _ ≤ lo; have := hrm.2; omega) (by rw [hR]; exact hkc.1) (by rw [hR]; exact hkc.2) d ?_
  by_cases q : y < x
  · rw [if_pos ((i64_lt hyr hxr).mpr q)]; rw [if_pos q] at h2; exact h2
  · rw [if_neg (fun z => q ((i64_lt hyr hxr).mp z))]; rw [if_neg q] at h2; exact h2
theorem ex_mmin_long {G : Gm} {Φ : Fr} {cc : ByteArray} {own : String} {nL fr lo mc ms pc : Nat} {L : List (Option AV)} {st : List AV} {S : List Sh} {μ : Mem} {kc ks : Nat} {idx : Nat} {x y : Int} (hΦ : St G Φ cc own nL fr lo mc ms) (f1 : Cond.methodLink own idx Lib.MathLoose.min_long.x ∈ wsT) (f2 : Cond.static Lib.MathLoose.min_long.x ∈ wsT) (f3 : Cond.initialized "java/lang/Math" ∈ wsT) (f4 : Cond.code Lib.MathLoose.min_long.x Lib.MathLoose.min_long.code 4 (some .long) ∈ wsT) (hrm : 1 ≤ fr ∧ 23 ≤ lo) (hkc : kc ≤ mc ∧ ks ≤ ms) (hsl : st.length ≤ 4) (hxr : R64 x) (hyr : R64 y) (d : decode cc pc = .ok (.invokestatic idx, 3)) (k : Ex G Φ nL (pc + 3) L ((1, if y < x then y else x) :: st) S μ kc ks) : Ex G Φ nL (pc) L ((1, y) :: (1, x) :: st) S μ kc ks := by
  obtain ⟨p, e, R, s, m, args, below, meth, c, Q⟩ := Φ
  obtain ⟨hx, hb, hml, hown, hts, hK, hsz, hR⟩ := hΦ
  intro H locs ls hz hW hS hl
  have hc := st_cat (G := G) hsl
  have h2 := k H locs ls hz hW hS hl
  refine va_mmin_long hx hb (by rw [hml]; exact hl.1.symm) hown (hts _ f1) (hts _ f2) (hts _ f3) (hts _ f4) (by rw [hR]; exact hrm.1) (by rw [hR]; show _ ≤ lo; have := hrm.2; omega) (by rw [hR]; exact hkc.1) (by rw [hR]; exact hkc.2) d ?_
  by_cases q : y < x
  · rw [if_pos ((i64_lt hyr hxr).mpr q)]; rw [if_pos q] at h2; exact h2
  · rw [if_neg (fun z => q ((i64_lt hyr hxr).mp z))]; rw [if_neg q] at h2; exact h2
theorem ex_mabs_long {G : Gm} {Φ : Fr} {cc : ByteArray} {own : String} {nL fr lo mc ms pc : Nat} {L : List (Option AV)} {st : List AV} {S : List Sh} {μ : Mem} {kc ks : Nat} {idx : Nat} {x : Int} (hΦ : St G Φ cc own nL fr lo mc ms) (f1 : Cond.methodLink own idx Lib.MathLoose.abs_long.x ∈ wsT) (f2 : Cond.static Lib.MathLoose.abs_long.x ∈ wsT) (f3 : Cond.initialized "java/lang/Math" ∈ wsT) (f4 : Cond.code Lib.MathLoose.abs_long.x Lib.MathLoose.abs_long.code 2 (some .long) ∈ wsT) (hrm : 1 ≤ fr ∧ 23 ≤ lo) (hkc : kc ≤ mc ∧ ks ≤ ms) (hsl : st.length ≤ 4) (hxr : R64 x) (d : decode cc pc = .ok (.invokestatic idx, 3)) (k : Ex G Φ nL (pc + 3) L ((1, if 0 < x then x else -x) :: st) S μ kc ks) : Ex G Φ nL (pc) L ((1, x) :: st) S μ kc ks := by
  obtain ⟨p, e, R, s, m, args, below, meth, c, Q⟩ := Φ
  obtain ⟨hx, hb, hml, hown, hts, hK, hsz, hR⟩ := hΦ
  intro H locs ls hz hW hS hl
  have hc := st_cat (G := G) hsl
  have h2 := k H locs ls hz hW hS hl
  refine va_mabs_long hx hb (by rw [hml]; exact hl.1.symm) hown (hts _ f1) (hts _ f2) (hts _ f3) (hts _ f4) (by rw [hR]; exact hrm.1) (by rw [hR]; show _ ≤ lo; have := hrm.2; omega) (by rw [hR]; exact hkc.1) (by rw [hR]; exact hkc.2) d ?_
  by_cases q : 0 < x
  · rw [if_pos (show (0 : Int64) < Int64.ofInt x from (i64_lt ⟨by decide, by decide⟩ hxr).mpr q)]; rw [if_pos q] at h2; exact h2
  · rw [if_neg (show ¬ (0 : Int64) < Int64.ofInt x from fun z => q ((i64_lt (x := 0) ⟨by decide, by decide⟩ hxr).mp z)), ← Int64.ofInt_neg]; rw [if_neg q] at h2; exact h2
def mcpy (μ : Mem) (z1 sp z2 dp n : Int) : Mem := fun k i => if k = z2 ∧ dp ≤ i ∧ i < dp + n then μ z1 (sp + (i - dp)) else μ k i
theorem cpy_i {μ : Mem} {z1 sp z2 dp n : Int} (h1 : 0 ≤ sp) (h2 : 0 ≤ dp) (h3 : 0 ≤ n) : va_cpy (fun j : Nat => Int32.ofInt (μ z1 j)) (fun j : Nat => Int32.ofInt (μ z2 j)) sp.toNat dp.toNat n.toNat = fun j : Nat => Int32.ofInt (mcpy μ z1 sp z2 dp n z2 j) := by
  funext j
  unfold va_cpy mcpy
  by_cases h : dp.toNat ≤ j ∧ j < dp.toNat + n.toNat
  · have e : ((sp.toNat + (j - dp.toNat) : Nat) : Int) = sp + ((j : Int) - dp) := by omega
    rw [if_pos h, if_pos ⟨rfl, by omega, by omega⟩, ← e]
  · rw [if_neg h, if_neg (fun q => h ⟨by omega, by omega⟩)]
theorem ex_acopy {G : Gm} {Φ : Fr} {cc : ByteArray} {own : String} {nL fr lo mc ms pc : Nat} {L : List (Option AV)} {st : List AV} {S : List Sh} {μ : Mem} {kc ks : Nat} {idx n1 n2 : Nat} {z1 sp z2 dp n : Int} (hΦ : St G Φ cc own nL fr lo mc ms) (f1 : Cond.methodLink own idx arraycopyName ∈ wsT) (f2 : Cond.native arraycopyName ∈ wsT) (f3 : Cond.static arraycopyName ∈ wsT) (f4 : Cond.initialized "java/lang/System" ∈ wsT) (hrm : 1 ≤ fr ∧ 8 + (nativeFrameWords "java/lang/System" "arraycopy" 5 + 11) ≤ lo) (hsl : st.length ≤ 4) (hz1 : So S z1 (.inr (0, n1))) (hz2 : So S z2 (.inr (0, n2))) (g1 : 0 ≤ sp) (g2 : 0 ≤ dp) (g3 : 0 ≤ n) (g4 : sp + n ≤ n1) (g5 : dp + n ≤ n2) (g6 : n1 ≤ 100000) (g7 : n2 ≤ 100000) (d : decode cc pc = .ok (.invokestatic idx, 3)) (k : Ex G Φ nL (pc + 3) L (st) S (mcpy μ z1 sp z2 dp n) kc ks) : Ex G Φ nL (pc) L ((0, n) :: (0, dp) :: (2, z2) :: (0, sp) :: (2, z1) :: st) S μ kc ks := by
  obtain ⟨p, e, R, s, m, args, below, meth, c, Q⟩ := Φ
  obtain ⟨hx, hb, hml, hown, hts, hK, hsz, hR⟩ := hΦ
  intro H locs ls hz hW hS hl
  have hc := st_cat (G := G) hsl
  rw [List.map_cons, List.map_cons, List.map_cons, List.map_cons, List.map_cons, mv_ref hz1.1, mv_ref hz2.1]
  have e1 := mw_get (G := G) (μ := μ) hz1.2
  have e2 := mw_get (G := G) (μ := μ) hz2.2
  rw [So_nat hz1] at e1
  rw [So_nat hz2] at e2
  have r1 : R32 sp := ⟨by omega, by omega⟩
  have r2 : R32 dp := ⟨by omega, by omega⟩
  have r3 : R32 n := ⟨by omega, by omega⟩
  refine va_copyi (D := G.2.1) (sp := Int32.ofInt sp) (dp := Int32.ofInt dp) (n := Int32.ofInt n) hx hb (by rw [hml]; exact hl.1.symm) hown (hts _ f1) (hts _ f2) (hts _ f3) (hts _ f4) hK.1 hW mw_D hS z1.toNat z2.toNat 0 0 e1 e2 (rfl : (mtys G)[0]? = some (_, .int)) (rfl : (mtys G)[0]? = some (_, .int)) rfl (fun q => absurd ((i32_lt r1 R32_0).mp q) (by omega)) (fun q => absurd ((i32_lt r2 R32_0).mp q) (by omega)) (fun q => absurd ((i32_lt r3 R32_0).mp q) (by omega)) (by rw [i32_tn r1, i32_tn r3]; omega) (by rw [i32_tn r2, i32_tn r3]; omega) (fun _ _ => rfl) (by rw [hR]; exact hrm.1) (by rw [hR]; show _ ≤ lo; have := hrm.2; omega) d (fun H1 locs1 hP _ hS1 => ?_)
  rw [i32_tn r1, i32_tn r2, i32_tn r3, cpy_i g1 g2 g3] at hP
  rw [mw_set (μ' := mcpy μ z1 sp z2 dp n) hz2.2 (by rw [So_nat hz2]; rfl) (fun j hj => by funext i; have : ¬ ((j : Int) = z2) := by have := So_nat hz2; omega
                                                                                          simp [mcpy, this])] at hP
  exact k H1 locs1 ls hz hP hS1 hl
def Sx (G : Gm) (Φ : Fr) (n : Nat) (xs : Nat → Int32) : Prop := match Φ with
  | (_, _, _, s, _, _, _, _, _, _) => va_X G.2.2.2.2 n xs s s.heap ∧ G.2.2.2.2 < G.2.2.2.1
theorem ex_aload_s {G : Gm} {Φ : Fr} {cc : ByteArray} {own : String} {nL fr lo mc ms pc : Nat} {L : List (Option AV)} {st : List AV} {S : List Sh} {μ : Mem} {kc ks : Nat} {n : Fin 4} {x : Int} (hΦ : St G Φ cc own nL fr lo mc ms) (d : decode cc pc = .ok (.aload_n n, 1)) (hi : L[n.val]? = some (some (3, x))) (k : Ex G Φ nL (pc + 1) L ((3, x) :: st) S μ kc ks) : Ex G Φ nL (pc) L (st) S μ kc ks := by
  obtain ⟨p, e, R, s, m, args, below, meth, c, Q⟩ := Φ
  obtain ⟨hx, hb, hml, hown, hts, hK, hsz, hR⟩ := hΦ
  intro H locs ls hz hW hS hl
  have h1 := lhas_at (v := (3, x)) hl hi
  exact lv_aload_n hx hb d rfl h1 (k H locs ls hz hW hS hl)
theorem ex_sald {G : Gm} {Φ : Fr} {cc : ByteArray} {own : String} {nL fr lo mc ms pc : Nat} {L : List (Option AV)} {st : List AV} {S : List Sh} {μ : Mem} {kc ks : Nat} {n : Nat} {xs : Nat → Int32} {x i : Int} (hΦ : St G Φ cc own nL fr lo mc ms) (hs : Sx G Φ n xs) (h0 : 0 ≤ i) (h1 : i < n) (hn : n ≤ 2147483647) (d : decode cc pc = .ok (.iaload, 1)) (k : Ex G Φ nL (pc + 1) L ((0, (xs i.toNat).toInt) :: st) S μ kc ks) : Ex G Φ nL (pc) L ((0, i) :: (3, x) :: st) S μ kc ks := by
  obtain ⟨p, e, R, s, m, args, below, meth, c, Q⟩ := Φ
  obtain ⟨hx, hb, hml, hown, hts, hK, hsz, hR⟩ := hΦ
  intro H locs ls hz hW hS hl
  have hi : R32 i := ⟨by omega, by omega⟩
  have h2 := k H locs ls hz hW hS hl
  rw [List.map_cons, show mv G (0, (xs i.toNat).toInt) = .int (xs (Int32.ofInt i).toNatClampNeg) by rw [i32_tn hi]; show Value.int (Int32.ofInt _) = _; rw [Int32.ofInt_toInt]] at h2
  exact va_sld hx hb hs.1 (Nat.lt_of_lt_of_le hs.2 hsz) (Nat.not_le.mpr hs.2) hS (i32_vin h0 h1 hn) d h2
theorem ex_slen {G : Gm} {Φ : Fr} {cc : ByteArray} {own : String} {nL fr lo mc ms pc : Nat} {L : List (Option AV)} {st : List AV} {S : List Sh} {μ : Mem} {kc ks : Nat} {n : Nat} {xs : Nat → Int32} {x : Int} (hΦ : St G Φ cc own nL fr lo mc ms) (hs : Sx G Φ n xs) (d : decode cc pc = .ok (.arraylength, 1)) (k : Ex G Φ nL (pc + 1) L ((0, (n : Int)) :: st) S μ kc ks) : Ex G Φ nL (pc) L ((3, x) :: st) S μ kc ks := by
  obtain ⟨p, e, R, s, m, args, below, meth, c, Q⟩ := Φ
  obtain ⟨hx, hb, hml, hown, hts, hK, hsz, hR⟩ := hΦ
  intro H locs ls hz hW hS hl
  have h2 := k H locs ls hz hW hS hl
  rw [List.map_cons, show mv G (0, (n : Int)) = .int (Int32.ofNat n) from congrArg Value.int Int32.ofInt_eq_ofNat] at h2
  exact va_slen hx hb hs.1 (Nat.lt_of_lt_of_le hs.2 hsz) (Nat.not_le.mpr hs.2) hS d h2
/-- the law's end -/
def RtL (G : Gm) (Φ : Fr) : Prop := match Φ with
  | (_, _, _, s, _, args, below, meth, _, Q) => meth.sig.returnType = ret ∧ meth.locks = false ∧ args = #[Value.ref G.2.2.2.2] ∧ Q = lw_Z below #[Value.ref G.2.2.2.2] s ∧ G.2.2.2.1 = s.heap.size
theorem ex_lawret {G : Gm} {Φ : Fr} {own : String} {nL fr lo mc ms pc kc ks : Nat} {L : List (Option AV)} {S : List Sh} {μ : Mem} {x : Int} (hΦ : St G Φ code own nL fr lo mc ms) (hR : RtL G Φ) (hx1 : x = 1) (hkc : kc ≤ 600000) (hks : ks ≤ 7302250) (hroom : fr = 11 ∧ lo = 424 ∧ mc = 600000 ∧ ms = 7302250) (d : decode code pc = .ok (.ireturn, 1)) : Ex G Φ nL pc L [(0, x)] S μ kc ks := by
  subst hx1
  obtain ⟨p, e, R, s, m, args, below, meth, c, Q⟩ := Φ
  obtain ⟨hx, hb, hml, hown, hts, hK, hsz, hR'⟩ := hΦ
  obtain ⟨hr, hlk, rfl, rfl, hb0⟩ := hR
  obtain ⟨rfl, rfl, rfl, rfl⟩ := hroom
  intro H locs ls hz hW hS hl
  refine va_forget (fun q hq => ?_) ?_
  · have h1 : G.2.2.2.1 ≤ q.base := hS.2.2 q hq
    omega
  · refine W.widen hkc hks ?_
    have hR2 : R = room_1 := hR'
    subst hR2
    exact lw_ret hx hb hr hlk d
/-- the locals at a method's entry -/
def lent : List AV → List (Option AV)
  | [] => []
  | (1, x) :: t => some (1, x) :: none :: lent t
  | v :: t => some v :: lent t
theorem lent_args {G : Gm} : ∀ (as : List AV) (i0 : Nat) (i : Nat) (v : AV), (lent as)[i]? = some (some v) → (i0 + i, mv G v) ∈ lv_args i0 (as.map (mv G))
  | [], i0, i, v, h => by simp [lent] at h
  | (1, x) :: t, i0, i, v, h => by
    match i, h with
    | 0, h => simp only [lent, List.getElem?_cons_zero, Option.some.injEq] at h; subst h; exact List.mem_cons_self
    | 1, h => simp [lent] at h
    | i + 2, h =>
      simp only [lent, List.getElem?_cons_succ] at h
      have := lent_args (G := G) t (i0 + 2) i v h
      rw [show i0 + (i + 2) = i0 + 2 + i by omega]
      exact List.mem_cons_of_mem _ this
  | (0, x) :: t, i0, i, v, h => by
    match i, h with
    | 0, h => simp only [lent, List.getElem?_cons_zero, Option.some.injEq] at h; subst h; exact List.mem_cons_self
    | i + 1, h =>
      simp only [lent, List.getElem?_cons_succ] at h
      have := lent_args (G := G) t (i0 + 1) i v h
      rw [show i0 + (i + 1) = i0 + 1 + i by omega]
      exact List.mem_cons_of_mem _ this
  | (k + 2, x) :: t, i0, i, v, h => by
    have hc : (mv G (k + 2, x)).category = 1 := mv_cat1 (by simp)
    match i, h with
    | 0, h => simp only [lent, List.getElem?_cons_zero, Option.some.injEq] at h; subst h; exact List.mem_cons_self
    | i + 1, h =>
      simp only [lent, List.getElem?_cons_succ] at h
      have := lent_args (G := G) t (i0 + 1) i v h
      rw [show i0 + (i + 1) = i0 + 1 + i by omega]
      show (i0 + 1 + i, mv G v) ∈ (i0, mv G (k + 2, x)) :: lv_args (if (mv G (k + 2, x)).category = 2 then i0 + 2 else i0 + 1) (t.map (mv G))
      rw [if_neg (by omega)]
      exact List.mem_cons_of_mem _ this
theorem met_ofF {l : Launch} {y : MethodName} {ws ws' : List Cond} {rm : Room} {Pc : Array Value → State → Prop} {Qc : Array Value → State → Outcome → State → Prop} {mc ms : Nat} {free : Addr → Prop} {cc : ByteArray} {maxL : Nat} {ret : Option FieldType}
    (hy : plainFor y = true) (hw : ws = Cond.code y cc maxL ret :: ws')
    (body : ∀ p e s m args below meth c s₁, BodyLoose p l y (headSpec ws rm) cc maxL ret e s m args below meth c s₁ → c.maxLocals = maxL → Pc args s →
      W p l e (headSpec ws rm).room s m args below meth c s.heap [] 0 0 (MQ below Qc args s mc ms free) (entryFrame m args maxL)) : Met l y ws rm Pc Qc mc ms free := by
  refine MetFree.of_bodySF (code := cc) (maxLocals := maxL) (ret := ret) hy ?_ ?_
  · intro args s m h hn
    obtain ⟨meth, c, h1, h2, h3, h4, h5, h6, -, -⟩ := Cond.code_spec hn (atoms_spec (ws := ws) h _ (by rw [hw]; exact List.mem_cons_self))
    exact ⟨meth, c, h1, h2, h3, h4, h5, h6⟩
  · intro p e s m args below meth c s₁ B hml hP _
    have hh0 : s₁.heap = s.heap := by rw [B.state]; rfl
    obtain ⟨t, a1, o, b1, b2, b3⟩ := body p e s m args below meth c s₁ B hml hP s₁ hh0 (Stand.of_body B)
    exact ⟨t, o, a1, b1, b2, ⟨b3.1, b3.2⟩⟩
theorem call_of {G : Gm} {M : Md} {mc ms : Nat} {as : List AV} {S : List Sh} {μ : Mem} {P : Option AV → List Sh → Mem → Prop} (hy : plainFor M.1 = true) (hL : (lent as).length ≤ M.2.2.1) (hla : (lg_sl (as.map (mv G))).length ≤ M.2.2.1)
    (h : ∀ Φ : Fr, St G Φ M.2.1 M.1.cls M.2.2.1 M.2.2.2.2.1 M.2.2.2.2.2 mc ms → Rt G Φ P mc ms M.2.2.2.1 → (M.1.name = "<init>" → Ini Φ) → Ex G Φ M.2.2.1 0 (lent as ++ List.replicate (M.2.2.1 - (lent as).length) none) [] S μ 0 0) (hbS : True) : Call G M mc ms as S μ P := by
  refine met_ofF (cc := M.2.1) (maxL := M.2.2.1) (ret := M.2.2.2.1) hy rfl ?_
  intro p e s m args below meth c s₁ B hml hv
  obtain ⟨rfl, hsz, hW, hK⟩ := hv
  have hts := atoms_spec (ws := wsM M) B.pre
  have hown : s.vm.findClass M.1.cls = some m.cls := findClass_of_methodNamed B.named
  have hin : M.1.name = "<init>" → meth.name = "<init>" := fun q => (name_of_methodNamed B.named B.method).1.trans q
  have hl := lv_entry (as.map (mv G)) (n := M.2.2.1) hla
  have k := h (p, e, (headSpec (wsM M) (rmM M mc ms)).room, s, m, (as.map (mv G)).toArray, below, meth, c, _) ⟨B.exec, B.bytes, hml, hown, fun w hw => hts w (List.mem_cons_of_mem _ hw), hK, by omega, rfl⟩ ⟨B.returns, B.notSynchronized, rfl⟩ hin
  rw [lg_entry_eq]
  refine k s.heap [] _ (by omega) hW va_S.rf ⟨hl.1, hl.2.1, fun i v hi => ?_⟩
  have hi2 : (lent as)[i]? = some (some v) := by
    by_cases hlt : i < (lent as).length
    · rw [List.getElem?_append_left hlt] at hi; exact hi
    · rw [List.getElem?_append_right (by omega)] at hi
      have := List.mem_of_getElem? hi
      have := List.eq_of_mem_replicate this
      cases this
  have := hl.2.2 (0 + i, mv G v) (lent_args as 0 i v hi2)
  simpa using this
