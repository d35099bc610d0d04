/-! PATHS of links that are on -/
def adj (μ : Mem) (l x y : Int) : Prop := (0 ≤ l ∧ l < nL μ ∧ bt_ (μ 29 2) l = 0) ∧ ((μ (wW μ + 5) l = x ∧ μ (wW μ + 6) l = y) ∨ (μ (wW μ + 6) l = x ∧ μ (wW μ + 5) l = y))
theorem adj_sym {μ : Mem} {l x y : Int} (h : adj μ l x y) : adj μ l y x := ⟨h.1, h.2.elim (fun q => Or.inr ⟨q.2, q.1⟩) (fun q => Or.inl ⟨q.2, q.1⟩)⟩
theorem adj_rg {μ : Mem} (h : Inv μ) {l x y : Int} (a : adj μ l x y) : (0 ≤ x ∧ x < nW μ) ∧ (0 ≤ y ∧ y < nW μ) ∧ x ≠ y := by
  obtain ⟨⟨l0, l1, l2⟩, c⟩ := a
  obtain ⟨-, ⟨-, p0, p1⟩, ⟨-, q0, q1⟩, ne, -⟩ := h.L l0 l1
  rcases c with ⟨rfl, rfl⟩ | ⟨rfl, rfl⟩
  · exact ⟨⟨p0, p1⟩, ⟨q0, q1⟩, ne⟩
  · exact ⟨⟨q0, q1⟩, ⟨p0, p1⟩, ne.symm⟩
theorem adj_fun {μ : Mem} (h : Inv μ) {l x y y' : Int} (a : adj μ l x y) (b : adj μ l x y') : y = y' := by
  have r := adj_rg h a
  obtain ⟨-, c⟩ := a
  obtain ⟨-, d⟩ := b
  rcases c with ⟨c1, c2⟩ | ⟨c1, c2⟩ <;> rcases d with ⟨d1, d2⟩ | ⟨d1, d2⟩
  · omega
  · omega
  · omega
  · omega
theorem adj_l {μ : Mem} (h : Inv μ) {l x y : Int} (a : adj μ l x y) : 0 ≤ l ∧ l < 10 := by
  have := h.nl
  have := a.1
  omega
def Wl (μ : Mem) (t : Int) : List Int → Int → Prop
  | [], x => x = t
  | l :: p, x => ∃ y, adj μ l x y ∧ Wl μ t p y
def Dt (μ : Mem) (t : Int) (n : Nat) (x : Int) : Prop := (∃ p, p.length = n ∧ Wl μ t p x) ∧ ∀ p, Wl μ t p x → n ≤ p.length
theorem dt_ex {μ : Mem} {t : Int} : ∀ (N : Nat) (p : List Int) (x : Int), p.length ≤ N → Wl μ t p x → ∃ n, n ≤ p.length ∧ Dt μ t n x
  | 0, p, x, h, hw => ⟨0, Nat.zero_le _, ⟨p, by omega, hw⟩, fun q _ => Nat.zero_le _⟩
  | N + 1, p, x, h, hw => by
    by_cases c : ∃ q, Wl μ t q x ∧ q.length < p.length
    · obtain ⟨q, q1, q2⟩ := c
      obtain ⟨n, n1, n2⟩ := dt_ex N q x (by omega) q1
      exact ⟨n, by omega, n2⟩
    · exact ⟨p.length, Nat.le_refl _, ⟨p, rfl, hw⟩, fun q hq => Nat.le_of_not_lt (fun z => c ⟨q, hq, z⟩)⟩
theorem dt_un {μ : Mem} {t x : Int} {n m : Nat} (h : Dt μ t n x) (h' : Dt μ t m x) : n = m := by
  obtain ⟨⟨p, p1, p2⟩, p3⟩ := h
  obtain ⟨⟨q, q1, q2⟩, q3⟩ := h'
  have := p3 q q2
  have := q3 p p2
  omega
theorem dt_0 {μ : Mem} {t x : Int} (h : Dt μ t 0 x) : x = t := by
  obtain ⟨⟨p, p1, p2⟩, p3⟩ := h
  cases p with
  | nil => exact p2
  | cons a b => simp at p1
theorem dt_t {μ : Mem} {t : Int} : Dt μ t 0 t := ⟨⟨[], rfl, rfl⟩, fun _ _ => Nat.zero_le _⟩
theorem dt_next {μ : Mem} {t x : Int} {n : Nat} (h : Dt μ t (n + 1) x) : ∃ l y, adj μ l x y ∧ Dt μ t n y := by
  obtain ⟨⟨p, p1, p2⟩, p3⟩ := h
  cases p with
  | nil => simp at p1
  | cons l q =>
    obtain ⟨y, a, w⟩ := p2
    refine ⟨l, y, a, ⟨q, by simpa using p1, w⟩, fun r hr => ?_⟩
    have := p3 (l :: r) ⟨y, a, hr⟩
    simp at this; omega
theorem dt_step {μ : Mem} {t l x y : Int} {n : Nat} (a : adj μ l x y) (h : Dt μ t n y) (no : ∀ m, m ≤ n → ¬ Dt μ t m x) : Dt μ t (n + 1) x := by
  obtain ⟨⟨p, p1, p2⟩, p3⟩ := h
  refine ⟨⟨l :: p, by simp [p1], ⟨y, a, p2⟩⟩, fun q hq => ?_⟩
  obtain ⟨m, m1, m2⟩ := dt_ex q.length q x (Nat.le_refl _) hq
  have := Nat.lt_of_not_le (fun z => no m z m2)
  omega
theorem dt_nb {μ : Mem} {t l x y : Int} {n : Nat} {p : List Int} (h : Dt μ t (n + 1) x) (a : adj μ l x y) (hw : Wl μ t p y) (hp : p.length = n) : Dt μ t n y := by
  refine ⟨⟨p, hp, hw⟩, fun q hq => ?_⟩
  have := h.2 (l :: q) ⟨y, a, hq⟩
  simp at this; omega
theorem dt_list {μ : Mem} (h : Inv μ) {t : Int} : ∀ (n : Nat) (x : Int), Dt μ t n x → 0 ≤ x → x < nW μ → ∃ L : List Int, L.length = n + 1 ∧ L.Nodup ∧ ∀ y ∈ L, (0 ≤ y ∧ y < nW μ) ∧ ∃ m, m ≤ n ∧ Dt μ t m y
  | 0, x, hx, x0, x1 => ⟨[x], rfl, by simp, fun y hy => by rw [List.mem_singleton.mp hy]; exact ⟨⟨x0, x1⟩, 0, Nat.le_refl _, hx⟩⟩
  | n + 1, x, hx, x0, x1 => by
    obtain ⟨l, y, a, hy⟩ := dt_next hx
    have r := adj_rg h a
    obtain ⟨L, l1, l2, l3⟩ := dt_list h n y hy r.2.1.1 r.2.1.2
    refine ⟨x :: L, by simp [l1], ?_, fun z hz => ?_⟩
    · refine List.nodup_cons.mpr ⟨fun hm => ?_, l2⟩
      obtain ⟨-, m, m1, m2⟩ := l3 x hm
      have := dt_un m2 hx
      omega
    · rcases List.mem_cons.mp hz with e | e
      · rw [e]; exact ⟨⟨x0, x1⟩, n + 1, Nat.le_refl _, hx⟩
      · obtain ⟨q, m, m1, m2⟩ := l3 z e
        exact ⟨q, m, by omega, m2⟩
theorem dt_7 {μ : Mem} (h : Inv μ) {t x : Int} {n : Nat} (hx : Dt μ t n x) (x0 : 0 ≤ x) (x1 : x < nW μ) : n ≤ 7 := by
  obtain ⟨L, l1, l2, l3⟩ := dt_list h n x hx x0 x1
  have := h.nw
  have := nodup_len 8 L l2 (fun y hy => by have := (l3 y hy).1; omega)
  omega
/-- the way back -/
theorem wl_rev {μ : Mem} {t s : Int} : ∀ (g q : List Int) (x : Int), Wl μ t g x → Wl μ s q x → Wl μ s (g.reverse ++ q) t
  | [], q, x, hg, hq => by
    have : x = t := hg
    rw [← this]; exact hq
  | l :: g, q, x, hg, hq => by
    obtain ⟨y, a, hw⟩ := hg
    have := wl_rev g (l :: q) y hw ⟨x, adj_sym a, hq⟩
    rw [List.reverse_cons, List.append_assoc]
    exact this
theorem wl_back {μ : Mem} {t x : Int} {g : List Int} (h : Wl μ t g x) : Wl μ x g.reverse t := by
  have := wl_rev (s := x) g [] x h rfl
  rwa [List.append_nil] at this
theorem dt_back {μ : Mem} {t x : Int} {n : Nat} (h : Dt μ t n x) : Dt μ x n t := by
  obtain ⟨⟨p, p1, p2⟩, p3⟩ := h
  refine ⟨⟨p.reverse, by simp [p1], wl_back p2⟩, fun q hq => ?_⟩
  have := p3 q.reverse (wl_back hq)
  simpa using this
/-- a wheel that turns is reached from the driven one -/
theorem rch_wl {μ : Mem} {d : Int} : ∀ (n : Nat) (w : Int), Rch (Enow μ) d n w → ∃ p, Wl μ d p w
  | 0, w, h => ⟨[], h⟩
  | n + 1, w, h => by
    rcases h with h | ⟨k, x, e, h⟩
    · exact rch_wl n w h
    · obtain ⟨p, hp⟩ := rch_wl n x h
      rcases e with ⟨l, l0, l1, l2, -, e1, e2⟩ | ⟨l, l0, l1, l2, -, e1, e2⟩
      · exact ⟨l :: p, x, ⟨⟨l0, l1, l2⟩, Or.inr ⟨e2.symm, e1.symm⟩⟩, hp⟩
      · exact ⟨l :: p, x, ⟨⟨l0, l1, l2⟩, Or.inl ⟨e1.symm, e2.symm⟩⟩, hp⟩
theorem turn_dt {μ : Mem} (h : Inv μ) {w : Int} (w0 : 0 ≤ w) (w1 : w < nW μ) (hw : μ 22 w ≠ 0) : ∃ n, n ≤ 7 ∧ Dt μ (μ (wW μ) 3) n w := by
  rcases h.2.2.2.2.2.2.2.1 with ⟨-, -, r, -⟩ | ⟨-, -, -, z⟩
  · obtain ⟨n, hn⟩ := r w w0 w1 hw
    obtain ⟨p, hp⟩ := rch_wl n w hn
    obtain ⟨m, -, hm⟩ := dt_ex p.length p w (Nat.le_refl _) hp
    exact ⟨m, dt_7 h hm w0 w1, hm⟩
  · exact absurd (congrArg Prod.fst (z w w0 w1)) hw
/-- the least of some links -/
theorem lst_ {P : Int → Prop} (hp : ∀ l, P l → 0 ≤ l) : ∀ (N : Nat) (l : Int), l < N → P l → ∃ l, P l ∧ ∀ j, j < l → ¬ P j
  | 0, l, h, hl => by have := hp l hl; omega
  | N + 1, l, h, hl => by
    by_cases c : ∃ j, j < l ∧ P j
    · obtain ⟨j, j1, j2⟩ := c
      exact lst_ hp N j (by omega) j2
    · exact ⟨l, hl, fun j hj q => c ⟨j, hj, q⟩⟩
/-- always the least link to a wheel that is nearer -/
def Gr (μ : Mem) (t : Int) : List Int → Int → Prop
  | [], x => x = t
  | l :: g, x => ∃ y, adj μ l x y ∧ Dt μ t g.length y ∧ (∀ j z, j < l → adj μ j x z → ¬ Dt μ t g.length z) ∧ Gr μ t g y
theorem gr_ex {μ : Mem} (h : Inv μ) {t : Int} : ∀ (n : Nat) (x : Int), Dt μ t n x → ∃ g, g.length = n ∧ Gr μ t g x
  | 0, x, hx => ⟨[], rfl, dt_0 hx⟩
  | n + 1, x, hx => by
    obtain ⟨l, y, a, hy⟩ := dt_next hx
    have al := adj_l h a
    obtain ⟨l', ⟨y', a', hy'⟩, mn⟩ := lst_ (P := fun l => ∃ y, adj μ l x y ∧ Dt μ t n y) (fun l ⟨y, q, _⟩ => (adj_l h q).1) 10 l (by omega) ⟨y, a, hy⟩
    obtain ⟨g, g1, g2⟩ := gr_ex h n y' hy'
    refine ⟨l' :: g, by simp [g1], y', a', by rw [g1]; exact hy', fun j z hj aj hz => mn j hj ⟨z, aj, by rw [g1] at hz; exact hz⟩, g2⟩
theorem gr_wl {μ : Mem} {t : Int} : ∀ (g : List Int) (x : Int), Gr μ t g x → Wl μ t g x
  | [], _, h => h
  | _ :: g, _, ⟨y, a, _, _, q⟩ => ⟨y, a, gr_wl g y q⟩
def val (c : Int) : List Int → Int
  | [] => c
  | l :: g => val (11 * c + l) g
def cod : List Int → Int
  | [] => 0
  | l :: p => 11 * cod p + l
theorem val_cod : ∀ (g q : List Int), val (cod q) g = cod (g.reverse ++ q)
  | [], q => rfl
  | l :: g, q => by
    show val (11 * cod q + l) g = _
    have := val_cod g (l :: q)
    rw [List.reverse_cons, List.append_assoc]
    exact this
theorem val_lt {μ : Mem} (h : Inv μ) {t : Int} : ∀ (g p : List Int) (x x' c c' : Int), Wl μ t g x → Wl μ t p x' → g.length = p.length → c < c' → val c g < val c' p
  | [], [], _, _, c, c', _, _, _, hc => hc
  | [], _ :: _, _, _, _, _, _, _, hl, _ => by simp at hl
  | _ :: _, [], _, _, _, _, _, _, hl, _ => by simp at hl
  | l :: g, l' :: p, x, x', c, c', hg, hp, hl, hc => by
    obtain ⟨y, a, hw⟩ := hg
    obtain ⟨y', a', hw'⟩ := hp
    have r := adj_l h a
    have r' := adj_l h a'
    exact val_lt h g p y y' (11 * c + l) (11 * c' + l') hw hw' (by simpa using hl) (by omega)
theorem gr_le {μ : Mem} (h : Inv μ) {t : Int} : ∀ (g p : List Int) (x c : Int), Gr μ t g x → Dt μ t g.length x → Wl μ t p x → p.length = g.length → val c g ≤ val c p
  | [], [], _, c, _, _, _, _ => Int.le_refl _
  | [], _ :: _, _, _, _, _, _, hl => by simp at hl
  | _ :: _, [], _, _, _, _, _, hl => by simp at hl
  | l :: g, l' :: p, x, c, hg, hd, hp, hl => by
    obtain ⟨y, a, dy, mn, gy⟩ := hg
    obtain ⟨y', a', hw'⟩ := hp
    have hl' : p.length = g.length := by simpa using hl
    have dy' : Dt μ t g.length y' := dt_nb hd a' hw' hl'
    show val (11 * c + l) g ≤ val (11 * c + l') p
    rcases Int.lt_trichotomy l l' with q | q | q
    · exact Int.le_of_lt (val_lt h g p y y' _ _ (gr_wl g y gy) hw' hl'.symm (by omega))
    · subst q
      have := adj_fun h a a'
      subst this
      exact gr_le h g p y _ gy dy hw' hl'
    · exact absurd dy' (mn l' y' q a')
theorem cod_rg {μ : Mem} (h : Inv μ) {t : Int} : ∀ (p : List Int) (x : Int), Wl μ t p x → 0 ≤ cod p ∧ cod p < 11 ^ p.length
  | [], _, _ => ⟨by show (0 : Int) ≤ 0; decide, by show (0 : Int) < 11 ^ 0; decide⟩
  | l :: p, x, ⟨y, a, hw⟩ => by
    have r := adj_l h a
    have ih := cod_rg h p y hw
    have e : (11 : Int) ^ (l :: p).length = 11 ^ p.length * 11 := by rw [List.length_cons, Int.pow_succ]
    rw [e]
    show 0 ≤ 11 * cod p + l ∧ 11 * cod p + l < 11 ^ p.length * 11
    omega
theorem cod_app : ∀ (a b : List Int), cod (a ++ b) = 11 ^ a.length * cod b + cod a
  | [], b => by show cod b = 11 ^ 0 * cod b + 0; omega
  | l :: a, b => by
    show 11 * cod (a ++ b) + l = 11 ^ (a.length + 1) * cod b + (11 * cod a + l)
    rw [cod_app a b, Int.pow_succ, Int.mul_add, Int.mul_comm ((11 : Int) ^ a.length) 11, Int.mul_assoc]
    omega
theorem p11 : ∀ k : Nat, k < 9 → (11 : Int) ^ k ≤ 214358881 ∧ 1 ≤ (11 : Int) ^ k := by decide +kernel
