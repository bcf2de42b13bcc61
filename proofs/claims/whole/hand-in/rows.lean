section
/-! walks, reach, bottomless, simple walks: over any arc relation A u v x -/
def gr_W (A : Nat → Nat → Int → Prop) : Nat → Nat → Nat → Int → Prop
  | 0, s, v, c => s = v ∧ c = 0
  | n + 1, s, v, c => ∃ u c' x, gr_W A n s u c' ∧ A u v x ∧ c = c' + x
def gr_R (A : Nat → Nat → Int → Prop) (s v : Nat) : Prop := ∃ n c, gr_W A n s v c
def gr_L (A : Nat → Nat → Int → Prop) (s v : Nat) : Prop := ∀ B : Int, ∃ n c, gr_W A n s v c ∧ c < B
def gr_S (A : Nat → Nat → Int → Prop) (Q : Nat → Int → Prop) (s : Nat) : Nat → Nat → Nat → Int → Prop
  | 0, v, m, c => v = s ∧ m = 2 ^ s ∧ c = 0 ∧ Q v c
  | n + 1, v, m, c => ∃ u m' c' x, gr_S A Q s n u m' c' ∧ A u v x ∧ c = c' + x ∧ m'.testBit v = false ∧ m = m' ||| 2 ^ v ∧ Q v c
def gr_T (_ : Nat) (_ : Int) : Prop := True
def gr_NR (A : Nat → Nat → Int → Prop) (p : Nat) : Prop := ∃ n u m c x, gr_S A gr_T p n u m c ∧ A u p x ∧ c + x < 0
def gr_ok (A : Nat → Nat → Int → Prop) : Prop := ∀ u v x, A u v x → u < 7 ∧ v < 7 ∧ -20 ≤ x ∧ x ≤ 20
def gr_in (A : Nat → Nat → Int → Prop) : Prop := ∀ u v x, A u v x → u < 7 ∧ v < 7
def gr_M (A : Nat → Nat → Int → Prop) (s v : Nat) (r : Int) : Prop := (∃ n, gr_W A n s v r) ∧ ∀ n c, gr_W A n s v c → r ≤ c
def gr_Ans (A : Nat → Nat → Int → Prop) (s v : Nat) (r : Int) : Prop := (r = -3000 ∧ ¬ gr_R A s v) ∨ (r = -4000 ∧ gr_L A s v) ∨ gr_M A s v r
section
variable {A : Nat → Nat → Int → Prop} {Q : Nat → Int → Prop}
theorem gr_oki (h : gr_ok A) : gr_in A := fun u v x a => ⟨(h u v x a).1, (h u v x a).2.1⟩
theorem gr_W0 (s : Nat) : gr_W A 0 s s 0 := ⟨rfl, rfl⟩
theorem gr_Ws {n s u v : Nat} {c x : Int} (h : gr_W A n s u c) (a : A u v x) : gr_W A (n + 1) s v (c + x) := ⟨u, c, x, h, a, rfl⟩
theorem gr_W1 {u v : Nat} {x : Int} (a : A u v x) : gr_W A 1 u v x := ⟨u, 0, x, ⟨rfl, rfl⟩, a, by omega⟩
theorem gr_Wapp {n s u : Nat} {c : Int} (h : gr_W A n s u c) : ∀ {m v : Nat} {d : Int}, gr_W A m u v d → gr_W A (n + m) s v (c + d) := by
  intro m
  induction m with
  | zero =>
    intro v d hd
    obtain ⟨rfl, rfl⟩ := hd
    rw [Int.add_zero]
    exact h
  | succ m ih =>
    intro v d hd
    obtain ⟨y, d', x, h1, a, rfl⟩ := hd
    exact ⟨y, c + d', x, ih h1, a, by omega⟩
theorem gr_Rr (s : Nat) : gr_R A s s := ⟨0, 0, gr_W0 s⟩
theorem gr_Rs {s u v : Nat} {x : Int} (h : gr_R A s u) (a : A u v x) : gr_R A s v := by
  obtain ⟨n, c, h⟩ := h
  exact ⟨n + 1, c + x, gr_Ws h a⟩
theorem gr_Rt {s u v : Nat} (h : gr_R A s u) (g : gr_R A u v) : gr_R A s v := by
  obtain ⟨n, c, h⟩ := h
  obtain ⟨m, d, g⟩ := g
  exact ⟨n + m, c + d, gr_Wapp h g⟩
theorem gr_R1 {u v : Nat} {x : Int} (a : A u v x) : gr_R A u v := ⟨1, x, gr_W1 a⟩
theorem gr_Ls {s u v : Nat} {x : Int} (h : gr_L A s u) (a : A u v x) : gr_L A s v := by
  intro B
  obtain ⟨n, c, h, hc⟩ := h (B - x)
  exact ⟨n + 1, c + x, gr_Ws h a, by omega⟩
theorem gr_LR {s u v : Nat} (h : gr_L A s u) (g : gr_R A u v) : gr_L A s v := by
  obtain ⟨m, d, g⟩ := g
  intro B
  obtain ⟨n, c, h, hc⟩ := h (B - d)
  exact ⟨n + m, c + d, gr_Wapp h g, by omega⟩
theorem gr_RL {s u v : Nat} (g : gr_R A s u) (h : gr_L A u v) : gr_L A s v := by
  obtain ⟨m, d, g⟩ := g
  intro B
  obtain ⟨n, c, h, hc⟩ := h (B - d)
  exact ⟨m + n, d + c, gr_Wapp g h, by omega⟩
theorem gr_L_R {s v : Nat} (h : gr_L A s v) : gr_R A s v := by
  obtain ⟨n, c, h, _⟩ := h 0
  exact ⟨n, c, h⟩
theorem gr_Lneg {p n : Nat} {d : Int} (h : gr_W A n p p d) (hd : d < 0) : gr_L A p p := by
  have key : ∀ j : Nat, ∃ n' c', gr_W A n' p p c' ∧ c' ≤ -(j : Int) := by
    intro j
    induction j with
    | zero => exact ⟨0, 0, gr_W0 p, by omega⟩
    | succ j ih =>
      obtain ⟨n', c', h', hc⟩ := ih
      exact ⟨n' + n, c' + d, gr_Wapp h' h, by omega⟩
  intro B
  obtain ⟨n', c', h', hc⟩ := key (B.natAbs + 1)
  exact ⟨n', c', h', by omega⟩
theorem gr_Wb (ok : gr_ok A) {s : Nat} : ∀ {n v : Nat} {c : Int}, gr_W A n s v c → -20 * (n : Int) ≤ c ∧ c ≤ 20 * (n : Int) := by
  intro n
  induction n with
  | zero =>
    intro v c h
    obtain ⟨_, rfl⟩ := h
    omega
  | succ n ih =>
    intro v c h
    obtain ⟨u, c', x, h, a, rfl⟩ := h
    have h1 := ih h
    have h2 := ok _ _ _ a
    omega
theorem gr_Wv (ok : gr_in A) {s : Nat} (hs : s < 7) {n v : Nat} {c : Int} (h : gr_W A n s v c) : v < 7 := by
  cases n with
  | zero =>
    obtain ⟨rfl, _⟩ := h
    exact hs
  | succ n =>
    obtain ⟨u, c', x, h, a, rfl⟩ := h
    exact (ok _ _ _ a).2
theorem gr_SW {s : Nat} : ∀ {n v m : Nat} {c : Int}, gr_S A Q s n v m c → gr_W A n s v c := by
  intro n
  induction n with
  | zero =>
    intro v m c h
    exact ⟨h.1.symm, h.2.2.1⟩
  | succ n ih =>
    intro v m c h
    obtain ⟨u, m', c', x, h, a, e, _⟩ := h
    exact ⟨u, c', x, ih h, a, e⟩
theorem gr_ST {s : Nat} : ∀ {n v m : Nat} {c : Int}, gr_S A Q s n v m c → gr_S A gr_T s n v m c := by
  intro n
  induction n with
  | zero =>
    intro v m c h
    exact ⟨h.1, h.2.1, h.2.2.1, trivial⟩
  | succ n ih =>
    intro v m c h
    obtain ⟨u, m', c', x, h, a, e, b, b', _⟩ := h
    exact ⟨u, m', c', x, ih h, a, e, b, b', trivial⟩
theorem gr_SQ {Q' : Nat → Int → Prop} (hQ : ∀ v c, Q v c → Q' v c) {s : Nat} : ∀ {n v m : Nat} {c : Int}, gr_S A Q s n v m c → gr_S A Q' s n v m c := by
  intro n
  induction n with
  | zero =>
    intro v m c h
    exact ⟨h.1, h.2.1, h.2.2.1, hQ _ _ h.2.2.2⟩
  | succ n ih =>
    intro v m c h
    obtain ⟨u, m', c', x, h, a, e, b, b', q⟩ := h
    exact ⟨u, m', c', x, ih h, a, e, b, b', hQ _ _ q⟩
theorem gr_S0 {s : Nat} : gr_S A gr_T s 0 s (2 ^ s) 0 := ⟨rfl, rfl, rfl, trivial⟩
theorem gr_Sq {s n v m : Nat} {c : Int} (h : gr_S A Q s n v m c) : Q v c := by
  cases n with
  | zero => exact h.2.2.2
  | succ n =>
    obtain ⟨u, m', c', x, h, a, e, b, b', q⟩ := h
    exact q
theorem gr_Sv {s n v m : Nat} {c : Int} (h : gr_S A Q s n v m c) : m.testBit v = true := by
  cases n with
  | zero =>
    obtain ⟨rfl, rfl, _, _⟩ := h
    exact Nat.testBit_two_pow_self
  | succ n =>
    obtain ⟨u, m', c', x, h, a, e, b, rfl, q⟩ := h
    rw [Nat.testBit_or, Nat.testBit_two_pow_self, Bool.or_true]
theorem gr_Ss {s : Nat} : ∀ {n v m : Nat} {c : Int}, gr_S A Q s n v m c → m.testBit s = true := by
  intro n
  induction n with
  | zero =>
    intro v m c h
    obtain ⟨rfl, rfl, _, _⟩ := h
    exact Nat.testBit_two_pow_self
  | succ n ih =>
    intro v m c h
    obtain ⟨u, m', c', x, h, a, e, b, rfl, q⟩ := h
    rw [Nat.testBit_or, ih h, Bool.true_or]
def gr_pc (m : Nat) : Nat := (m.testBit 0).toNat + (m.testBit 1).toNat + (m.testBit 2).toNat + (m.testBit 3).toNat + (m.testBit 4).toNat + (m.testBit 5).toNat + (m.testBit 6).toNat
theorem gr_pc_le (m : Nat) : gr_pc m ≤ 7 := by
  have h0 := Bool.toNat_le (m.testBit 0)
  have h1 := Bool.toNat_le (m.testBit 1)
  have h2 := Bool.toNat_le (m.testBit 2)
  have h3 := Bool.toNat_le (m.testBit 3)
  have h4 := Bool.toNat_le (m.testBit 4)
  have h5 := Bool.toNat_le (m.testBit 5)
  have h6 := Bool.toNat_le (m.testBit 6)
  unfold gr_pc
  omega
theorem gr_pc_add : ∀ m, m < 128 → ∀ v, v < 7 → m.testBit v = false → gr_pc (m ||| 2 ^ v) = gr_pc m + 1 ∧ m ||| 2 ^ v < 128 := by decide +kernel
theorem gr_pc_pow : ∀ s, s < 7 → gr_pc (2 ^ s) = 1 ∧ 2 ^ s < 128 := by decide +kernel
theorem gr_Spc (ok : gr_in A) {s : Nat} (hs : s < 7) : ∀ {n v m : Nat} {c : Int}, gr_S A Q s n v m c → m < 128 ∧ gr_pc m = n + 1 := by
  intro n
  induction n with
  | zero =>
    intro v m c h
    obtain ⟨rfl, rfl, _, _⟩ := h
    have := gr_pc_pow v hs
    omega
  | succ n ih =>
    intro v m c h
    obtain ⟨u, m', c', x, h, a, e, b, rfl, q⟩ := h
    have h1 := ih h
    have h2 := gr_pc_add m' h1.1 v (ok _ _ _ a).2 b
    omega
theorem gr_Sn6 (ok : gr_in A) {s : Nat} (hs : s < 7) {n v m : Nat} {c : Int} (h : gr_S A Q s n v m c) : n ≤ 6 := by
  have h1 := gr_Spc ok hs h
  have h2 := gr_pc_le m
  omega
theorem gr_split {s p : Nat} : ∀ {n u m : Nat} {c : Int}, gr_S A Q s n u m c → m.testBit p = true → ∃ n1 m1 c1 n2 m2 c2, gr_S A Q s n1 p m1 c1 ∧ gr_S A gr_T p n2 u m2 c2 ∧ c = c1 + c2 ∧ n = n1 + n2 ∧ (∀ i, m.testBit i = (m1.testBit i || m2.testBit i)) ∧ (∀ i, m1.testBit i = true → m2.testBit i = true → i = p) := by
  intro n
  induction n with
  | zero =>
    intro u m c h hp
    have h0 := h
    obtain ⟨rfl, rfl, rfl, q⟩ := h
    rw [Nat.testBit_two_pow] at hp
    have e : u = p := of_decide_eq_true hp
    subst e
    refine ⟨0, 2 ^ u, 0, 0, 2 ^ u, 0, h0, gr_S0, rfl, rfl, fun i => (Bool.or_self _).symm, fun i h1 _ => ?_⟩
    rw [Nat.testBit_two_pow] at h1
    exact (of_decide_eq_true h1).symm
  | succ n ih =>
    intro u m c h hp
    by_cases e : u = p
    · subst e
      refine ⟨n + 1, m, c, 0, 2 ^ u, 0, h, gr_S0, by omega, rfl, fun i => ?_, fun i _ h2 => ?_⟩
      · rw [Nat.testBit_two_pow]
        by_cases ei : u = i
        · subst ei
          rw [hp]
          rfl
        · rw [decide_eq_false ei, Bool.or_false]
      · rw [Nat.testBit_two_pow] at h2
        exact (of_decide_eq_true h2).symm
    · obtain ⟨w, m', c', x, h, a, rfl, b, rfl, q⟩ := h
      rw [Nat.testBit_or, Nat.testBit_two_pow, decide_eq_false e, Bool.or_false] at hp
      obtain ⟨n1, m1, c1, n2, m2, c2, g1, g2, rfl, rfl, h3, h4⟩ := ih h hp
      have b1 : m1.testBit u = false ∧ m2.testBit u = false := by
        have := h3 u
        rw [b] at this
        cases z1 : m1.testBit u <;> cases z2 : m2.testBit u <;> simp [z1, z2] at this ⊢
      refine ⟨n1, m1, c1, n2 + 1, m2 ||| 2 ^ u, c2 + x, g1, ⟨w, m2, c2, x, g2, a, rfl, b1.2, rfl, trivial⟩, by omega, by omega, fun i => ?_, fun i i1 i2 => ?_⟩
      · rw [Nat.testBit_or, Nat.testBit_or, h3 i, Bool.or_assoc]
      · rw [Nat.testBit_or, Nat.testBit_two_pow] at i2
        by_cases ei : u = i
        · subst ei
          rw [b1.1] at i1
          exact absurd i1 (by decide)
        · rw [decide_eq_false ei, Bool.or_false] at i2
          exact h4 i i1 i2
theorem gr_NRL {p : Nat} (h : gr_NR A p) : gr_L A p p := by
  obtain ⟨n, u, m, c, x, h, a, hx⟩ := h
  exact gr_Lneg (gr_Ws (gr_SW h) a) hx
theorem gr_simple {s : Nat} : ∀ {n v : Nat} {c : Int}, gr_W A n s v c → (∃ p, gr_R A s p ∧ gr_R A p v ∧ gr_NR A p) ∨ ∃ n' m c', gr_S A gr_T s n' v m c' ∧ c' ≤ c := by
  intro n
  induction n with
  | zero =>
    intro v c h
    obtain ⟨rfl, rfl⟩ := h
    exact Or.inr ⟨0, 2 ^ s, 0, gr_S0, by omega⟩
  | succ n ih =>
    intro v c h
    obtain ⟨u, c', x, h, a, rfl⟩ := h
    rcases ih h with ⟨p, h1, h2, h3⟩ | ⟨n', m, c2, h1, h2⟩
    · exact Or.inl ⟨p, h1, gr_Rs h2 a, h3⟩
    · cases b : m.testBit v with
      | false => exact Or.inr ⟨n' + 1, m ||| 2 ^ v, c2 + x, ⟨u, m, c2, x, h1, a, rfl, b, rfl, trivial⟩, by omega⟩
      | true =>
        obtain ⟨n1, m1, c1, n2, m2, d2, g1, g2, e, _, _, _⟩ := gr_split h1 b
        by_cases z : d2 + x < 0
        · exact Or.inl ⟨v, ⟨_, _, gr_SW g1⟩, gr_Rr v, ⟨_, _, _, _, _, g2, a, z⟩⟩
        · exact Or.inr ⟨n1, m1, c1, g1, by omega⟩
theorem gr_Lring (ok : gr_ok A) {s v : Nat} (hs : s < 7) (h : gr_L A s v) : ∃ p, gr_R A s p ∧ gr_R A p v ∧ gr_NR A p := by
  obtain ⟨n, c, h, hc⟩ := h (-121)
  rcases gr_simple h with h1 | ⟨n', m, c', h1, h2⟩
  · exact h1
  · have h3 := gr_Sn6 (gr_oki ok) hs h1
    have h4 := gr_Wb ok (gr_SW h1)
    omega
theorem gr_small (ok : gr_ok A) {s v n : Nat} {c : Int} (hs : s < 7) (h : gr_W A n s v c) (hl : ¬ gr_L A s v) : ∃ n' c', n' ≤ 6 ∧ gr_W A n' s v c' ∧ c' ≤ c := by
  rcases gr_simple h with ⟨p, h1, h2, h3⟩ | ⟨n', m, c', h1, h2⟩
  · exact absurd (gr_LR (gr_RL h1 (gr_NRL h3)) h2) hl
  · exact ⟨n', c', gr_Sn6 (gr_oki ok) hs h1, gr_SW h1, h2⟩
def gr_A0 (A : Nat → Nat → Int → Prop) (u v : Nat) (x : Int) : Prop := x = 0 ∧ ∃ y, A u v y
theorem gr_W_A0 {s : Nat} : ∀ {n v : Nat} {c : Int}, gr_W A n s v c → gr_W (gr_A0 A) n s v 0 := by
  intro n
  induction n with
  | zero =>
    intro v c h
    exact ⟨h.1, rfl⟩
  | succ n ih =>
    intro v c h
    obtain ⟨u, c', x, h, a, rfl⟩ := h
    exact ⟨u, 0, 0, ih h, ⟨rfl, x, a⟩, rfl⟩
theorem gr_A0_W {s : Nat} : ∀ {n v : Nat} {c : Int}, gr_W (gr_A0 A) n s v c → c = 0 ∧ ∃ d, gr_W A n s v d := by
  intro n
  induction n with
  | zero =>
    intro v c h
    exact ⟨h.2, 0, h.1, rfl⟩
  | succ n ih =>
    intro v c h
    obtain ⟨u, c', x, h, ⟨rfl, y, a⟩, rfl⟩ := h
    obtain ⟨e, d, g⟩ := ih h
    exact ⟨by omega, d + y, gr_Ws g a⟩
theorem gr_R6 (ok : gr_in A) {s v : Nat} (hs : s < 7) (h : gr_R A s v) : ∃ n c, n ≤ 6 ∧ gr_W A n s v c := by
  obtain ⟨n, c, h⟩ := h
  have ok' : gr_in (gr_A0 A) := fun u v x ⟨_, y, a⟩ => ok u v y a
  rcases gr_simple (gr_W_A0 h) with ⟨p, h1, h2, n', u, m, c', x, h3, ⟨h4, _⟩, h5⟩ | ⟨n', m, c', h1, h2⟩
  · have := (gr_A0_W (gr_SW h3)).1
    omega
  · obtain ⟨_, d, g⟩ := gr_A0_W (gr_SW h1)
    exact ⟨n', d, gr_Sn6 ok' hs h1, g⟩
theorem gr_ML {s v : Nat} {r : Int} (h : gr_M A s v r) : ¬ gr_L A s v := by
  intro hl
  obtain ⟨n, c, g, hc⟩ := hl r
  have := h.2 n c g
  omega
theorem gr_Mr (ok : gr_ok A) {s v : Nat} (hs : s < 7) {r : Int} (h : gr_M A s v r) : -120 ≤ r ∧ r ≤ 120 ∧ ∃ n, n ≤ 6 ∧ gr_W A n s v r := by
  obtain ⟨n, g⟩ := h.1
  obtain ⟨n', c', h1, h2, h3⟩ := gr_small ok hs g (gr_ML h)
  have h4 := h.2 _ _ h2
  have e : r = c' := by omega
  subst e
  have h5 := gr_Wb ok h2
  exact ⟨by omega, by omega, n', h1, h2⟩
theorem gr_uniq (ok : gr_ok A) {s v : Nat} (hs : s < 7) {r r' : Int} (h : gr_Ans A s v r) (h' : gr_Ans A s v r') : r = r' := by
  rcases h with ⟨e, h⟩ | ⟨e, h⟩ | h <;> rcases h' with ⟨e', h'⟩ | ⟨e', h'⟩ | h'
  · omega
  · exact absurd (gr_L_R h') h
  · exact absurd ⟨_, _, h'.1.choose_spec⟩ h
  · exact absurd (gr_L_R h) h'
  · omega
  · exact absurd h (gr_ML h')
  · exact absurd ⟨_, _, h.1.choose_spec⟩ h'
  · exact absurd h' (gr_ML h)
  · obtain ⟨n, g⟩ := h.1
    obtain ⟨n', g'⟩ := h'.1
    have h1 := h.2 _ _ g'
    have h2 := h'.2 _ _ g
    omega
/-- found, or one of the codes -/
theorem gr_Ansr (ok : gr_ok A) {s v : Nat} (hs : s < 7) {r : Int} (h : gr_Ans A s v r) : r = -3000 ∨ r = -4000 ∨ (-120 ≤ r ∧ r ≤ 120) := by
  rcases h with ⟨e, h⟩ | ⟨e, h⟩ | h
  · exact Or.inl e
  · exact Or.inr (Or.inl e)
  · have := gr_Mr ok hs h
    omega
/-- a cell that is sound: no walk known, or bottomless, or the weight of a walk of at most b arcs -/
def gr_C (A : Nat → Nat → Int → Prop) (b s v : Nat) (z : Int) : Prop := z = 1000000 ∨ (z = -1000000 ∧ gr_L A s v) ∨ ∃ n, n ≤ b ∧ gr_W A n s v z
def gr_cv (z : Int) : Int := if z = 1000000 then -3000 else if z = -1000000 then -4000 else z
theorem gr_fin (ok : gr_ok A) {b s v : Nat} (hs : s < 7) (hb : b ≤ 10000) {z : Int} (h : gr_C A b s v z) (hL : gr_L A s v → z = -1000000) (h6 : ∀ n c, n ≤ 6 → gr_W A n s v c → z ≤ c) : gr_Ans A s v (gr_cv z) := by
  rcases h with e | ⟨e, h⟩ | ⟨n, hn, h⟩
  · subst e
    refine Or.inl ⟨rfl, fun hR => ?_⟩
    obtain ⟨n, c, hn, h⟩ := gr_R6 (gr_oki ok) hs hR
    have h1 := h6 n c hn h
    have h2 := gr_Wb ok h
    omega
  · subst e
    exact Or.inr (Or.inl ⟨rfl, h⟩)
  · have h1 := gr_Wb ok h
    have e : gr_cv z = z := by
      unfold gr_cv
      rw [if_neg (by omega), if_neg (by omega)]
    rw [e]
    refine Or.inr (Or.inr ⟨⟨n, h⟩, fun n' c' g => ?_⟩)
    have hl : ¬ gr_L A s v := fun hl => by
      have := hL hl
      omega
    obtain ⟨n2, c2, g1, g2, g3⟩ := gr_small ok hs g hl
    have := h6 n2 c2 g1 g2
    omega
theorem gr_finD (ok : gr_ok A) {b s v : Nat} (hs : s < 7) (hb : b ≤ 10000) {z : Int} (h : gr_C A b s v z) (hD : z = -1000000 ∨ ∀ n c, gr_W A n s v c → z ≤ c) : gr_Ans A s v (gr_cv z) := by
  refine gr_fin ok hs hb h (fun hl => ?_) (fun n c hn g => ?_)
  · rcases hD with e | hD
    · exact e
    · obtain ⟨n, c, g, hc⟩ := hl z
      have := hD n c g
      omega
  · rcases hD with e | hD
    · have := gr_Wb ok g
      omega
    · exact hD n c g
end
end
section
section
variable {A : Nat → Nat → Int → Prop} {Q : Nat → Int → Prop}
/-- the reference's test for bottomless -/
theorem gr_lowY (ok : gr_ok A) {s t : Nat} (hs : s < 7) : gr_L A s t ↔ ∃ v, gr_R A v t ∧ ∃ c, gr_W A 7 s v c ∧ ∀ k d, k ≤ 6 → gr_W A k s v d → c < d := by
  constructor
  · intro hl
    refine Classical.byContradiction fun hn => ?_
    have key : ∀ n v c, gr_W A n s v c → gr_R A v t → ∃ k d, k ≤ 6 ∧ gr_W A k s v d ∧ d ≤ c := by
      intro n
      induction n with
      | zero =>
        intro v c h _
        exact ⟨0, c, by omega, h, by omega⟩
      | succ n ih =>
        intro v c h hR
        obtain ⟨u, c', x, h, a, rfl⟩ := h
        obtain ⟨k, d, hk, g, hd⟩ := ih u c' h (gr_Rt (gr_R1 a) hR)
        by_cases hk6 : k ≤ 5
        · exact ⟨k + 1, d + x, by omega, gr_Ws g a, by omega⟩
        · have e : k = 6 := by omega
          subst e
          refine Classical.byContradiction fun hn2 => hn ⟨v, hR, d + x, gr_Ws g a, fun k' d' hk' g' => ?_⟩
          refine Classical.byContradiction fun hn3 => hn2 ⟨k', d', hk', g', by omega⟩
    obtain ⟨n, c, h, hc⟩ := hl (-120)
    obtain ⟨k, d, hk, g, hd⟩ := key n t c h (gr_Rr t)
    have := gr_Wb ok g
    omega
  · rintro ⟨v, hR, c, h, hm⟩
    refine gr_LR ?_ hR
    refine Classical.byContradiction fun hl => ?_
    obtain ⟨n', c', h1, h2, h3⟩ := gr_small ok hs h hl
    have := hm n' c' h1 h2
    omega
/-- walks whose points between are below m -/
def gr_F (A : Nat → Nat → Int → Prop) (m : Nat) : Nat → Nat → Nat → Int → Prop
  | 0, s, v, c => s = v ∧ c = 0
  | n + 1, s, v, c => ∃ u c' x, gr_F A m n s u c' ∧ A u v x ∧ c = c' + x ∧ (n = 0 ∨ u < m)
theorem gr_F7 (ok : gr_in A) {s : Nat} : ∀ {n v : Nat} {c : Int}, gr_W A n s v c → gr_F A 7 n s v c := by
  intro n
  induction n with
  | zero =>
    intro v c h
    exact h
  | succ n ih =>
    intro v c h
    obtain ⟨u, c', x, h, a, rfl⟩ := h
    exact ⟨u, c', x, ih h, a, rfl, Or.inr (ok _ _ _ a).1⟩
theorem gr_Fs {m : Nat} {neg : Prop} (hz : ¬ neg → ∀ n c, gr_F A m n m m c → 0 ≤ c) {s : Nat} : ∀ {n v : Nat} {c : Int}, gr_F A (m + 1) n s v c → gr_F A m n s v c ∨ ∃ n1 c1 n2 c2, gr_F A m n1 s m c1 ∧ gr_F A m n2 m v c2 ∧ (neg ∨ c1 + c2 ≤ c) := by
  intro n
  induction n with
  | zero =>
    intro v c h
    exact Or.inl h
  | succ n ih =>
    intro v c h
    obtain ⟨u, c', x, h, a, rfl, hu⟩ := h
    by_cases n0 : n = 0
    · subst n0
      exact Or.inl ⟨u, c', x, h, a, rfl, Or.inl rfl⟩
    · have hu' : u < m + 1 := by omega
      by_cases um : u < m
      · rcases ih h with h1 | ⟨n1, c1, n2, c2, h1, h2, h3⟩
        · exact Or.inl ⟨u, c', x, h1, a, rfl, Or.inr um⟩
        · refine Or.inr ⟨n1, c1, n2 + 1, c2 + x, h1, ⟨u, c2, x, h2, a, rfl, Or.inr um⟩, ?_⟩
          rcases h3 with h3 | h3
          · exact Or.inl h3
          · exact Or.inr (by omega)
      · have e : u = m := by omega
        subst e
        rcases ih h with h1 | ⟨n1, c1, n2, c2, h1, h2, h3⟩
        · exact Or.inr ⟨n, c', 1, x, h1, ⟨u, 0, x, ⟨rfl, rfl⟩, a, by omega, Or.inl rfl⟩, Or.inr (by omega)⟩
        · refine Or.inr ⟨n1, c1, 1, x, h1, ⟨u, 0, x, ⟨rfl, rfl⟩, a, by omega, Or.inl rfl⟩, ?_⟩
          rcases h3 with h3 | h3
          · exact Or.inl h3
          · by_cases ng : neg
            · exact Or.inl ng
            · have := hz ng n2 c2 h2
              exact Or.inr (by omega)
/-- a ring from s with the points m, n arcs, weight c -/
def gr_Rg (A : Nat → Nat → Int → Prop) (s m n : Nat) (c : Int) : Prop := ∃ n' u c' x, gr_S A gr_T s n' u m c' ∧ A u s x ∧ n = n' + 1 ∧ c = c' + x
theorem gr_RgW {s m n : Nat} {c : Int} (h : gr_Rg A s m n c) : gr_W A n s s c := by
  obtain ⟨n', u, c', x, h, a, rfl, rfl⟩ := h
  exact gr_Ws (gr_SW h) a
theorem gr_Rgn (ok : gr_in A) {s m n : Nat} {c : Int} (hs : s < 7) (h : gr_Rg A s m n c) : 1 ≤ n ∧ n ≤ 7 ∧ m < 128 ∧ gr_pc m = n := by
  obtain ⟨n', u, c', x, h, a, rfl, rfl⟩ := h
  have h1 := gr_Sn6 ok hs h
  have h2 := gr_Spc ok hs h
  omega
theorem gr_cat {p n2 u s m2 : Nat} {c2 x : Int} (h : gr_S A gr_T p n2 u m2 c2) (a : A u s x) : ∀ {k y m1 : Nat} {c1 : Int}, gr_S A gr_T s k y m1 c1 → (∀ i, m1.testBit i = true → m2.testBit i = false) → gr_S A gr_T p (n2 + 1 + k) y (m2 ||| m1) (c2 + x + c1) := by
  intro k
  induction k with
  | zero =>
    intro y m1 c1 h1 hd
    obtain ⟨rfl, rfl, rfl, _⟩ := h1
    exact ⟨u, m2, c2, x, h, a, by omega, hd y Nat.testBit_two_pow_self, rfl, trivial⟩
  | succ k ih =>
    intro y m1 c1 h1 hd
    have hy := gr_Sv h1
    obtain ⟨w, m', c', x', h1, a', rfl, b, rfl, _⟩ := h1
    refine ⟨w, m2 ||| m', c2 + x + c', x', ih h1 (fun i hi => hd i ?_), a', by omega, ?_, (Nat.or_assoc _ _ _).symm, trivial⟩
    · rw [Nat.testBit_or, hi, Bool.true_or]
    · rw [Nat.testBit_or, b, hd y hy]
      rfl
theorem gr_rot {s p m n : Nat} {c : Int} (h : gr_Rg A s m n c) (hp : m.testBit p = true) : gr_Rg A p m n c := by
  by_cases e : p = s
  · subst e
    exact h
  · obtain ⟨n', u, c', x, h, a, rfl, rfl⟩ := h
    obtain ⟨n1, m1, c1, n2, m2, c2, g1, g2, rfl, rfl, h3, h4⟩ := gr_split h hp
    cases n1 with
    | zero => exact absurd g1.1 e
    | succ k =>
      have p2 := gr_Ss g2
      obtain ⟨y, m', d, x', g1, a', rfl, b, rfl, _⟩ := g1
      have hd : ∀ i, m'.testBit i = true → m2.testBit i = false := by
        intro i hi
        cases z : m2.testBit i with
        | false => rfl
        | true =>
          have := h4 i (by rw [Nat.testBit_or, hi, Bool.true_or]) z
          subst this
          rw [b] at hi
          exact absurd hi (by decide)
      have em : m2 ||| m' = m := by
        apply Nat.eq_of_testBit_eq
        intro i
        rw [h3 i, Nat.testBit_or, Nat.testBit_or, Nat.testBit_two_pow]
        by_cases ei : p = i
        · subst ei
          rw [p2, Bool.or_true, Bool.true_or]
        · rw [decide_eq_false ei, Bool.or_false, Bool.or_comm]
      have g := gr_cat g2 a g1 hd
      rw [em] at g
      exact ⟨_, y, _, x', g, a', by omega, by omega⟩
/-- a closed walk below 0 holds a ring below 0 -/
theorem gr_closed {v n : Nat} {c : Int} (h : gr_W A n v v c) (hc : c < 0) : ∃ p, gr_R A v p ∧ gr_NR A p := by
  rcases gr_simple h with ⟨p, h1, h2, h3⟩ | ⟨n', m, c', h1, h2⟩
  · exact ⟨p, h1, h3⟩
  · cases n' with
    | zero =>
      have := h1.2.2.1
      omega
    | succ k =>
      obtain ⟨u, m', d, x, g, a, e, b, _, _⟩ := h1
      have := gr_Ss g
      rw [b] at this
      exact absurd this (by decide)
theorem gr_zero (hn : ∀ p, gr_R A p p → ¬ gr_NR A p) {v n : Nat} {c : Int} (h : gr_W A (n + 1) v v c) : ∃ m n' c', gr_Rg A v m n' c' ∧ c' ≤ c ∧ m.testBit v = true := by
  obtain ⟨u, c', x, h, a, rfl⟩ := h
  rcases gr_simple h with ⟨p, _, _, h3⟩ | ⟨n', m, d, h1, h2⟩
  · exact absurd h3 (hn p (gr_Rr p))
  · exact ⟨m, n' + 1, d + x, ⟨n', u, d, x, h1, a, rfl, rfl⟩, by omega, gr_Ss h1⟩
theorem gr_noring (hn : ∀ s m n c, ¬ gr_Rg A s m n c) {s : Nat} : ∀ {n v : Nat} {c : Int}, gr_W A n s v c → ∃ m, gr_S A gr_T s n v m c := by
  intro n
  induction n with
  | zero =>
    intro v c h
    exact ⟨2 ^ s, h.1.symm, rfl, h.2, trivial⟩
  | succ n ih =>
    intro v c h
    obtain ⟨u, c', x, h, a, rfl⟩ := h
    obtain ⟨m, g⟩ := ih h
    cases b : m.testBit v with
    | false => exact ⟨m ||| 2 ^ v, u, m, c', x, g, a, rfl, b, rfl, trivial⟩
    | true =>
      obtain ⟨n1, m1, c1, n2, m2, c2, g1, g2, _⟩ := gr_split g b
      exact absurd ⟨n2, u, c2, x, g2, a, rfl, rfl⟩ (hn v m2 (n2 + 1) (c2 + x))
theorem gr_cut {s : Nat} : ∀ {b a : Nat} {t : Nat} {c : Int}, gr_W A (a + b) s t c → ∃ v c1 c2, gr_W A a s v c1 ∧ gr_W A b v t c2 ∧ c = c1 + c2 := by
  intro b
  induction b with
  | zero =>
    intro a t c h
    exact ⟨t, c, 0, h, gr_W0 t, by omega⟩
  | succ b ih =>
    intro a t c h
    obtain ⟨u, c', x, h, ar, rfl⟩ := h
    obtain ⟨v, c1, c2, h1, h2, rfl⟩ := ih h
    exact ⟨v, c1, c2 + x, h1, gr_Ws h2 ar, by omega⟩
/-- the shifted weights -/
def gr_H (A : Nat → Nat → Int → Prop) (p q : Int) (u v : Nat) (y : Int) : Prop := ∃ x, A u v x ∧ y = q * x - p
theorem gr_Hin (ok : gr_in A) (p q : Int) : gr_in (gr_H A p q) := fun u v _ ⟨x, a, _⟩ => ok u v x a
theorem gr_ar (p q c x n : Int) : q * (c + x) - p * (n + 1) = (q * c - p * n) + (q * x - p) := by
  rw [Int.mul_add, Int.mul_add, Int.mul_one]
  omega
theorem gr_WH (p q : Int) {s : Nat} : ∀ {n v : Nat} {c : Int}, gr_W A n s v c → gr_W (gr_H A p q) n s v (q * c - p * n) := by
  intro n
  induction n with
  | zero =>
    intro v c h
    obtain ⟨rfl, rfl⟩ := h
    exact ⟨rfl, by simp⟩
  | succ n ih =>
    intro v c h
    obtain ⟨u, c', x, h, a, rfl⟩ := h
    exact ⟨u, _, _, ih h, ⟨x, a, rfl⟩, gr_ar p q c' x n⟩
theorem gr_HW (p q : Int) {s : Nat} : ∀ {n v : Nat} {d : Int}, gr_W (gr_H A p q) n s v d → ∃ c, gr_W A n s v c ∧ d = q * c - p * n := by
  intro n
  induction n with
  | zero =>
    intro v c h
    obtain ⟨rfl, rfl⟩ := h
    exact ⟨0, ⟨rfl, rfl⟩, by simp⟩
  | succ n ih =>
    intro v d h
    obtain ⟨u, d', y, h, ⟨x, a, rfl⟩, rfl⟩ := h
    obtain ⟨c, g, rfl⟩ := ih h
    exact ⟨c + x, gr_Ws g a, (gr_ar p q c x n).symm⟩
theorem gr_SH (p q : Int) {s : Nat} : ∀ {n v m : Nat} {c : Int}, gr_S A gr_T s n v m c → gr_S (gr_H A p q) gr_T s n v m (q * c - p * n) := by
  intro n
  induction n with
  | zero =>
    intro v m c h
    obtain ⟨rfl, rfl, rfl, _⟩ := h
    exact ⟨rfl, rfl, by simp, trivial⟩
  | succ n ih =>
    intro v m c h
    obtain ⟨u, m', c', x, h, a, rfl, b, rfl, _⟩ := h
    exact ⟨u, m', _, _, ih h, ⟨x, a, rfl⟩, gr_ar p q c' x n, b, rfl, trivial⟩
theorem gr_HS (p q : Int) {s : Nat} : ∀ {n v m : Nat} {d : Int}, gr_S (gr_H A p q) gr_T s n v m d → ∃ c, gr_S A gr_T s n v m c ∧ d = q * c - p * n := by
  intro n
  induction n with
  | zero =>
    intro v m c h
    obtain ⟨rfl, rfl, rfl, _⟩ := h
    exact ⟨0, ⟨rfl, rfl, rfl, trivial⟩, by simp⟩
  | succ n ih =>
    intro v m d h
    obtain ⟨u, m', d', y, h, ⟨x, a, rfl⟩, rfl, b, rfl, _⟩ := h
    obtain ⟨c, g, rfl⟩ := ih h
    exact ⟨c + x, ⟨u, m', c, x, g, a, rfl, b, rfl, trivial⟩, (gr_ar p q c x n).symm⟩
/-- p / q is the least mean of a ring -/
def gr_Mean (A : Nat → Nat → Int → Prop) (p q : Int) : Prop := 0 < q ∧ (∃ s m n c, gr_Rg A s m n c ∧ q * c = p * n) ∧ ∀ s m n c, gr_Rg A s m n c → p * n ≤ q * c
theorem gr_Mn {p q : Int} (h : gr_Mean A p q) (v : Nat) : ¬ gr_NR (gr_H A p q) v := by
  rintro ⟨n, u, m, c, x, g, ⟨y, a, rfl⟩, hx⟩
  obtain ⟨c', g', rfl⟩ := gr_HS p q g
  have h1 := h.2.2 v m (n + 1) (c' + y) ⟨n, u, c', y, g', a, rfl, rfl⟩
  have h2 := gr_ar p q c' y n
  have h3 : p * ((n + 1 : Nat) : Int) = p * ((n : Int) + 1) := by rw [show ((n + 1 : Nat) : Int) = (n : Int) + 1 from by omega]
  omega
theorem gr_M1 {p q : Int} (h : gr_Mean A p q) {v n : Nat} {c : Int} (g : gr_W A n v v c) : p * n ≤ q * c := by
  refine Classical.byContradiction fun hn => ?_
  obtain ⟨y, _, hy⟩ := gr_closed (gr_WH p q g) (by omega)
  exact gr_Mn h y hy
theorem gr_M4 {p q : Int} (h : gr_Mean A p q) {v n : Nat} {c : Int} (g : gr_W A (n + 1) v v c) (hc : q * c = p * ((n + 1 : Nat) : Int)) : ∃ m n' c', gr_Rg A v m n' c' ∧ q * c' = p * n' ∧ m.testBit v = true := by
  obtain ⟨m, n', d, ⟨k, u, d', y, g1, ⟨x, a, rfl⟩, rfl, rfl⟩, h2, h3⟩ := gr_zero (fun y _ => gr_Mn h y) (gr_WH p q g)
  obtain ⟨c', g1', rfl⟩ := gr_HS p q g1
  have h4 : gr_Rg A v m (k + 1) (c' + x) := ⟨k, u, c', x, g1', a, rfl, rfl⟩
  have h5 := h.2.2 _ _ _ _ h4
  have h6 := gr_ar p q c' x k
  have h7 : p * ((k + 1 : Nat) : Int) = p * ((k : Int) + 1) := by rw [show ((k + 1 : Nat) : Int) = (k : Int) + 1 from by omega]
  exact ⟨m, k + 1, c' + x, h4, by omega, h3⟩
/-- a least element of a set of numbers that is bounded below -/
theorem gr_least (P : Int → Prop) (B : Int) (hB : ∀ c, P c → B ≤ c) (h : ∃ c, P c) : ∃ c, P c ∧ ∀ d, P d → c ≤ d := by
  have key : ∀ k : Nat, ∀ c, P c → c - B ≤ k → ∃ c, P c ∧ ∀ d, P d → c ≤ d := by
    intro k
    induction k with
    | zero =>
      intro c hc hk
      refine ⟨c, hc, fun d hd => ?_⟩
      have := hB d hd
      omega
    | succ k ih =>
      intro c hc hk
      by_cases z : ∃ d, P d ∧ d < c
      · obtain ⟨d, hd, hl⟩ := z
        exact ih d hd (by omega)
      · refine ⟨c, hc, fun d hd => ?_⟩
        refine Classical.byContradiction fun hn => z ⟨d, hd, by omega⟩
  obtain ⟨c, hc⟩ := h
  have := hB c hc
  exact key (c - B).toNat c hc (by omega)
/-- Karp, the lower side: every point with a walk of seven arcs -/
theorem gr_K1 (ok : gr_in A) {p q : Int} (h : gr_Mean A p q) {s v : Nat} (hs : s < 7) {c : Int} (g : gr_W A 7 s v c) : ∃ k d, k ≤ 6 ∧ gr_W A k s v d ∧ p * (7 - k) ≤ q * (c - d) := by
  rcases gr_simple (gr_WH p q g) with ⟨y, _, _, hy⟩ | ⟨n', m, c', h1, h2⟩
  · exact absurd hy (gr_Mn h y)
  · have h3 := gr_Sn6 (gr_Hin ok p q) hs h1
    obtain ⟨d, h4, rfl⟩ := gr_HW p q (gr_SW h1)
    refine ⟨n', d, h3, h4, ?_⟩
    rw [Int.mul_sub, Int.mul_sub]
    have e : ((7 : Nat) : Int) = 7 := rfl
    rw [e] at h2
    omega
theorem gr_iter {v n : Nat} (h : gr_W A n v v 0) : ∀ i : Nat, gr_W A (n * i) v v 0 := by
  intro i
  induction i with
  | zero => exact gr_W0 v
  | succ i ih =>
    have := gr_Wapp ih h
    rw [Nat.mul_succ]
    simpa using this
/-- Karp, the upper side: some point on a ring of least mean -/
theorem gr_K2 (ok : gr_ok A) {p q : Int} (h : gr_Mean A p q) : ∃ s v c, s < 7 ∧ v < 7 ∧ gr_W A 7 s v c ∧ ∀ k s' d, gr_W A k s' v d → q * (c - d) ≤ p * (7 - k) := by
  obtain ⟨s, m, n, c, hr, hc⟩ := h.2.1
  have hn1 : 1 ≤ n ∧ s < 7 := by
    obtain ⟨n', u, c', x, g, a, rfl, _⟩ := hr
    exact ⟨by omega, (ok _ _ _ a).2.1⟩
  have z : gr_W (gr_H A p q) n s s 0 := by
    have := gr_WH p q (gr_RgW hr)
    rw [hc, Int.sub_self] at this
    exact this
  have simp6 : ∀ s' v n d, s' < 7 → gr_W (gr_H A p q) n s' v d → ∃ n' d', n' ≤ 6 ∧ gr_W (gr_H A p q) n' s' v d' ∧ d' ≤ d := by
    intro s' v n d hs' g
    rcases gr_simple g with ⟨y, _, _, hy⟩ | ⟨n', m, c', h1, h2⟩
    · exact absurd hy (gr_Mn h y)
    · exact ⟨n', c', gr_Sn6 (gr_Hin (gr_oki ok) p q) hs' h1, gr_SW h1, h2⟩
  have src : ∀ n s' v d, v < 7 → gr_W (gr_H A p q) n s' v d → s' < 7 := by
    intro n
    induction n with
    | zero =>
      intro s' v d hv g
      obtain ⟨rfl, _⟩ := g
      exact hv
    | succ n ih =>
      intro s' v d hv g
      obtain ⟨u, d', y, g, ⟨x, a, _⟩, _⟩ := g
      exact ih s' u d' (ok _ _ _ a).1 g
  obtain ⟨δ, ⟨j, s0, hs0, hj, gδ⟩, hδ⟩ := gr_least (fun d => ∃ j s0, s0 < 7 ∧ j ≤ 6 ∧ gr_W (gr_H A p q) j s0 s d) (-(6 * (20 * q + p.natAbs))) (by
    rintro d ⟨j, s0, hs0, hj, g⟩
    obtain ⟨e, g', rfl⟩ := gr_HW p q g
    have b := gr_Wb ok g'
    have q0 := h.1
    have b1 : q * (-120) ≤ q * e := Int.mul_le_mul_of_nonneg_left (by omega) (by omega)
    have b2 : p * j ≤ 6 * p.natAbs := by
      have b3 : p * j ≤ (p.natAbs : Int) * j := Int.mul_le_mul_of_nonneg_right (by omega) (by omega)
      have b4 : (p.natAbs : Int) * j ≤ (p.natAbs : Int) * 6 := Int.mul_le_mul_of_nonneg_left (by omega) (by omega)
      omega
    omega) ⟨0, 0, s, hn1.2, by omega, gr_W0 s⟩
  have hδ' : ∀ k s' d, gr_W (gr_H A p q) k s' s d → δ ≤ d := by
    intro k s' d g
    have hs' := src _ _ _ _ hn1.2 g
    obtain ⟨n', d', h1, h2, h3⟩ := simp6 _ _ _ _ hs' g
    have := hδ d' ⟨n', s', hs', h1, h2⟩
    omega
  have big : gr_W (gr_H A p q) ((7 - j) + (n * 7 - (7 - j))) s s 0 := by
    have e : (7 - j) + (n * 7 - (7 - j)) = n * 7 := by omega
    rw [e]
    exact gr_iter z 7
  obtain ⟨v, c1, c2, g1, g2, e12⟩ := gr_cut big
  have g7 : gr_W (gr_H A p q) 7 s0 v (δ + c1) := by
    have := gr_Wapp gδ g1
    have e : j + (7 - j) = 7 := by omega
    rw [e] at this
    exact this
  obtain ⟨c', g7', e7⟩ := gr_HW p q g7
  refine ⟨s0, v, c', hs0, gr_Wv (gr_oki ok) hs0 g7', g7', fun k s' d g => ?_⟩
  have h1 := hδ' _ _ _ (gr_Wapp (gr_WH p q g) g2)
  rw [Int.mul_sub, Int.mul_sub]
  have e : ((7 : Nat) : Int) = 7 := rfl
  rw [e] at e7
  omega
theorem gr_ratio {p q p' q' : Int} (h : gr_Mean A p q) (h' : gr_Mean A p' q') : p * q' = p' * q := by
  have key : ∀ p q p' q' : Int, gr_Mean A p q → gr_Mean A p' q' → p' * q ≤ p * q' := by
    intro p q p' q' h h'
    obtain ⟨s, m, n, c, hr, hc⟩ := h.2.1
    have h1 := h'.2.2 _ _ _ _ hr
    have hn : (0 : Int) < n := by
      obtain ⟨n', u, c', x, g, a, rfl, _⟩ := hr
      omega
    have h2 : (p' * n) * q ≤ (q' * c) * q := Int.mul_le_mul_of_nonneg_right h1 (by have := h.1; omega)
    have h3 : (q' * c) * q = (p * q') * n := by
      rw [Int.mul_assoc, Int.mul_comm c q, hc, ← Int.mul_assoc, Int.mul_comm q' p]
    have h4 : (p' * n) * q = (p' * q) * n := by
      rw [Int.mul_assoc, Int.mul_comm (n : Int) q, ← Int.mul_assoc]
    rw [h3, h4] at h2
    exact Int.le_of_mul_le_mul_right h2 hn
  have h1 := key p q p' q' h h'
  have h2 := key p' q' p q h' h
  omega
end
end
section
def gr_j (a b : Int) : Int := if a = 1000000 ∨ b = 1000000 then 1000000 else if a = -1000000 ∨ b = -1000000 then -1000000 else a + b
def gr_rg (z : Int) : Prop := z = 1000000 ∨ z = -1000000 ∨ (-300000 ≤ z ∧ z ≤ 300000)
theorem gr_j_F {x : Int} : gr_j 1000000 x = 1000000 := if_pos (Or.inl rfl)
theorem gr_j_F' {x : Int} : gr_j x 1000000 = 1000000 := if_pos (Or.inr rfl)
theorem gr_j_D {x : Int} (h : x ≠ 1000000) : gr_j (-1000000) x = -1000000 := by
  unfold gr_j
  rw [if_neg (by omega), if_pos (Or.inl rfl)]
theorem gr_j_D' {x : Int} (h : x ≠ 1000000) : gr_j x (-1000000) = -1000000 := by
  unfold gr_j
  rw [if_neg (by omega), if_pos (Or.inr rfl)]
theorem gr_j_n {a x : Int} (h1 : a ≠ 1000000) (h2 : a ≠ -1000000) (h3 : x ≠ 1000000) (h4 : x ≠ -1000000) : gr_j a x = a + x := by
  unfold gr_j
  rw [if_neg (by omega), if_neg (by omega)]
/-- the three ways of a joined pair -/
theorem gr_jc {a x : Int} : (gr_j a x = 1000000 ∧ (a = 1000000 ∨ x = 1000000)) ∨ (gr_j a x = -1000000 ∧ a ≠ 1000000 ∧ x ≠ 1000000 ∧ (a = -1000000 ∨ x = -1000000)) ∨ (gr_j a x = a + x ∧ a ≠ 1000000 ∧ x ≠ 1000000 ∧ a ≠ -1000000 ∧ x ≠ -1000000) := by
  unfold gr_j
  by_cases h1 : a = 1000000 ∨ x = 1000000
  · exact Or.inl ⟨if_pos h1, h1⟩
  · by_cases h2 : a = -1000000 ∨ x = -1000000
    · refine Or.inr (Or.inl ⟨?_, by omega, by omega, h2⟩)
      rw [if_neg h1, if_pos h2]
    · refine Or.inr (Or.inr ⟨?_, by omega, by omega, by omega, by omega⟩)
      rw [if_neg h1, if_neg h2]
section
variable {A : Nat → Nat → Int → Prop} {Q : Nat → Int → Prop}
theorem gr_Crg (ok : gr_ok A) {b s v : Nat} {z : Int} (hb : b ≤ 10000) (h : gr_C A b s v z) : gr_rg z ∧ (z ≠ 1000000 → z ≠ -1000000 → -300000 ≤ z ∧ z ≤ 300000) := by
  rcases h with e | ⟨e, _⟩ | ⟨n, hn, h⟩
  · exact ⟨Or.inl e, by omega⟩
  · exact ⟨Or.inr (Or.inl e), by omega⟩
  · have := gr_Wb ok h
    exact ⟨Or.inr (Or.inr (by omega)), by omega⟩
theorem gr_Cm {b b' s v : Nat} {z : Int} (hb : b ≤ b') (h : gr_C A b s v z) : gr_C A b' s v z := by
  rcases h with e | h | ⟨n, hn, h⟩
  · exact Or.inl e
  · exact Or.inr (Or.inl h)
  · exact Or.inr (Or.inr ⟨n, by omega, h⟩)
theorem gr_CL {b s v : Nat} (h : gr_L A s v) : gr_C A b s v (-1000000) := Or.inr (Or.inl ⟨rfl, h⟩)
theorem gr_CR {b s v : Nat} {z : Int} (h : gr_C A b s v z) (hz : z ≠ 1000000) : gr_R A s v := by
  rcases h with e | ⟨_, h⟩ | ⟨n, hn, h⟩
  · exact absurd e hz
  · exact gr_L_R h
  · exact ⟨n, z, h⟩
theorem gr_jC (ok : gr_ok A) {b s u v : Nat} {z x : Int} (hb : b ≤ 10000) (h : gr_C A b s u z) (a : A u v x) : gr_C A (b + 1) s v (gr_j z x) := by
  have hx := ok _ _ _ a
  rcases h with e | ⟨e, h⟩ | ⟨n, hn, h⟩
  · subst e
    exact Or.inl gr_j_F
  · subst e
    exact Or.inr (Or.inl ⟨gr_j_D (by omega), gr_Ls h a⟩)
  · have hz := gr_Wb ok h
    rw [gr_j_n (by omega) (by omega) (by omega) (by omega)]
    exact Or.inr (Or.inr ⟨n + 1, by omega, gr_Ws h a⟩)
theorem gr_jj (ok : gr_ok A) {b s u v : Nat} {z y : Int} (hb : b ≤ 10000) (h : gr_C A b s u z) (g : gr_C A b u v y) : gr_C A (b + b) s v (gr_j z y) := by
  rcases h with e | ⟨e, h⟩ | ⟨n, hn, h⟩
  · subst e
    exact Or.inl gr_j_F
  · subst e
    rcases g with e | g
    · subst e
      exact Or.inl gr_j_F'
    · have hy : y ≠ 1000000 := by
        rcases g with ⟨e, _⟩ | ⟨m, hm, g⟩
        · omega
        · have := gr_Wb ok g
          omega
      exact Or.inr (Or.inl ⟨gr_j_D hy, gr_LR h (gr_CR (Or.inr g) hy)⟩)
  · have hz := gr_Wb ok h
    rcases g with e | ⟨e, g⟩ | ⟨m, hm, g⟩
    · subst e
      exact Or.inl gr_j_F'
    · subst e
      exact Or.inr (Or.inl ⟨gr_j_D' (by omega), gr_RL ⟨n, z, h⟩ g⟩)
    · have hy := gr_Wb ok g
      rw [gr_j_n (by omega) (by omega) (by omega) (by omega)]
      exact Or.inr (Or.inr ⟨n + m, by omega, gr_Wapp h g⟩)
theorem gr_jm {a a' x : Int} (ha : gr_rg a) (ha' : gr_rg a') (h : a ≤ a') (hx : -20 ≤ x ∧ x ≤ 20) : gr_j a x ≤ gr_j a' x := by
  have h1 := @gr_jc a x
  have h2 := @gr_jc a' x
  unfold gr_rg at ha ha'
  omega
/-- rounds over all arcs, of one row -/
theorem gr_rowD (ok : gr_ok A) {s r : Nat} (hr5 : r ≤ 5) {z z' : Nat → Int} (hm : ∀ v, v < 7 → z' v ≤ z v) (hr : ∀ u v x, A u v x → z' v ≤ gr_j (z u) x) (hs : s < 7) (h : ∀ n v c, n ≤ r → gr_W A n s v c → z v ≤ c) : ∀ n v c, n ≤ r + 1 → gr_W A n s v c → z' v ≤ c := by
  intro n v c hn g
  by_cases e : n ≤ r
  · have h1 := h n v c e g
    have h2 := hm v (gr_Wv (gr_oki ok) hs g)
    omega
  · have e : n = r + 1 := by omega
    subst e
    obtain ⟨u, c', x, g, a, rfl⟩ := g
    have h1 := h r u c' (Nat.le_refl r) g
    have h2 := hr u v x a
    have h3 := ok _ _ _ a
    have h4 := gr_Wb ok g
    have h5 := @gr_jc (z u) x
    omega
theorem gr_rowL (ok : gr_ok A) {s t : Nat} {z z' : Nat → Int} (hs : s < 7) (hm : ∀ v, v < 7 → z' v ≤ z v) (hr : ∀ u v x, A u v x → z' v ≤ gr_j (z u) x) (hq : ∀ v, v < 7 → z' v = z v ∨ z' v = -1000000) (h6 : ∀ n v c, n ≤ 6 → gr_W A n s v c → z v ≤ c) (hl : gr_L A s t) : ∃ v n c, z' v = -1000000 ∧ n ≤ 6 ∧ gr_W A n v t c := by
  refine Classical.byContradiction fun hn => ?_
  have nd : ∀ v, gr_R A s v → gr_R A v t → z' v = z v ∧ z v ≠ -1000000 := by
    intro v h1 h2
    obtain ⟨n1, c1, g1⟩ := h1
    have hv := gr_Wv (gr_oki ok) hs g1
    obtain ⟨n, c, h3, h4⟩ := gr_R6 (gr_oki ok) hv h2
    have h5 : z' v ≠ -1000000 := fun e => hn ⟨v, n, c, e, h3, h4⟩
    rcases hq v hv with e | e
    · exact ⟨e, by omega⟩
    · exact absurd e h5
  have key : ∀ n v c, gr_W A n s v c → gr_R A v t → z v ≤ c := by
    intro n
    induction n with
    | zero =>
      intro v c g _
      exact h6 0 v c (by omega) g
    | succ n ih =>
      intro v c g hR
      have h0 := nd v ⟨_, _, g⟩ hR
      obtain ⟨u, c', x, g, a, rfl⟩ := g
      have hR' := gr_Rt (gr_R1 a) hR
      have h1 := ih u c' g hR'
      have h2 := hr u v x a
      have h3 := ok _ _ _ a
      have h4 := nd u ⟨_, _, g⟩ hR'
      obtain ⟨k, d, hk, gd⟩ := gr_R6 (gr_oki ok) hs ⟨_, _, g⟩
      have h5 := h6 k u d hk gd
      have h6 := gr_Wb ok gd
      have h7 := @gr_jc (z u) x
      omega
  obtain ⟨n, c, g, hc⟩ := hl (z t)
  have := key n t c g (gr_Rr t)
  omega
theorem gr_rowS (ok : gr_ok A) {t k : Nat} {z z' : Nat → Int} (ht : t < 7) (hg : ∀ v, v < 7 → gr_rg (z' v)) (hm : ∀ v, v < 7 → z' v ≤ z v) (hr : ∀ u v x, A u v x → z' v ≤ gr_j (z u) x) (h : ∃ v n c, z v = -1000000 ∧ n ≤ k + 1 ∧ gr_W A n v t c) : ∃ v n c, z' v = -1000000 ∧ n ≤ k ∧ gr_W A n v t c := by
  obtain ⟨v, n, c, hz, hn, g⟩ := h
  cases n with
  | zero =>
    obtain ⟨rfl, rfl⟩ := g
    have h1 := hm v ht
    have h2 := hg v ht
    unfold gr_rg at h2
    exact ⟨v, 0, 0, by omega, by omega, gr_W0 v⟩
  | succ n =>
    have e : n + 1 = 1 + n := by omega
    rw [e] at g
    obtain ⟨y, c1, c2, ⟨u, c', x, ⟨rfl, _⟩, a, _⟩, g2, _⟩ := gr_cut g
    have h1 := hr _ _ _ a
    have h2 := ok _ _ _ a
    have h3 := hg y h2.2.1
    rw [hz, gr_j_D (by omega)] at h1
    unfold gr_rg at h3
    exact ⟨y, n, c2, by omega, by omega, g2⟩
/-- engine 3: what a cell and its count of arcs mean -/
def gr_I (A : Nat → Nat → Int → Prop) (s : Nat) (C : Nat → Int) (v : Nat) (z k : Int) : Prop := z = 1000000 ∨ (z = -1000000 ∧ gr_L A s v ∧ 7 ≤ k) ∨ ∃ n : Nat, n ≤ 6 ∧ k = n ∧ gr_W A n s v z ∧ (gr_L A s v ∨ ∃ m, gr_S A (fun y d => C y ≤ d) s n v m z)
theorem gr_Im {s v : Nat} {C C' : Nat → Int} {z k : Int} (hC : ∀ y, C' y ≤ C y) (h : gr_I A s C v z k) : gr_I A s C' v z k := by
  rcases h with e | h | ⟨n, h1, h2, h3, h4⟩
  · exact Or.inl e
  · exact Or.inr (Or.inl h)
  · refine Or.inr (Or.inr ⟨n, h1, h2, h3, ?_⟩)
    rcases h4 with h4 | ⟨m, h4⟩
    · exact Or.inl h4
    · exact Or.inr ⟨m, gr_SQ (fun y d hd => Int.le_trans (hC y) hd) h4⟩
theorem gr_IC {s v : Nat} {C : Nat → Int} {z k : Int} (h : gr_I A s C v z k) : gr_C A 6 s v z := by
  rcases h with e | h | ⟨n, h1, h2, h3, h4⟩
  · exact Or.inl e
  · exact Or.inr (Or.inl ⟨h.1, h.2.1⟩)
  · exact Or.inr (Or.inr ⟨n, h1, h3⟩)
theorem gr_sink (ok : gr_ok A) {s p y : Nat} {C : Nat → Int} {k x : Int} (hs : s < 7) (hI : gr_I A s C p (C p) k) (a : A p y x) (hf : gr_j (C p) x < C y) (hg : gr_rg (C y)) (C' : Nat → Int) (hC : ∀ i, C' i ≤ C i) (hy : C' y = if k + 1 < 7 then gr_j (C p) x else -1000000) : gr_I A s C' y (C' y) (k + 1) := by
  have hx := ok _ _ _ a
  rcases hI with e | ⟨e, h1, h2⟩ | ⟨n, h1, h2, h3, h4⟩
  · rw [e, gr_j_F] at hf
    unfold gr_rg at hg
    omega
  · rw [if_neg (by omega)] at hy
    exact Or.inr (Or.inl ⟨hy, gr_Ls h1 a, by omega⟩)
  · have hz := gr_Wb ok h3
    have ej : gr_j (C p) x = C p + x := gr_j_n (by omega) (by omega) (by omega) (by omega)
    rw [ej] at hf hy
    have key : gr_L A s y ∨ ∃ m m', gr_S A (fun y d => C y ≤ d) s n p m (C p) ∧ m.testBit y = false ∧ m' = m ||| 2 ^ y := by
      rcases h4 with h4 | ⟨m, h4⟩
      · exact Or.inl (gr_Ls h4 a)
      · cases b : m.testBit y with
        | false => exact Or.inr ⟨m, _, h4, b, rfl⟩
        | true =>
          obtain ⟨n1, m1, c1, n2, m2, c2, g1, g2, e, _⟩ := gr_split h4 b
          have q := gr_Sq g1
          have q : C y ≤ c1 := q
          exact Or.inl (gr_RL ⟨_, _, gr_SW g1⟩ (gr_Lneg (gr_Ws (gr_SW g2) a) (by omega)))
    by_cases h7 : k + 1 < 7
    · rw [if_pos h7] at hy
      refine Or.inr (Or.inr ⟨n + 1, by omega, by omega, ?_, ?_⟩)
      · rw [hy]
        exact gr_Ws h3 a
      · rcases key with key | ⟨m, m', g, b, e⟩
        · exact Or.inl key
        · refine Or.inr ⟨m', p, m, C p, x, gr_SQ (fun i d hd => Int.le_trans (hC i) hd) g, a, hy, b, e, ?_⟩
          show C' y ≤ C' y
          omega
    · rw [if_neg h7] at hy
      refine Or.inr (Or.inl ⟨hy, ?_, by omega⟩)
      rcases key with key | ⟨m, m', g, b, e⟩
      · exact key
      · have g7 : gr_S A gr_T s (n + 1) y m' (C p + x) := ⟨p, m, C p, x, gr_ST g, a, rfl, b, e, trivial⟩
        have := gr_Sn6 (gr_oki ok) hs g7
        omega
/-- at rest: every cell is below each walk -/
theorem gr_rest (ok : gr_ok A) {s : Nat} {C : Nat → Int} (hs : s < 7) (h0 : C s ≤ 0) (hg : ∀ v, v < 7 → gr_rg (C v)) (h : ∀ u v x, A u v x → C u ≠ 1000000 → C v ≤ gr_j (C u) x) : ∀ n v c, gr_W A n s v c → C v = -1000000 ∨ (C v ≤ c ∧ C v ≠ 1000000) := by
  intro n
  induction n with
  | zero =>
    intro v c g
    obtain ⟨rfl, rfl⟩ := g
    exact Or.inr ⟨h0, by omega⟩
  | succ n ih =>
    intro v c g
    obtain ⟨u, c', x, g, a, rfl⟩ := g
    have h1 := ok _ _ _ a
    have h2 := hg u h1.1
    have h3 := hg v h1.2.1
    have h5 := @gr_jc (C u) x
    unfold gr_rg at h2 h3
    rcases ih u c' g with e | ⟨e, e'⟩
    · have h4 := h u v x a (by omega)
      omega
    · have h4 := h u v x a e'
      omega
end
end
section
/-- z is the least of P, or N when there is none -/
def gr_mn (N : Int) (P : Int → Prop) (z : Int) : Prop := (z = N ∧ ∀ c, ¬ P c) ∨ (z ≠ N ∧ P z ∧ ∀ c, P c → z ≤ c)
theorem gr_mnC {N z : Int} {P P' : Int → Prop} (e : ∀ c, P' c ↔ P c) (h : gr_mn N P z) : gr_mn N P' z := by
  rcases h with ⟨h1, h2⟩ | ⟨h1, h2, h3⟩
  · exact Or.inl ⟨h1, fun c hc => h2 c ((e c).mp hc)⟩
  · exact Or.inr ⟨h1, (e z).mpr h2, fun c hc => h3 c ((e c).mp hc)⟩
theorem gr_mnU {N N' z z' : Int} {P : Int → Prop} (h : gr_mn N P z) (h' : gr_mn N' P z') : (z = N ∧ z' = N') ∨ (z ≠ N ∧ z' ≠ N' ∧ z = z') := by
  rcases h with ⟨h1, h2⟩ | ⟨h1, h2, h3⟩ <;> rcases h' with ⟨g1, g2⟩ | ⟨g1, g2, g3⟩
  · exact Or.inl ⟨h1, g1⟩
  · exact absurd g2 (h2 _)
  · exact absurd h2 (g2 _)
  · have := h3 _ g2
    have := g3 _ h2
    exact Or.inr ⟨h1, g1, by omega⟩
theorem gr_mnF {N : Int} {P : Int → Prop} (h : ∀ c, ¬ P c) : gr_mn N P N := Or.inl ⟨rfl, h⟩
/-- one candidate set more: taken or left -/
theorem gr_mnT {N z y : Int} {P P2 P' : Int → Prop} (e : ∀ c, P' c ↔ P c ∨ P2 c) (h : gr_mn N P z) (g : gr_mn N P2 y) (hy : y ≠ N) (hl : z = N ∨ y ≤ z) : gr_mn N P' y := by
  rcases g with ⟨g1, _⟩ | ⟨g1, g2, g3⟩
  · exact absurd g1 hy
  · refine Or.inr ⟨hy, (e y).mpr (Or.inr g2), fun c hc => ?_⟩
    rcases (e c).mp hc with hc | hc
    · rcases h with ⟨h1, h2⟩ | ⟨h1, h2, h3⟩
      · exact absurd hc (h2 c)
      · have := h3 c hc
        omega
    · exact g3 c hc
theorem gr_mnK {N z y : Int} {P P2 P' : Int → Prop} (e : ∀ c, P' c ↔ P c ∨ P2 c) (h : gr_mn N P z) (g : gr_mn N P2 y) (hl : y = N ∨ (z ≠ N ∧ z ≤ y)) : gr_mn N P' z := by
  rcases h with ⟨h1, h2⟩ | ⟨h1, h2, h3⟩
  · rcases hl with hl | hl
    · rcases g with ⟨g1, g2⟩ | ⟨g1, g2, g3⟩
      · refine Or.inl ⟨h1, fun c hc => ?_⟩
        rcases (e c).mp hc with hc | hc
        · exact h2 c hc
        · exact g2 c hc
      · exact absurd hl g1
    · exact absurd h1 hl.1
  · refine Or.inr ⟨h1, (e z).mpr (Or.inl h2), fun c hc => ?_⟩
    rcases (e c).mp hc with hc | hc
    · exact h3 c hc
    · rcases g with ⟨g1, g2⟩ | ⟨g1, g2, g3⟩
      · exact absurd hc (g2 c)
      · have := g3 c hc
        omega
theorem gr_mnS {N z x : Int} {P : Int → Prop} (h : gr_mn N P z) (hz : z ≠ N) (hx : z + x ≠ N) : gr_mn N (fun c => ∃ d, P d ∧ c = d + x) (z + x) := by
  rcases h with ⟨h1, h2⟩ | ⟨h1, h2, h3⟩
  · exact absurd h1 hz
  · refine Or.inr ⟨hx, ⟨z, h2, rfl⟩, ?_⟩
    rintro c ⟨d, hd, rfl⟩
    have := h3 d hd
    omega
theorem gr_mnN {N : Int} {P P2 P' : Int → Prop} {z : Int} (e : ∀ c, P' c ↔ P c ∨ P2 c) (h : gr_mn N P z) (g : ∀ c, ¬ P2 c) : gr_mn N P' z := by
  refine gr_mnC (fun c => ?_) h
  rw [e c]
  exact ⟨fun h => h.elim id (fun h => absurd h (g c)), Or.inl⟩
section
variable {A : Nat → Nat → Int → Prop} {K : Nat → Nat → Nat → Int → Prop} {S : Nat → Prop}
def gr_V (A : Nat → Nat → Int → Prop) (S : Nat → Prop) (n v : Nat) (c : Int) : Prop := ∃ s, S s ∧ gr_W A n s v c
/-- the arc relation of twenty numbered arcs -/
def gr_AK (K : Nat → Nat → Nat → Int → Prop) (u v : Nat) (x : Int) : Prop := ∃ j, j < 20 ∧ K j u v x
theorem gr_Vs {n v : Nat} {c : Int} : gr_V A S (n + 1) v c ↔ ∃ u c' x, gr_V A S n u c' ∧ A u v x ∧ c = c' + x := by
  constructor
  · rintro ⟨s, hs, u, c', x, h, a, e⟩
    exact ⟨u, c', x, ⟨s, hs, h⟩, a, e⟩
  · rintro ⟨u, c', x, ⟨s, hs, h⟩, a, e⟩
    exact ⟨s, hs, u, c', x, h, a, e⟩
theorem gr_V1 {s n v : Nat} {c : Int} : gr_V A (fun s' => s' = s) n v c ↔ gr_W A n s v c := by
  constructor
  · rintro ⟨s', rfl, h⟩
    exact h
  · intro h
    exact ⟨s, rfl, h⟩
/-- level l at v when c arc uses have been made, twenty a level -/
def gr_PL (K : Nat → Nat → Nat → Int → Prop) (S : Nat → Prop) (c : Nat) : Nat → Nat → Int → Prop
  | 0, v, cc => S v ∧ cc = 0
  | l + 1, v, cc => ∃ j u x, j < 20 ∧ 20 * l + j < c ∧ K j u v x ∧ ∃ d, gr_V (gr_AK K) S l u d ∧ cc = d + x
theorem gr_PLf {c l v : Nat} {cc : Int} (h : 20 * l ≤ c) : gr_PL K S c l v cc ↔ gr_V (gr_AK K) S l v cc := by
  cases l with
  | zero =>
    constructor
    · rintro ⟨h1, h2⟩
      exact ⟨v, h1, rfl, h2⟩
    · rintro ⟨s, hs, rfl, h2⟩
      exact ⟨hs, h2⟩
  | succ l =>
    rw [gr_Vs]
    constructor
    · rintro ⟨j, u, x, h1, h2, h3, d, h4, h5⟩
      exact ⟨u, d, x, h4, ⟨j, h1, h3⟩, h5⟩
    · rintro ⟨u, d, x, h4, ⟨j, h1, h3⟩, h5⟩
      exact ⟨j, u, x, h1, by omega, h3, d, h4, h5⟩
theorem gr_PL0 {c l v : Nat} {cc : Int} (h : c ≤ 20 * l) : ¬ gr_PL K S c (l + 1) v cc := by
  rintro ⟨j, u, x, h1, h2, _⟩
  omega
theorem gr_PLs {i j l v : Nat} {cc : Int} (hj : j < 20) : gr_PL K S (20 * i + j + 1) l v cc ↔ gr_PL K S (20 * i + j) l v cc ∨ (l = i + 1 ∧ ∃ u x, K j u v x ∧ ∃ d, gr_V (gr_AK K) S i u d ∧ cc = d + x) := by
  cases l with
  | zero =>
    constructor
    · intro h
      exact Or.inl h
    · rintro (h | ⟨h, _⟩)
      · exact h
      · omega
  | succ l =>
    constructor
    · rintro ⟨j', u, x, h1, h2, h3, h4⟩
      by_cases e : 20 * l + j' < 20 * i + j
      · exact Or.inl ⟨j', u, x, h1, e, h3, h4⟩
      · have e1 : l = i := by omega
        have e2 : j' = j := by omega
        subst e1 e2
        exact Or.inr ⟨rfl, u, x, h3, h4⟩
    · rintro (⟨j', u, x, h1, h2, h3, h4⟩ | ⟨h, u, x, h3, h4⟩)
      · exact ⟨j', u, x, h1, by omega, h3, h4⟩
      · have e : l = i := by omega
        subst e
        exact ⟨j, u, x, hj, by omega, h3, h4⟩
/-- a step of the levels at an arc that isn't there -/
theorem gr_lev0 {N : Int} {i j : Nat} (hj : j < 20) (hK : ∀ u v x, ¬ K j u v x) {z : Nat → Nat → Int} (h : ∀ l v, l < 8 → v < 7 → gr_mn N (gr_PL K S (20 * i + j) l v) (z l v)) : ∀ l v, l < 8 → v < 7 → gr_mn N (gr_PL K S (20 * i + j + 1) l v) (z l v) := by
  intro l v hl hv
  refine gr_mnN (fun c => gr_PLs hj) (h l v hl hv) ?_
  rintro c ⟨_, u, x, hk, _⟩
  exact hK u v x hk
/-- and at one that is there -/
theorem gr_lev1 {N : Int} {i j u v : Nat} {x : Int} (hj : j < 20) (hi : i < 7) (hK : ∀ u' v' x', K j u' v' x' ↔ u' = u ∧ v' = v ∧ x' = x) (hu : u < 7) (hv : v < 7) {z z' : Nat → Nat → Int} (h : ∀ l v, l < 8 → v < 7 → gr_mn N (gr_PL K S (20 * i + j) l v) (z l v)) (ho : ∀ l v', l < 8 → v' < 7 → (l ≠ i + 1 ∨ v' ≠ v) → z' l v' = z l v') (hN : z i u ≠ N → z i u + x ≠ N) (hz : (z i u ≠ N ∧ (z (i + 1) v = N ∨ z i u + x < z (i + 1) v) ∧ z' (i + 1) v = z i u + x) ∨ ((z i u = N ∨ (z (i + 1) v ≠ N ∧ z (i + 1) v ≤ z i u + x)) ∧ z' (i + 1) v = z (i + 1) v)) : ∀ l v, l < 8 → v < 7 → gr_mn N (gr_PL K S (20 * i + j + 1) l v) (z' l v) := by
  intro l y hl hy
  have hV : gr_mn N (gr_V (gr_AK K) S i u) (z i u) := gr_mnC (fun c => (gr_PLf (by omega)).symm) (h i u (by omega) hu)
  by_cases e : l = i + 1 ∧ y = v
  · obtain ⟨rfl, rfl⟩ := e
    have he : ∀ c, gr_PL K S (20 * i + j + 1) (i + 1) y c ↔ gr_PL K S (20 * i + j) (i + 1) y c ∨ (∃ d, gr_V (gr_AK K) S i u d ∧ c = d + x) := by
      intro c
      rw [gr_PLs hj]
      constructor
      · rintro (h1 | ⟨_, u', x', hk, h2⟩)
        · exact Or.inl h1
        · obtain ⟨rfl, _, rfl⟩ := (hK _ _ _).mp hk
          exact Or.inr h2
      · rintro (h1 | h2)
        · exact Or.inl h1
        · exact Or.inr ⟨rfl, u, x, (hK _ _ _).mpr ⟨rfl, rfl, rfl⟩, h2⟩
    have h0 := h (i + 1) y hl hy
    rcases hz with ⟨h1, h2, h3⟩ | ⟨h1, h3⟩
    · rw [h3]
      exact gr_mnT he h0 (gr_mnS hV h1 (hN h1)) (hN h1) (h2.imp id (fun h => by omega))
    · rw [h3]
      by_cases hn : z i u = N
      · refine gr_mnN he h0 ?_
        rintro c ⟨d, hd, _⟩
        rcases hV with ⟨_, g⟩ | ⟨g, _⟩
        · exact g d hd
        · exact g hn
      · refine gr_mnK he h0 (gr_mnS hV hn (hN hn)) (Or.inr ?_)
        rcases h1 with h1 | h1
        · exact absurd h1 hn
        · exact h1
  · have hne : l ≠ i + 1 ∨ y ≠ v := by omega
    rw [ho l y hl hy hne]
    refine gr_mnN (fun c => gr_PLs hj) (h l y hl hy) ?_
    rintro c ⟨hl', u', x', hk, _⟩
    have := (hK _ _ _).mp hk
    omega
/-- values of a level -/
theorem gr_Vb (ok : gr_ok A) {n v : Nat} {c : Int} (h : gr_V A S n v c) : -20 * (n : Int) ≤ c ∧ c ≤ 20 * (n : Int) := by
  obtain ⟨s, _, h⟩ := h
  exact gr_Wb ok h
theorem gr_lvr {N : Int} (ok : gr_ok (gr_AK K)) {c l v : Nat} {z : Int} (hl : l < 8) (h : gr_mn N (gr_PL K S c l v) z) : z = N ∨ (z ≠ N ∧ -140 ≤ z ∧ z ≤ 140) := by
  rcases h with ⟨h1, _⟩ | ⟨h1, h2, _⟩
  · exact Or.inl h1
  · refine Or.inr ⟨h1, ?_⟩
    have h3 : gr_V (gr_AK K) S l v z := by
      cases l with
      | zero => exact (gr_PLf (by omega)).mp h2
      | succ l =>
        obtain ⟨j, u, x, g1, g2, g3, d, g4, g5⟩ := h2
        exact gr_Vs.mpr ⟨u, d, x, g4, ⟨j, g1, g3⟩, g5⟩
    have := gr_Vb ok h3
    omega
end
end
section
/-! rows of kit/rows/PURE-ROWS.to-paste, then numbers of this claim -/
theorem pk_us {f : Nat → Int32} {k : Nat} {x : Int32} : upd f k x k = x := if_pos rfl
theorem pk_un {f : Nat → Int32} {k j : Nat} {x : Int32} (h : j ≠ k) : upd f k x j = f j := if_neg h
theorem pk_sub {a b : Nat} (h : b ≤ a) : nI a - nI b = nI (a - b) := by
  obtain ⟨c, rfl⟩ : ∃ c, a = c + b := ⟨a - b, by omega⟩
  rw [← nI_add, Int32.add_sub_cancel, Nat.add_sub_cancel]
theorem pk_m1 (n : Nat) : nI (n + 1) + (-1) = nI n := by
  rw [← nI_1, Int32.add_assoc, show (1 : Int32) + (-1) = 0 from rfl, Int32.add_zero]
theorem pk_mul (a b : Nat) : nI a * nI b = nI (a * b) := (Int32.ofNat_mul a b).symm
theorem pk_div {a d : Nat} (ha : a < 2 ^ 31) (h0 : 0 < d) (hd : d < 2 ^ 31) : nI a / nI d = nI (a / d) := by
  apply Int32.toInt_inj.mp
  rw [lg_idiv_nonneg (by rw [nI_toInt ha]; omega) (by rw [nI_toInt hd]; omega), nI_toInt ha, nI_toInt hd, nI_toInt (Nat.lt_of_le_of_lt (Nat.div_le_self a d) ha)]
  first | rfl | exact (Int.natCast_ediv _ _).symm
theorem pk_rem {a d : Nat} (ha : a < 2 ^ 31) (h0 : 0 < d) (hd : d < 2 ^ 31) : nI a - nI a / nI d * nI d = nI (a % d) := by
  rw [pk_div ha h0 hd, pk_mul, pk_sub (Nat.div_mul_le_self a d)]
  exact congrArg nI (by have := Nat.div_add_mod' a d; omega)
theorem pk_sub_toInt {a b : Nat} (ha : a < 2 ^ 30) (hb : b < 2 ^ 30) : (nI a - nI b).toInt = (a : Int) - b := by
  rw [Int32.toInt_sub, nI_toInt (by omega), nI_toInt (by omega)]
  exact Int.bmod_eq_of_le (by omega) (by omega)
theorem pk_sneg {a b : Nat} (hb : b < 2 ^ 30) (h : a < b) : nI a - nI b < 0 := by
  rw [Int32.lt_iff_toInt_lt, pk_sub_toInt (by omega) hb, show (0 : Int32).toInt = 0 from by decide]
  omega
theorem pk_ix (x : Int32) {n : Nat} (hn : n < 2 ^ 31) : x < 0 ∨ nI n ≤ x ∨ ∃ j : Nat, j < n ∧ x = nI j := by
  by_cases h : x < 0
  · exact Or.inl h
  · obtain ⟨j, hj, rfl⟩ := nI_of h
    by_cases h2 : j < n
    · exact Or.inr (Or.inr ⟨j, h2, rfl⟩)
    · exact Or.inr (Or.inl (nI_le (by omega) hj))
theorem pk_le {x y : Int32} {A B : Prop} (a b : Nat) (f : a ≤ b → A) (g : b < a → B) (hx : x = nI a := by rfl) (hy : y = nI b := by rfl) (ha : a < 2 ^ 31 := by omega) (hb : b < 2 ^ 31 := by omega) : (x ≤ y → A) ∧ (¬ x ≤ y → B) := by
  subst hx hy
  rw [nI_leI ha hb]
  exact ⟨f, fun z => g (by omega)⟩
theorem pk_lt {x y : Int32} {A B : Prop} (a b : Nat) (f : a < b → A) (g : b ≤ a → B) (hx : x = nI a := by rfl) (hy : y = nI b := by rfl) (ha : a < 2 ^ 31 := by omega) (hb : b < 2 ^ 31 := by omega) : (x < y → A) ∧ (¬ x < y → B) := by
  subst hx hy
  rw [nI_ltI ha hb]
  exact ⟨f, fun z => g (by omega)⟩
theorem pk_eq {x y : Int32} {A B : Prop} (a b : Nat) (f : a = b → A) (g : a ≠ b → B) (hx : x = nI a := by rfl) (hy : y = nI b := by rfl) (ha : a < 2 ^ 31 := by omega) (hb : b < 2 ^ 31 := by omega) : (x = y → A) ∧ (¬ x = y → B) := by
  subst hx hy
  rw [nI_eq ha hb]
  exact ⟨f, g⟩
theorem pk_in {x : Int32} (n N : Nat) (h : n < N) (hx : x = nI n := by rfl) (hN : N < 2 ^ 31 := by omega) : vp_in x N := by
  subst hx
  exact vp_in_nI h hN
theorem pk_cl {x : Int32} (n : Nat) (hx : x = nI n := by rfl) (h : n < 2 ^ 31 := by omega) : x.toNatClampNeg = n := by
  subst hx
  exact nI_clamp h
theorem pk_tn {n : Nat} (h : n < 2 ^ 32) : (nI n).toBitVec.toNat = n := Nat.mod_eq_of_lt h
theorem pk_and (x : Int32) {m : Int32} (k : Nat) (hm : m.toBitVec.toNat = 2 ^ k - 1) : x &&& m = nI (x.toBitVec.toNat % 2 ^ k) := by
  apply Int32.toBitVec_inj.mp
  apply BitVec.eq_of_toNat_eq
  rw [Int32.toBitVec_and, BitVec.toNat_and, hm, Nat.and_two_pow_sub_one_eq_mod]
  show _ = (BitVec.ofNat 32 _).toNat
  rw [BitVec.toNat_ofNat]
  exact (Nat.mod_eq_of_lt (Nat.lt_of_le_of_lt (Nat.mod_le _ _) x.toBitVec.isLt)).symm
theorem pk_andN {n : Nat} (h : n < 2 ^ 32) {m : Int32} (k : Nat) (hm : m.toBitVec.toNat = 2 ^ k - 1) : nI n &&& m = nI (n % 2 ^ k) := by
  rw [pk_and _ k hm, pk_tn h]
theorem pk_andE (x : Int32) {m : Int32} (k : Nat) (hm : m.toBitVec.toNat = 2 ^ k - 1) : ∃ j : Nat, j < 2 ^ k ∧ x &&& m = nI j := ⟨_, Nat.mod_lt _ (Nat.two_pow_pos k), pk_and x k hm⟩
theorem pk_andIn (x : Int32) {m : Int32} (k : Nat) (hm : m.toBitVec.toNat = 2 ^ k - 1) (hk : k ≤ 30) : vp_in (x &&& m) (2 ^ k) := by
  obtain ⟨j, hj, e⟩ := pk_andE x k hm
  rw [e]
  exact vp_in_nI hj (Nat.lt_of_le_of_lt (Nat.pow_le_pow_right (by decide) hk) (by decide))
theorem pk_shl (a s : Int32) (k : Nat) (hs : (s.toBitVec.smod 32).toNat = k) : (a <<< s).toBitVec.toNat = a.toBitVec.toNat * 2 ^ k % 2 ^ 32 := by
  show (a.toBitVec <<< (s.toBitVec.smod 32).toNat).toNat = _
  rw [hs, BitVec.toNat_shiftLeft, Nat.shiftLeft_eq]
theorem pk_shlN {n : Nat} (s : Int32) (k : Nat) (hs : (s.toBitVec.smod 32).toNat = k) (h : n * 2 ^ k < 2 ^ 32) : nI n <<< s = nI (n * 2 ^ k) := by
  apply Int32.toBitVec_inj.mp
  apply BitVec.eq_of_toNat_eq
  have hn : n < 2 ^ 32 := Nat.lt_of_le_of_lt (Nat.le_mul_of_pos_right n (Nat.two_pow_pos k)) h
  rw [pk_shl _ _ k hs, pk_tn hn, pk_tn h, Nat.mod_eq_of_lt h]
theorem pk_shr (a s : Int32) (k : Nat) (hs : (s.toBitVec.smod 32).toNat = k) : (a >>> s).toInt = a.toInt >>> k := by
  show (a.toBitVec.sshiftRight (s.toBitVec.smod 32).toNat).toInt = _
  rw [hs, BitVec.toInt_sshiftRight]
  rfl
theorem pk_shrN {n : Nat} (h : n < 2 ^ 31) (s : Int32) (k : Nat) (hs : (s.toBitVec.smod 32).toNat = k) : nI n >>> s = nI (n / 2 ^ k) := by
  apply Int32.toInt_inj.mp
  have h2 : n / 2 ^ k ≤ n := Nat.div_le_self _ _
  rw [pk_shr _ _ k hs, nI_toInt h, nI_toInt (by omega), Int.shiftRight_eq_div_pow]
  rfl
theorem pk_ushr (x s : Int32) (k : Nat) (hs : ((s.toUInt32 &&& Int32.toUInt32 31).toBitVec % 32).toNat = k) : (x.toUInt32 >>> (s.toUInt32 &&& Int32.toUInt32 31)).toInt32.toBitVec.toNat = x.toBitVec.toNat / 2 ^ k := by
  have e : (x.toUInt32 >>> (s.toUInt32 &&& Int32.toUInt32 31)).toInt32.toBitVec = x.toBitVec >>> k := by
    rw [← hs]
    exact UInt32.toBitVec_shiftRight _ _
  rw [e, BitVec.toNat_ushiftRight, Nat.shiftRight_eq_div_pow]
theorem pk_ushrN {n : Nat} (hn : n < 2 ^ 32) (s : Int32) (k : Nat) (hs : ((s.toUInt32 &&& Int32.toUInt32 31).toBitVec % 32).toNat = k) : ((nI n).toUInt32 >>> (s.toUInt32 &&& Int32.toUInt32 31)).toInt32 = nI (n / 2 ^ k) := by
  apply Int32.toBitVec_inj.mp
  apply BitVec.eq_of_toNat_eq
  rw [pk_ushr _ s k hs, pk_tn hn, pk_tn (Nat.lt_of_le_of_lt (Nat.div_le_self _ _) hn)]
theorem pk_nb (z : Int32) : narrow .byte (.int z.toInt8.toInt32) = .int z.toInt8.toInt32 := congrArg Value.int (by simp)
theorem pk_loop {σ : Type} (W : Nat → Nat → σ → Prop) (I : Nat → σ → Prop) (e i0 : Nat) (s : σ) (hi : i0 ≤ e) (h0 : I i0 s) (hx : ∀ n s, I e s → W (n + 1) e s)
    (hs : ∀ n i s, i < e → I i s → (∀ s', I (i + 1) s' → W n (i + 1) s') → W (n + 1) i s) : ∃ n, W n i0 s :=
  ⟨e + 1, loop_i W I e hx hs (e + 1) i0 s hi (by omega) h0⟩
theorem pk_loopD {σ : Type} (W : Nat → Nat → σ → Prop) (I : Nat → σ → Prop) (hx : ∀ n s, I 0 s → W (n + 1) 0 s)
    (hs : ∀ n i s, I (i + 1) s → (∀ s', I i s' → W n i s') → W (n + 1) (i + 1) s) : ∀ (e : Nat) (s : σ), I e s → W (e + 1) e s := by
  intro e
  induction e with
  | zero => exact fun s h => hx 0 s h
  | succ e ih => exact fun s h => hs (e + 1) e s h (fun s' h' => ih s' h')
theorem pk_least (P : Nat → Prop) (h : ∃ k, P k) : ∃ k, P k ∧ ∀ j, j < k → ¬ P j := by
  obtain ⟨k, hk⟩ := h
  induction k using Nat.strongRecOn with
  | ind k ih =>
    by_cases e : ∃ j, j < k ∧ P j
    · obtain ⟨j, hj, pj⟩ := e
      exact ih j hj pj
    · exact ⟨k, hk, fun j hj pj => e ⟨j, hj, pj⟩⟩
theorem hp_add {a b : Int32} {x y : Int} (ha : a.toInt = x) (hb : b.toInt = y) (h1 : -2147483648 ≤ x + y) (h2 : x + y < 2147483648) : (a + b).toInt = x + y := by
  rw [Int32.toInt_add, ha, hb]
  exact Int.bmod_eq_of_le (by omega) (by omega)
theorem hp_sub {a b : Int32} {x y : Int} (ha : a.toInt = x) (hb : b.toInt = y) (h1 : -2147483648 ≤ x - y) (h2 : x - y < 2147483648) : (a - b).toInt = x - y := by
  rw [Int32.toInt_sub, ha, hb]
  exact Int.bmod_eq_of_le (by omega) (by omega)
theorem hp_mul {a b : Int32} {x y : Int} (ha : a.toInt = x) (hb : b.toInt = y) (h1 : -2147483648 ≤ x * y) (h2 : x * y < 2147483648) : (a * b).toInt = x * y := by
  rw [Int32.toInt_mul, ha, hb]
  exact Int.bmod_eq_of_le (by omega) (by omega)
theorem hp_lt {a b : Int32} : a < b ↔ a.toInt < b.toInt := Int32.lt_iff_toInt_lt
theorem hp_le {a b : Int32} : a ≤ b ↔ a.toInt ≤ b.toInt := Int32.le_iff_toInt_le
theorem hp_eq {a b : Int32} : a = b ↔ a.toInt = b.toInt := Int32.toInt_inj.symm
theorem hp_F : (1000000 : Int32).toInt = 1000000 := by decide +kernel
theorem hp_D : (-1000000 : Int32).toInt = -1000000 := by decide +kernel
theorem hp_N : (-3000 : Int32).toInt = -3000 := by decide +kernel
theorem hp_L : (-4000 : Int32).toInt = -4000 := by decide +kernel
theorem hp_B : (-1000 : Int32).toInt = -1000 := by decide +kernel
theorem hp_0 : (0 : Int32).toInt = 0 := by decide +kernel
theorem hp_1 : (1 : Int32).toInt = 1 := by decide +kernel
theorem hp_20 : (20 : Int32).toInt = 20 := by decide +kernel
theorem hp_m20 : (-20 : Int32).toInt = -20 := by decide +kernel
theorem hp_ix (s t : Nat) : nI s * 7 + nI t = nI (7 * s + t) := by
  rw [show (7 : Int32) = nI 7 from rfl, pk_mul, nI_add, Nat.mul_comm]
theorem hp_ix' (s t : Nat) : 7 * nI s + nI t = nI (7 * s + t) := by
  rw [show (7 : Int32) = nI 7 from rfl, pk_mul, nI_add]
theorem hp_or (a b : Nat) : nI a ||| nI b = nI (a ||| b) := by
  apply Int32.toBitVec_inj.1
  show BitVec.ofNat 32 a ||| BitVec.ofNat 32 b = BitVec.ofNat 32 (a ||| b)
  apply BitVec.eq_of_getLsbD_eq
  intro i hi
  simp [hi]
theorem hp_and (a b : Nat) : nI a &&& nI b = nI (a &&& b) := by
  apply Int32.toBitVec_inj.1
  show BitVec.ofNat 32 a &&& BitVec.ofNat 32 b = BitVec.ofNat 32 (a &&& b)
  apply BitVec.eq_of_getLsbD_eq
  intro i hi
  simp [hi]
theorem hp_shl : ∀ k, k < 31 → (1 : Int32) <<< (nI k &&& 31) = nI (2 ^ k) := by decide +kernel
theorem hp_sm : ∀ k, k < 32 → ((nI k &&& 31).toBitVec.smod 32).toNat = k := by decide +kernel
theorem hp_shr {m k : Nat} (hm : m < 2 ^ 31) (hk : k < 32) : nI m >>> (nI k &&& 31) = nI (m / 2 ^ k) := pk_shrN hm _ k (hp_sm k hk)
theorem hp_bit {m k : Nat} (hm : m < 2 ^ 31) (hk : k < 32) : ((nI m >>> (nI k &&& 31)) &&& 1) = nI (m.testBit k).toNat := by
  rw [hp_shr hm hk, show (1 : Int32) = nI 1 from rfl, hp_and, Nat.and_one_is_mod, Nat.toNat_testBit]
theorem hp_bit1 {m k : Nat} (hm : m < 2 ^ 31) (hk : k < 32) : ((nI m >>> (nI k &&& 31)) &&& 1) = 1 ↔ m.testBit k = true := by
  rw [hp_bit hm hk]
  cases m.testBit k <;> decide
theorem hp_bit0 {m k : Nat} (hm : m < 2 ^ 31) (hk : k < 32) : ((nI m >>> (nI k &&& 31)) &&& 1) = 0 ↔ m.testBit k = false := by
  rw [hp_bit hm hk]
  cases m.testBit k <;> decide
theorem hp_pt (x : Int32) : (0 ≤ x ∧ x < 7) → ∃ i, i < 7 ∧ x = nI i := by
  rintro ⟨h1, h2⟩
  obtain ⟨i, hi, rfl⟩ := nI_of (x := x) (Int32.not_lt.mpr h1)
  rw [show (7 : Int32) = nI 7 from rfl, nI_ltI hi (by decide)] at h2
  exact ⟨i, h2, rfl⟩
theorem hp_m7 (s : Nat) : nI s * 7 = nI (7 * s) := by
  rw [show (7 : Int32) = nI 7 from rfl, pk_mul, Nat.mul_comm]
end
section
/-! engines 1, 2 and 4 as steps of pure tables -/
def gr_ps (Z : Nat → Nat → Int) (m : Nat) (y : Int) (s t : Nat) : Int := if gr_j (gr_j (Z s m) y) (Z m t) < Z s t then gr_j (gr_j (Z s m) y) (Z m t) else Z s t
section
variable {A : Nat → Nat → Int → Prop} {Z Z' : Nat → Nat → Int}
theorem gr_psr {m s t : Nat} {y : Int} (hr : ∀ s t, s < 7 → t < 7 → gr_rg (Z s t)) (hm : m < 7) (hs : s < 7) (ht : t < 7) (hy : y = -1000000 ∨ (y = 0 ∧ Z m m = 0)) : gr_j (gr_j (Z s m) y) (gr_ps Z m y m t) = gr_j (gr_j (Z s m) y) (Z m t) := by
  have h1 := hr s m hs hm
  have h2 := hr m t hm ht
  have h3 := hr m m hm hm
  have j1 := @gr_jc (Z m m) y
  have j2 := @gr_jc (gr_j (Z m m) y) (Z m t)
  have j3 := @gr_jc (Z s m) y
  have j4 := @gr_jc (gr_j (Z s m) y) (Z m t)
  have j5 := @gr_jc (gr_j (Z s m) y) (gr_j (gr_j (Z m m) y) (Z m t))
  unfold gr_rg at h1 h2 h3
  unfold gr_ps
  by_cases c : gr_j (gr_j (Z m m) y) (Z m t) < Z m t
  · rw [if_pos c]
    omega
  · rw [if_neg c]
theorem gr_psle {m s t : Nat} {y : Int} : gr_ps Z m y s t ≤ Z s t ∧ gr_ps Z m y s t ≤ gr_j (gr_j (Z s m) y) (Z m t) ∧ (gr_ps Z m y s t = Z s t ∨ gr_ps Z m y s t = gr_j (gr_j (Z s m) y) (Z m t)) := by
  unfold gr_ps
  by_cases c : gr_j (gr_j (Z s m) y) (Z m t) < Z s t
  · rw [if_pos c]
    omega
  · rw [if_neg c]
    omega
/-- engine 1: what stands behind m middle points -/
def gr_E1 (A : Nat → Nat → Int → Prop) (m b : Nat) (Z : Nat → Nat → Int) : Prop := (∀ s t, s < 7 → t < 7 → gr_C A b s t (Z s t)) ∧ (∀ p, p < 7 → Z p p ≤ 0) ∧ ∀ s t n c, s < 7 → t < 7 → gr_F A m n s t c → Z s t = -1000000 ∨ (Z s t ≤ c ∧ Z s t ≠ 1000000)
theorem gr_CLn {b p : Nat} {z : Int} (h : gr_C A b p p z) (hz : z < 0) : gr_L A p p := by
  rcases h with e | ⟨_, h⟩ | ⟨n, hn, h⟩
  · omega
  · exact h
  · exact gr_Lneg h hz
theorem gr_E1s (ok : gr_ok A) {m b : Nat} (hm : m < 7) (hb : b + b ≤ 10000) (h : gr_E1 A m b Z) (y : Int) (hy : y = if Z m m < 0 then -1000000 else 0) (hZ : ∀ s t, s < 7 → t < 7 → Z' s t = gr_ps Z m y s t) : gr_E1 A (m + 1) (b + b) Z' := by
  obtain ⟨h1, h2, h3⟩ := h
  have hrg : ∀ s t, s < 7 → t < 7 → gr_rg (Z s t) ∧ (Z s t ≠ 1000000 → Z s t ≠ -1000000 → -300000 ≤ Z s t ∧ Z s t ≤ 300000) := fun s t hs ht => gr_Crg ok (by omega) (h1 s t hs ht)
  have hy' : (y = -1000000 ∧ gr_L A m m) ∨ (y = 0 ∧ Z m m = 0) := by
    by_cases c : Z m m < 0
    · rw [if_pos c] at hy
      exact Or.inl ⟨hy, gr_CLn (h1 m m hm hm) c⟩
    · rw [if_neg c] at hy
      have := h2 m hm
      exact Or.inr ⟨hy, by omega⟩
  refine ⟨fun s t hs ht => ?_, fun p hp => ?_, fun s t n c hs ht g => ?_⟩
  · rw [hZ s t hs ht]
    rcases (@gr_psle Z m s t y).2.2 with e | e
    · rw [e]
      exact gr_Cm (by omega) (h1 s t hs ht)
    · rw [e]
      rcases hy' with ⟨e, hl⟩ | ⟨e, _⟩
      · by_cases c1 : Z s m = 1000000
        · rw [c1, gr_j_F, gr_j_F]
          exact Or.inl rfl
        · rw [e, gr_j_D' c1]
          by_cases c2 : Z m t = 1000000
          · rw [c2, gr_j_F']
            exact Or.inl rfl
          · rw [gr_j_D c2]
            exact gr_CL (gr_LR (gr_RL (gr_CR (h1 s m hs hm) c1) hl) (gr_CR (h1 m t hm ht) c2))
      · have e2 : gr_j (Z s m) y = Z s m := by
          have := @gr_jc (Z s m) y
          omega
        rw [e2]
        exact gr_jj ok (by omega) (h1 s m hs hm) (h1 m t hm ht)
  · rw [hZ p p hp hp]
    have := (@gr_psle Z m p p y).1
    have := h2 p hp
    omega
  · rw [hZ s t hs ht]
    have k1 := @gr_psle Z m s t y
    have r1 := (hrg s t hs ht).1
    have r2 := (hrg s m hs hm)
    have r3 := (hrg m t hm ht)
    have j1 := @gr_jc (Z s m) y
    have j2 := @gr_jc (gr_j (Z s m) y) (Z m t)
    unfold gr_rg at r1
    have hz : ¬ (Z m m < 0) → ∀ n c, gr_F A m n m m c → 0 ≤ c := by
      intro hn n c g
      have := h3 m m n c hm hm g
      omega
    rcases gr_Fs hz g with g | ⟨n1, c1, n2, c2, g1, g2, g3⟩
    · have := h3 s t n c hs ht g
      omega
    · have k2 := h3 s m n1 c1 hs hm g1
      have k3 := h3 m t n2 c2 hm ht g2
      have r2' := r2.1
      have r3' := r3.1
      unfold gr_rg at r2' r3'
      by_cases c : Z m m < 0
      · rw [if_pos c] at hy
        omega
      · rw [if_neg c] at hy
        omega
theorem gr_E1f (ok : gr_ok A) {b : Nat} (hb : b ≤ 10000) (h : gr_E1 A 7 b Z) : ∀ s t, s < 7 → t < 7 → gr_Ans A s t (gr_cv (Z s t)) := by
  intro s t hs ht
  refine gr_finD ok hs hb (h.1 s t hs ht) ?_
  by_cases c : Z s t = -1000000
  · exact Or.inl c
  · refine Or.inr fun n c' g => ?_
    have := h.2.2 s t n c' hs ht (gr_F7 (gr_oki ok) g)
    omega
theorem gr_E10 (h : ∀ s t, s < 7 → t < 7 → gr_C A 1 s t (Z s t)) (h0 : ∀ p, p < 7 → Z p p ≤ 0) (ha : ∀ u v x, A u v x → Z u v ≤ x) (ok : gr_ok A) : gr_E1 A 0 1 Z := by
  refine ⟨h, h0, fun s t n c hs ht g => ?_⟩
  cases n with
  | zero =>
    obtain ⟨rfl, rfl⟩ := g
    have := h0 s hs
    omega
  | succ n =>
    obtain ⟨u, c', x, g, a, rfl, hn⟩ := g
    have n0 : n = 0 := by omega
    subst n0
    obtain ⟨rfl, rfl⟩ := g
    have h1 := ha _ _ _ a
    have h2 := ok _ _ _ a
    omega
/-- engine 2 -/
def gr_E2 (A : Nat → Nat → Int → Prop) (i b : Nat) (Z : Nat → Nat → Int) : Prop := (∀ s t, s < 7 → t < 7 → gr_C A b s t (Z s t)) ∧ ∀ s t n c, s < 7 → n ≤ i → gr_W A n s t c → Z s t ≤ c
theorem gr_E2s (ok : gr_ok A) {i b : Nat} (hi : i ≤ 64) (hb : b + b ≤ 10000) (h : gr_E2 A i b Z) (hZ : ∀ s t, s < 7 → t < 7 → (∀ m, m < 7 → Z' s t ≤ gr_j (Z s m) (Z m t)) ∧ (Z' s t = 1000000 ∨ (s = t ∧ Z' s t = -1000000 ∧ ∃ m, m < 7 ∧ gr_j (Z s m) (Z m t) < 0) ∨ ∃ m, m < 7 ∧ Z' s t = gr_j (Z s m) (Z m t))) : gr_E2 A (i + i) (b + b) Z' := by
  obtain ⟨h1, h2⟩ := h
  refine ⟨fun s t hs ht => ?_, fun s t n c hs hn g => ?_⟩
  · rcases (hZ s t hs ht).2 with e | ⟨rfl, e, m, hm, hl⟩ | ⟨m, hm, e⟩
    · exact Or.inl e
    · rw [e]
      exact gr_CL (gr_CLn (gr_jj ok (by omega) (h1 s m hs hm) (h1 m s hm hs)) hl)
    · rw [e]
      exact gr_jj ok (by omega) (h1 s m hs hm) (h1 m t hm ht)
  · have ht := gr_Wv (gr_oki ok) hs g
    obtain ⟨n1, n2, e, e1, e2⟩ : ∃ n1 n2, n = n1 + n2 ∧ n1 ≤ i ∧ n2 ≤ i := ⟨n - n / 2, n / 2, by omega, by omega, by omega⟩
    subst e
    obtain ⟨m, c1, c2, g1, g2, rfl⟩ := gr_cut g
    have hm := gr_Wv (gr_oki ok) hs g1
    have k1 := h2 s m n1 c1 hs e1 g1
    have k2 := h2 m t n2 c2 hm e2 g2
    have k3 := (hZ s t hs ht).1 m hm
    have b1 := gr_Wb ok g1
    have b2 := gr_Wb ok g2
    have j := @gr_jc (Z s m) (Z m t)
    omega
/-- two more times carry a bottom to those before and behind -/
theorem gr_E2f (ok : gr_ok A) {Z3 Z4 Z5 : Nat → Nat → Int} (h3 : gr_E2 A 8 8 Z3) (d3 : ∀ p, p < 7 → Z3 p p < 0 → Z3 p p = -1000000) (h4 : gr_E2 A 16 16 Z4) (h5 : gr_E2 A 32 32 Z5) (h34 : ∀ s t, s < 7 → t < 7 → ∀ m, m < 7 → Z4 s t ≤ gr_j (Z3 s m) (Z3 m t)) (h45 : ∀ s t, s < 7 → t < 7 → ∀ m, m < 7 → Z5 s t ≤ gr_j (Z4 s m) (Z4 m t)) : ∀ s t, s < 7 → t < 7 → gr_Ans A s t (gr_cv (Z5 s t)) := by
  intro s t hs ht
  refine gr_fin ok hs (by omega : 32 ≤ 10000) (h5.1 s t hs ht) (fun hl => ?_) (fun n c hn g => h5.2 s t n c hs (by omega) g)
  obtain ⟨p, r1, r2, n, u, m, c, x, g, a, hx⟩ := gr_Lring ok hs hl
  have hp := (ok _ _ _ a).2.1
  have g1 := gr_Ws (gr_SW g) a
  have n6 := gr_Sn6 (gr_oki ok) hp g
  have k1 := h3.2 p p (n + 1) (c + x) hp (by omega) g1
  have k2 := d3 p hp (by omega)
  obtain ⟨n1, c1, hn1, w1⟩ := gr_R6 (gr_oki ok) hs r1
  obtain ⟨n2, c2, hn2, w2⟩ := gr_R6 (gr_oki ok) hp r2
  have k3 := h3.2 p t n2 c2 hp (by omega) w2
  have k4 := h34 p t hp ht p hp
  have k5 := h4.2 s p n1 c1 hs (by omega) w1
  have k6 := h45 s t hs ht p hp
  have b1 := gr_Wb ok w1
  have b2 := gr_Wb ok w2
  have r4 := (gr_Crg ok (by omega) (h4.1 p t hp ht)).1
  have r5 := (gr_Crg ok (by omega) (h5.1 s t hs ht)).1
  unfold gr_rg at r4 r5
  rw [k2, gr_j_D (by omega)] at k4
  have k7 : Z4 p t = -1000000 := by omega
  rw [k7, gr_j_D' (by omega)] at k6
  omega
/-- engine 4: the table of sets from s, before set M is grown -/
def gr_E4 (A : Nat → Nat → Int → Prop) (s M : Nat) (z : Nat → Nat → Int) : Prop := (∀ m v, m < 128 → v < 7 → z m v = 1000000 ∨ ∃ n, gr_S A gr_T s n v m (z m v)) ∧ z (2 ^ s) s ≤ 0 ∧ ∀ n u m c v x, gr_S A gr_T s n u m c → A u v x → m.testBit v = false → m < M → z (m ||| 2 ^ v) v ≤ c + x
theorem gr_E4le {s M : Nat} {z : Nat → Nat → Int} (h : gr_E4 A s M z) {n v m : Nat} {c : Int} (g : gr_S A gr_T s n v m c) (hm : m ≤ M) : z m v ≤ c := by
  cases n with
  | zero =>
    obtain ⟨rfl, rfl, rfl, _⟩ := g
    exact h.2.1
  | succ n =>
    obtain ⟨u, m', c', x, g, a, rfl, b, rfl, _⟩ := g
    refine h.2.2 n u m' c' v x g a b ?_
    refine Nat.lt_of_lt_of_le (Nat.lt_of_le_of_ne Nat.left_le_or fun e => ?_) hm
    have e2 : (m' ||| 2 ^ v).testBit v = true := by rw [Nat.testBit_or, Nat.testBit_two_pow_self, Bool.or_true]
    rw [← e, b] at e2
    exact absurd e2 (by decide)
theorem gr_A0_S {s : Nat} : ∀ {n v m : Nat} {c : Int}, gr_S (gr_A0 A) gr_T s n v m c → ∃ d, gr_S A gr_T s n v m d := by
  intro n
  induction n with
  | zero =>
    intro v m c h
    exact ⟨0, h.1, h.2.1, rfl, trivial⟩
  | succ n ih =>
    intro v m c h
    obtain ⟨u, m', c', x, h, ⟨_, y, a⟩, _, b, e, _⟩ := h
    obtain ⟨d, g⟩ := ih h
    exact ⟨d + y, u, m', d, y, g, a, rfl, b, e, trivial⟩
theorem gr_RS {s v : Nat} (h : gr_R A s v) : ∃ n m c, gr_S A gr_T s n v m c := by
  obtain ⟨n, c, h⟩ := h
  rcases gr_simple (gr_W_A0 h) with ⟨p, h1, h2, n', u, m, c', x, h3, ⟨h4, _⟩, h5⟩ | ⟨n', m, c', h1, h2⟩
  · have := (gr_A0_W (gr_SW h3)).1
    omega
  · obtain ⟨d, g⟩ := gr_A0_S h1
    exact ⟨n', m, d, g⟩
/-- engine 4: a table of least simple walks, then bottoms through the points on a ring below 0 -/
theorem gr_E4f (ok : gr_ok A) {Z' : Nat → Nat → Int} (h1 : ∀ s t, s < 7 → t < 7 → gr_C A 6 s t (Z' s t)) (h2 : ∀ s t n m c, s < 7 → t < 7 → gr_S A gr_T s n t m c → Z' s t ≤ c) (h3 : ∀ s t p, s < 7 → t < 7 → p < 7 → gr_NR A p → gr_R A s p → gr_R A p t → Z' s t = -1000000) : ∀ s t, s < 7 → t < 7 → gr_Ans A s t (gr_cv (Z' s t)) := by
  intro s t hs ht
  have hL : gr_L A s t → Z' s t = -1000000 := by
    intro hl
    obtain ⟨p, r1, r2, hp⟩ := gr_Lring ok hs hl
    obtain ⟨n1, c1, w1⟩ := r1
    exact h3 s t p hs ht (gr_Wv (gr_oki ok) hs w1) hp ⟨n1, c1, w1⟩ r2
  refine gr_fin ok hs (by omega : 6 ≤ 10000) (h1 s t hs ht) hL (fun n c hn g => ?_)
  rcases gr_simple g with ⟨p, r1, r2, r3⟩ | ⟨n', m, c', g1, g2⟩
  · have := hL (gr_LR (gr_RL r1 (gr_NRL r3)) r2)
    have := gr_Wb ok g
    omega
  · have := h2 s t n' m c' hs ht g1
    omega
end
end
section
/-! the reference's rings by sets, and fractions -/
def gr_lo (m s : Nat) : Prop := m.testBit s = true ∧ ∀ i, i < s → m.testBit i = false
theorem gr_loU {m s s' : Nat} (h : gr_lo m s) (h' : gr_lo m s') : s = s' := by
  refine Classical.byContradiction fun hn => ?_
  rcases Nat.lt_or_gt_of_ne hn with l | l
  · have := h'.2 s l
    rw [h.1] at this
    exact absurd this (by decide)
  · have := h.2 s' l
    rw [h'.1] at this
    exact absurd this (by decide)
theorem gr_mn2 {N z y : Int} {P P2 : Int → Prop} (h : gr_mn N P z) (g : gr_mn N P2 y) (hz : z ≠ N) (hy : y ≠ N) (hn : z + y ≠ N) : gr_mn N (fun c => ∃ d x, P d ∧ P2 x ∧ c = d + x) (z + y) := by
  rcases h with ⟨h1, _⟩ | ⟨_, h2, h3⟩
  · exact absurd h1 hz
  · rcases g with ⟨g1, _⟩ | ⟨_, g2, g3⟩
    · exact absurd g1 hy
    · refine Or.inr ⟨hn, ⟨z, y, h2, g2, rfl⟩, ?_⟩
      rintro c ⟨d, x, hd, hx, rfl⟩
      have := h3 d hd
      have := g3 x hx
      omega
section
variable {A : Nat → Nat → Int → Prop} {w : Nat → Nat → Int}
/-- set m without v -/
def gr_wo (m v : Nat) : Nat := if m.testBit v = true then m ^^^ 2 ^ v else m
theorem gr_wob (m v i : Nat) : (gr_wo m v).testBit i = (m.testBit i && !decide (v = i)) := by
  unfold gr_wo
  by_cases h : m.testBit v = true
  · rw [if_pos h, Nat.testBit_xor, Nat.testBit_two_pow]
    by_cases e : v = i
    · subst e
      simp [h]
    · simp [e]
  · rw [if_neg h]
    by_cases e : v = i
    · subst e
      simp at h
      simp [h]
    · simp [e]
theorem gr_wol {m v : Nat} (h : m.testBit v = true) : gr_wo m v < m := by
  refine Nat.lt_of_le_of_ne (Nat.le_of_testBit fun i hi => ?_) fun e => ?_
  · rw [gr_wob] at hi
    simp at hi
    exact hi.1
  · have := gr_wob m v v
    rw [e, h] at this
    simp at this
theorem gr_wor {m v : Nat} (h : m.testBit v = true) : gr_wo m v ||| 2 ^ v = m := by
  apply Nat.eq_of_testBit_eq
  intro i
  rw [Nat.testBit_or, gr_wob, Nat.testBit_two_pow]
  by_cases e : v = i
  · subst e
    simp [h]
  · simp [e]
theorem gr_wou {m m' v : Nat} (b : m'.testBit v = false) (e : m = m' ||| 2 ^ v) : m' = gr_wo m v := by
  apply Nat.eq_of_testBit_eq
  intro i
  rw [gr_wob, e, Nat.testBit_or, Nat.testBit_two_pow]
  by_cases e : v = i
  · subst e
    simp [b]
  · simp [e]
/-- the table of ways: sets below M are done -/
def gr_E5 (A : Nat → Nat → Int → Prop) (M : Nat) (w : Nat → Nat → Int) : Prop := ∀ m v, m < 128 → v < 7 → (m < M → ∀ s, gr_lo m s → gr_mn (-3000) (fun c => ∃ n, gr_S A gr_T s n v m c) (w m v)) ∧ (M ≤ m → w m v = if m = 2 ^ v then 0 else -3000)
/-- set M at v when c pairs have been looked at -/
def gr_PT (A : Nat → Nat → Int → Prop) (M s c v : Nat) (cc : Int) : Prop := (M = 2 ^ v ∧ cc = 0) ∨ ∃ u, 7 * v + u < c ∧ u < 7 ∧ v ≠ s ∧ v ≠ u ∧ M.testBit v = true ∧ (gr_wo M v).testBit u = true ∧ ∃ d x, (∃ n, gr_S A gr_T s n u (gr_wo M v) d) ∧ A u v x ∧ cc = d + x
theorem gr_PTf (ok : gr_in A) {M s v : Nat} {cc : Int} (hl : gr_lo M s) (hv : v < 7) : (∃ n, gr_S A gr_T s n v M cc) ↔ gr_PT A M s 49 v cc := by
  constructor
  · rintro ⟨n, g⟩
    cases n with
    | zero =>
      obtain ⟨rfl, h2, h3, _⟩ := g
      exact Or.inl ⟨h2, h3⟩
    | succ n =>
      have hM := gr_Sv g
      obtain ⟨u, m', c', x, g, a, e, b, e', _⟩ := g
      have e2 := gr_wou b e'
      subst e2
      refine Or.inr ⟨u, ?_, (ok _ _ _ a).1, ?_, ?_, hM, gr_Sv g, c', x, ⟨n, g⟩, a, e⟩
      · have := (ok _ _ _ a).1
        omega
      · intro e3
        subst e3
        have := gr_Ss g
        rw [b] at this
        exact absurd this (by decide)
      · intro e3
        subst e3
        have := gr_Sv g
        rw [b] at this
        exact absurd this (by decide)
  · rintro (⟨h1, h2⟩ | ⟨u, _, hu, h1, h2, h3, h4, d, x, ⟨n, g⟩, a, e⟩)
    · have e : v = s := by
        have := hl.1
        rw [h1, Nat.testBit_two_pow] at this
        exact of_decide_eq_true this
      subst e
      exact ⟨0, rfl, h1, h2, trivial⟩
    · refine ⟨n + 1, u, gr_wo M v, d, x, g, a, e, ?_, (gr_wor h3).symm, trivial⟩
      rw [gr_wob]
      simp
theorem gr_PT0 {M s v : Nat} {cc : Int} : gr_PT A M s 0 v cc ↔ (M = 2 ^ v ∧ cc = 0) := by
  constructor
  · rintro (h | ⟨u, h, _⟩)
    · exact h
    · omega
  · intro h
    exact Or.inl h
theorem gr_PTs {M s v v' u : Nat} {cc : Int} (hu : u < 7) : gr_PT A M s (7 * v + u + 1) v' cc ↔ gr_PT A M s (7 * v + u) v' cc ∨ (v' = v ∧ v ≠ s ∧ v ≠ u ∧ M.testBit v = true ∧ (gr_wo M v).testBit u = true ∧ ∃ d x, (∃ n, gr_S A gr_T s n u (gr_wo M v) d) ∧ A u v x ∧ cc = d + x) := by
  constructor
  · rintro (h | ⟨u', h1, h2, h3⟩)
    · exact Or.inl (Or.inl h)
    · by_cases c : 7 * v' + u' < 7 * v + u
      · exact Or.inl (Or.inr ⟨u', c, h2, h3⟩)
      · have e1 : v' = v := by omega
        have e2 : u' = u := by omega
        subst e1 e2
        exact Or.inr ⟨rfl, h3⟩
  · rintro ((h | ⟨u', h1, h2, h3⟩) | ⟨rfl, h3⟩)
    · exact Or.inl h
    · exact Or.inr ⟨u', by omega, h2, h3⟩
    · exact Or.inr ⟨u, by omega, hu, h3⟩
/-- a ring over the set m with its lowest point, closed from v -/
def gr_RC (A : Nat → Nat → Int → Prop) (m v : Nat) (c : Int) : Prop := ∃ s, gr_lo m s ∧ ∃ d x, (∃ n, gr_S A gr_T s n v m d) ∧ A v s x ∧ c = d + x
theorem gr_loE {m : Nat} : ∀ {p : Nat}, m.testBit p = true → ∃ s, s ≤ p ∧ gr_lo m s := by
  intro p
  induction p using Nat.strongRecOn with
  | ind p ih =>
    intro h
    by_cases c : ∃ i, i < p ∧ m.testBit i = true
    · obtain ⟨i, hi, hb⟩ := c
      obtain ⟨s, hs, hl⟩ := ih i hi hb
      exact ⟨s, by omega, hl⟩
    · refine ⟨p, Nat.le_refl p, h, fun i hi => ?_⟩
      cases z : m.testBit i with
      | false => rfl
      | true => exact absurd ⟨i, hi, z⟩ c
theorem gr_RgRC {s m n : Nat} {c : Int} (h : gr_Rg A s m n c) : ∃ v, gr_RC A m v c ∧ ∃ x y, A v x y := by
  have hs : m.testBit s = true := by
    obtain ⟨n', u, c', x, h, _⟩ := h
    exact gr_Ss h
  obtain ⟨p, _, hp⟩ := gr_loE hs
  obtain ⟨n', u, c', x, h, a, _, e⟩ := gr_rot h hp.1
  exact ⟨u, ⟨p, hp, c', x, ⟨n', h⟩, a, e⟩, p, x, a⟩
theorem gr_RCRg (ok : gr_in A) {m v : Nat} {c : Int} (h : gr_RC A m v c) : ∃ s, s < 7 ∧ gr_Rg A s m (gr_pc m) c := by
  obtain ⟨s, hl, d, x, ⟨n, g⟩, a, e⟩ := h
  have hs := (ok _ _ _ a).2
  have := gr_Spc ok hs g
  exact ⟨s, hs, n, v, d, x, g, a, this.2, e⟩
end
/-- fractions: no common divisor from d on -/
def gr_nc (d : Int) (t b : Int) : Prop := ∀ e : Int, d ≤ e → e ≤ 7 → e ∣ t → e ∣ b → False
theorem gr_nc1 {d t b : Int} (hd : 2 ≤ d) (hb : 1 ≤ b) (hb7 : b ≤ 7) (h : gr_nc (d + 1) t b) {t1 b1 : Int} (et : t = d * t1) (eb : b = d * b1) : gr_nc d t1 b1 := by
  intro e h1 h2 h3 h4
  obtain ⟨t2, rfl⟩ := h3
  obtain ⟨b2, rfl⟩ := h4
  have p1 : 1 ≤ b2 := by
    refine Classical.byContradiction fun hn => ?_
    have : e * b2 ≤ 0 := Int.mul_nonpos_of_nonneg_of_nonpos (by omega) (by omega)
    have : d * (e * b2) ≤ 0 := Int.mul_nonpos_of_nonneg_of_nonpos (by omega) this
    omega
  have p2 : d * e ≤ 7 := by
    have h5 : d * e * 1 ≤ d * e * b2 := Int.mul_le_mul_of_nonneg_left p1 (Int.mul_nonneg (by omega) (by omega))
    rw [Int.mul_assoc d e b2] at h5
    omega
  have p3 : d * 2 ≤ d * e := Int.mul_le_mul_of_nonneg_left (by omega) (by omega)
  refine h (d * e) (by omega) p2 ⟨t2, ?_⟩ ⟨b2, ?_⟩
  · rw [et, Int.mul_assoc]
  · rw [eb, Int.mul_assoc]
theorem gr_nc2 {d t b : Int} (h : gr_nc (d + 1) t b) (hn : ¬ (d ∣ t ∧ d ∣ b)) : gr_nc d t b := by
  intro e h1 h2 h3 h4
  by_cases c : e = d
  · subst c
    exact hn ⟨h3, h4⟩
  · exact h e (by omega) h2 h3 h4
theorem gr_ncU {t b t' b' : Int} (hb : 1 ≤ b) (hb7 : b ≤ 7) (hb' : 1 ≤ b') (hb7' : b' ≤ 7) (h : gr_nc 2 t b) (h' : gr_nc 2 t' b') (e : t * b' = t' * b) : t = t' ∧ b = b' := by
  have key : ∀ t b t' b' : Int, 1 ≤ b → b ≤ 7 → 1 ≤ b' → gr_nc 2 t b → t * b' = t' * b → b ≤ b' := by
    intro t b t' b' hb hb7 hb' h e
    have hg : Int.gcd b t = 1 := by
      refine Classical.byContradiction fun hn => ?_
      have d1 : (Int.gcd b t : Int) ∣ b := Int.gcd_dvd_left ..
      have d2 : (Int.gcd b t : Int) ∣ t := Int.gcd_dvd_right ..
      have l1 := Int.le_of_dvd (by omega) d1
      have p0 : Int.gcd b t ≠ 0 := by
        intro z
        rw [z] at d1
        have : b = 0 := Int.zero_dvd.mp d1
        omega
      exact h (Int.gcd b t) (by omega) (by omega) d2 d1
    have d3 : b ∣ t * b' := ⟨t', by rw [e, Int.mul_comm]⟩
    have d4 := Int.natAbs_dvd_natAbs.mpr d3
    rw [Int.natAbs_mul] at d4
    have hg' : Nat.Coprime b.natAbs t.natAbs := hg
    have d5 := Nat.le_of_dvd (by omega) (hg'.dvd_of_dvd_mul_left d4)
    omega
  have k1 := key t b t' b' hb hb7 hb' h e
  have k2 := key t' b' t b hb' hb7' hb h' e.symm
  have e2 : b = b' := by omega
  subst e2
  exact ⟨Int.eq_of_mul_eq_mul_right (by omega) e, rfl⟩
end
section
/-! fractions compared crosswise; the component's two ways to the least mean -/
theorem gr_m3 (a b c : Int) : a * b * c = a * c * b := by
  rw [Int.mul_assoc, Int.mul_comm b c, ← Int.mul_assoc]
theorem gr_crl {t1 b1 t2 b2 t3 b3 : Int} (h1 : 0 < b1) (h2 : 0 < b2) (h3 : 0 < b3) (h : t1 * b2 ≤ t2 * b1) (g : t2 * b3 ≤ t3 * b2) : t1 * b3 ≤ t3 * b1 := by
  have k1 := Int.mul_le_mul_of_nonneg_right h (Int.le_of_lt h3)
  have k2 := Int.mul_le_mul_of_nonneg_right g (Int.le_of_lt h1)
  rw [gr_m3 t2 b1 b3] at k1
  have k3 := Int.le_trans k1 k2
  rw [gr_m3 t1 b2 b3, gr_m3 t3 b2 b1] at k3
  exact Int.le_of_mul_le_mul_right k3 h2
theorem gr_crs {t1 b1 t2 b2 t3 b3 : Int} (h1 : 0 < b1) (h2 : 0 < b2) (h3 : 0 < b3) (h : t1 * b2 < t2 * b1) (g : t2 * b3 ≤ t3 * b2) : t1 * b3 < t3 * b1 := by
  have k1 := Int.mul_lt_mul_of_pos_right h h3
  have k2 := Int.mul_le_mul_of_nonneg_right g (Int.le_of_lt h1)
  rw [gr_m3 t2 b1 b3] at k1
  have k3 := Int.lt_of_lt_of_le k1 k2
  rw [gr_m3 t1 b2 b3, gr_m3 t3 b2 b1] at k3
  exact Int.lt_of_mul_lt_mul_right k3 (Int.le_of_lt h2)
/-- the best of what was offered -/
def gr_bst (Of : Int → Int → Prop) (t b : Int) : Prop := (b = 0 ∧ t = 0 ∧ ∀ t' b', ¬ Of t' b') ∨ (1 ≤ b ∧ Of t b ∧ ∀ t' b', Of t' b' → t * b' ≤ t' * b)
theorem gr_bstC {Of Of' : Int → Int → Prop} {t b : Int} (e : ∀ t b, Of' t b ↔ Of t b) (h : gr_bst Of t b) : gr_bst Of' t b := by
  rcases h with ⟨h1, h2, h3⟩ | ⟨h1, h2, h3⟩
  · exact Or.inl ⟨h1, h2, fun t' b' h => h3 t' b' ((e _ _).mp h)⟩
  · exact Or.inr ⟨h1, (e _ _).mpr h2, fun t' b' h => h3 t' b' ((e _ _).mp h)⟩
theorem gr_bstT {Of Of' : Int → Int → Prop} {t b t1 b1 : Int} (hp : ∀ t b, Of t b → 1 ≤ b) (e : ∀ t b, Of' t b ↔ Of t b ∨ (t = t1 ∧ b = b1)) (h : gr_bst Of t b) (hb : 1 ≤ b1) (hc : b = 0 ∨ t1 * b < t * b1) : gr_bst Of' t1 b1 := by
  refine Or.inr ⟨hb, (e _ _).mpr (Or.inr ⟨rfl, rfl⟩), fun t' b' h' => ?_⟩
  rcases (e _ _).mp h' with h' | ⟨rfl, rfl⟩
  · rcases h with ⟨_, _, h3⟩ | ⟨h1, h2, h3⟩
    · exact absurd h' (h3 t' b')
    · have k := hp _ _ h'
      have hc' : t1 * b < t * b1 := hc.resolve_left (by omega)
      exact Int.le_of_lt (gr_crs (by omega) (by omega) (by omega) hc' (h3 t' b' h'))
  · exact Int.le_refl _
theorem gr_bstK {Of Of' : Int → Int → Prop} {t b t1 b1 : Int} (e : ∀ t b, Of' t b ↔ Of t b ∨ (t = t1 ∧ b = b1)) (h : gr_bst Of t b) (hc : ¬ (b = 0 ∨ t1 * b < t * b1)) : gr_bst Of' t b := by
  rcases h with ⟨h1, h2, h3⟩ | ⟨h1, h2, h3⟩
  · exact absurd (Or.inl h1) hc
  · refine Or.inr ⟨h1, (e _ _).mpr (Or.inl h2), fun t' b' h' => ?_⟩
    rcases (e _ _).mp h' with h' | ⟨rfl, rfl⟩
    · exact h3 t' b' h'
    · exact Int.not_lt.mp fun z => hc (Or.inr z)
section
variable {A : Nat → Nat → Int → Prop}
/-- what mean engine 1 offers -/
def gr_O1 (A : Nat → Nat → Int → Prop) (t b : Int) : Prop := ∃ v n : Nat, v < 7 ∧ 1 ≤ n ∧ n ≤ 7 ∧ b = n ∧ gr_W A n v v t ∧ ∀ c, gr_W A n v v c → t ≤ c
theorem gr_O1b {t b : Int} (h : gr_O1 A t b) : 1 ≤ b := by
  obtain ⟨v, n, h1, h2, h3, h4, _⟩ := h
  omega
theorem gr_O1m (ok : gr_ok A) {Of : Int → Int → Prop} {p q t b : Int} (h : gr_Mean A p q) (hb : gr_bst Of t b) (sub : ∀ t b, Of t b → gr_O1 A t b) (ex : ∀ v n c, v < 7 → 1 ≤ n → n ≤ 7 → gr_W A n v v c → ∃ d, Of d (n : Int) ∧ d ≤ c) : 1 ≤ b ∧ b ≤ 7 ∧ t * q = p * b := by
  obtain ⟨s, m, n, c, hr, hc⟩ := h.2.1
  have hs : s < 7 := by
    obtain ⟨n', u, c', x, g, a, _⟩ := hr
    exact (ok _ _ _ a).2.1
  have hn := gr_Rgn (gr_oki ok) hs hr
  obtain ⟨d, o, hd⟩ := ex s n c hs hn.1 hn.2.1 (gr_RgW hr)
  rcases hb with ⟨_, _, h3⟩ | ⟨h1, h2, h3⟩
  · exact absurd o (h3 _ _)
  · obtain ⟨v, n', hv, g1, g2, g3, g4, g5⟩ := sub _ _ h2
    have k1 := gr_M1 h g4
    have k2 := h3 _ _ o
    have k3 : d * q ≤ c * q := Int.mul_le_mul_of_nonneg_right hd (by have := h.1; omega)
    have k4 : d * q ≤ p * n := by
      rw [Int.mul_comm c q, hc] at k3
      exact k3
    have q0 := h.1
    have k5 : t * q ≤ p * b := gr_crl (b2 := (n : Int)) (by omega) (by omega) (by omega) k2 k4
    have k6 : p * b ≤ t * q := by
      rw [g3, Int.mul_comm t q]
      exact k1
    exact ⟨h1, by omega, by omega⟩
/-- what mean engine 0 offers, over levels D -/
def gr_O0 (D : Nat → Nat → Int) (t b : Int) : Prop := ∃ v : Nat, v < 7 ∧ D 7 v ≠ 1000000 ∧ (∃ k : Nat, k ≤ 6 ∧ t = D 7 v - D k v ∧ b = 7 - k) ∧ ∀ k : Nat, k ≤ 6 → (D 7 v - D k v) * b ≤ t * (7 - k)
theorem gr_O0b {D : Nat → Nat → Int} {t b : Int} (h : gr_O0 D t b) : 1 ≤ b := by
  obtain ⟨v, h1, h2, ⟨k, h3, h4, h5⟩, _⟩ := h
  omega
theorem gr_O0m (ok : gr_ok A) {Of : Int → Int → Prop} {p q t b : Int} (h : gr_Mean A p q) {D : Nat → Nat → Int} (hD : ∀ n v, n < 8 → v < 7 → gr_mn 1000000 (gr_V A (fun s => s < 7) n v) (D n v)) (hb : gr_bst Of t b) (sub : ∀ t b, Of t b → gr_O0 D t b) (ex : ∀ v, v < 7 → D 7 v ≠ 1000000 → ∃ t b, Of t b ∧ ∃ k : Nat, k ≤ 6 ∧ t = D 7 v - D k v ∧ b = 7 - k) : 1 ≤ b ∧ b ≤ 7 ∧ t * q = p * b := by
  have q0 := h.1
  have lower : ∀ t b, gr_O0 D t b → p * b ≤ t * q := by
    rintro t b ⟨v, hv, hf, ⟨k0, g1, g2, g3⟩, hm⟩
    rcases hD 7 v (by omega) hv with ⟨e, _⟩ | ⟨_, ⟨s, hs, gw⟩, _⟩
    · exact absurd e hf
    · obtain ⟨k, d, hk, w, hp⟩ := gr_K1 (gr_oki ok) h hs gw
      have hdk : D k v ≤ d := by
        rcases hD k v (by omega) hv with ⟨_, e⟩ | ⟨_, _, e⟩
        · exact absurd ⟨s, hs, w⟩ (e d)
        · exact e d ⟨s, hs, w⟩
      have k1 : p * (7 - k) ≤ (D 7 v - D k v) * q := by
        refine Int.le_trans hp ?_
        rw [Int.mul_comm (D 7 v - D k v) q]
        exact Int.mul_le_mul_of_nonneg_left (by omega) (by omega)
      exact gr_crl (b2 := (7 - k : Int)) (by omega) (by omega) (by omega) k1 (hm k hk)
  obtain ⟨s, v, c, hs, hv, g, hK⟩ := gr_K2 ok h
  have h7 : D 7 v ≠ 1000000 ∧ D 7 v ≤ c := by
    rcases hD 7 v (by omega) hv with ⟨_, e⟩ | ⟨e0, _, e⟩
    · exact absurd ⟨s, hs, g⟩ (e c)
    · exact ⟨e0, e c ⟨s, hs, g⟩⟩
  obtain ⟨t1, b1, o, k, hk, e1, e2⟩ := ex v hv h7.1
  have up : t1 * q ≤ p * b1 := by
    rcases hD k v (by omega) hv with ⟨e3, e⟩ | ⟨e0, ⟨s', hs', w⟩, e⟩
    · exfalso
      have w2 : (7 - k) + k = 7 := by omega
      rw [← w2] at g
      obtain ⟨y, c1, c2, g1, g2, _⟩ := gr_cut g
      have hy := gr_Wv (gr_oki ok) hs g1
      exact e c2 ⟨y, hy, g2⟩
    · have k1 := hK k s' (D k v) w
      rw [e1, e2]
      refine Int.le_trans ?_ k1
      rw [Int.mul_comm]
      exact Int.mul_le_mul_of_nonneg_left (by omega) (by omega)
  rcases hb with ⟨_, _, h3⟩ | ⟨h1, h2, h3⟩
  · exact absurd o (h3 _ _)
  · have k1 := lower t b (sub _ _ h2)
    have k2 := h3 _ _ o
    have k3 : t * q ≤ p * b := gr_crl (b2 := b1) (by omega) (by have := gr_O0b (sub _ _ o); omega) (by omega) k2 up
    obtain ⟨v', _, _, ⟨k', _, _, g3⟩, _⟩ := sub _ _ h2
    exact ⟨h1, by omega, by omega⟩
theorem gr_no7 (ok : gr_ok A) (hn : ∀ s m n c, ¬ gr_Rg A s m n c) {s v : Nat} {c : Int} (hs : s < 7) : ¬ gr_W A 7 s v c := by
  intro g
  obtain ⟨m, h⟩ := gr_noring hn g
  have := gr_Sn6 (gr_oki ok) hs h
  omega
theorem gr_noc (hn : ∀ s m n c, ¬ gr_Rg A s m n c) {v n : Nat} {c : Int} (h0 : 1 ≤ n) : ¬ gr_W A n v v c := by
  intro g
  obtain ⟨m, h⟩ := gr_noring hn g
  cases n with
  | zero => omega
  | succ n =>
    obtain ⟨u, m', c', x, h, a, e, b, _⟩ := h
    have := gr_Ss h
    rw [b] at this
    exact absurd this (by decide)
/-- the points on a ring of least mean -/
theorem gr_onr {p q t b : Int} (h : gr_Mean A p q) (hb : 1 ≤ b) (ht : t * q = p * b) {v : Nat} : (∃ n c, 1 ≤ n ∧ n ≤ 7 ∧ gr_W A n v v c ∧ (∀ d, gr_W A n v v d → c ≤ d) ∧ c * b = t * (n : Int)) → ∃ m n c, gr_Rg A v m n c ∧ q * c = p * n := by
  rintro ⟨n, c, h1, h2, h3, h4, h5⟩
  obtain ⟨k, rfl⟩ : ∃ k, n = k + 1 := ⟨n - 1, by omega⟩
  have q0 := h.1
  have k1 : q * c = p * ((k + 1 : Nat) : Int) := by
    have k2 : c * q ≤ p * ((k + 1 : Nat) : Int) := gr_crl (b2 := b) (by omega) (by omega) (by omega) (Int.le_of_eq h5) (Int.le_of_eq ht)
    have k3 := gr_M1 h h3
    rw [Int.mul_comm c q] at k2
    omega
  obtain ⟨m, n', c', g1, g2, _⟩ := gr_M4 h h3 k1
  exact ⟨m, n', c', g1, g2⟩
theorem gr_onr' (ok : gr_ok A) {p q t b : Int} (h : gr_Mean A p q) (hb : 1 ≤ b) (ht : t * q = p * b) {v m n : Nat} {c : Int} (hv : v < 7) (hr : gr_Rg A v m n c) (hc : q * c = p * n) : 1 ≤ n ∧ n ≤ 7 ∧ gr_W A n v v c ∧ (∀ d, gr_W A n v v d → c ≤ d) ∧ c * b = t * (n : Int) := by
  have hn := gr_Rgn (gr_oki ok) hv hr
  have q0 := h.1
  refine ⟨hn.1, hn.2.1, gr_RgW hr, fun d g => ?_, ?_⟩
  · have k := gr_M1 h g
    rw [← hc] at k
    exact Int.le_of_mul_le_mul_left k q0
  · have k1 : c * q = p * n := by rw [Int.mul_comm, hc]
    have k2 : c * b ≤ t * n := gr_crl (b2 := q) (by omega) (by omega) (by omega) (Int.le_of_eq k1) (Int.le_of_eq ht.symm)
    have k3 : t * n ≤ c * b := gr_crl (b2 := q) (by omega) (by omega) (by omega) (Int.le_of_eq ht) (Int.le_of_eq k1.symm)
    omega
end
end
section
/-! the reference's best ring so far -/
section
variable {A : Nat → Nat → Int → Prop}
theorem gr_RCr (ok : gr_ok A) {m v : Nat} {c : Int} (h : gr_RC A m v c) : v < 7 ∧ m < 128 ∧ 1 ≤ gr_pc m ∧ gr_pc m ≤ 7 ∧ -140 ≤ c ∧ c ≤ 140 := by
  obtain ⟨s, hs, g⟩ := gr_RCRg (gr_oki ok) h
  have h1 := gr_Rgn (gr_oki ok) hs g
  have h2 := gr_Wb ok (gr_RgW g)
  obtain ⟨s', _, d, x, _, a, _⟩ := h
  have h3 := ok _ _ _ a
  omega
def gr_rb (A : Nat → Nat → Int → Prop) (i : Nat) (t b : Int) (P : Nat) : Prop := (t = -3000 ∧ b = 1 ∧ P = 0 ∧ ∀ m v c, v < 7 → 7 * m + v < i → ¬ gr_RC A m v c) ∨ (t ≠ -3000 ∧ -140 ≤ t ∧ t ≤ 140 ∧ 1 ≤ b ∧ b ≤ 7 ∧ (∃ m v, v < 7 ∧ 7 * m + v < i ∧ gr_RC A m v t ∧ b = gr_pc m) ∧ (∀ m v c, v < 7 → 7 * m + v < i → gr_RC A m v c → t * gr_pc m ≤ c * b) ∧ P < 128 ∧ ∀ p, P.testBit p = true ↔ ∃ m v c, v < 7 ∧ 7 * m + v < i ∧ gr_RC A m v c ∧ c * b = t * gr_pc m ∧ m.testBit p = true)
theorem gr_ixs {m v m' v' : Nat} (hv : v < 7) (hv' : v' < 7) : 7 * m' + v' < 7 * m + v + 1 ↔ 7 * m' + v' < 7 * m + v ∨ (m' = m ∧ v' = v) := by omega
theorem gr_rbN {t b : Int} {P m v : Nat} (hv : v < 7) (h : gr_rb A (7 * m + v) t b P) (hn : ∀ c, ¬ gr_RC A m v c) : gr_rb A (7 * m + v + 1) t b P := by
  have key : ∀ m' v' c, v' < 7 → 7 * m' + v' < 7 * m + v + 1 → gr_RC A m' v' c → 7 * m' + v' < 7 * m + v := by
    intro m' v' c hv' hi g
    rcases (gr_ixs hv hv').mp hi with h | ⟨rfl, rfl⟩
    · exact h
    · exact absurd g (hn c)
  rcases h with ⟨h1, h2, h3, h4⟩ | ⟨h1, h2, h3, h4, h5, ⟨m1, v1, k1, k2, k3, k4⟩, h7, h8, h9⟩
  · exact Or.inl ⟨h1, h2, h3, fun m' v' c hv' hi g => h4 m' v' c hv' (key _ _ _ hv' hi g) g⟩
  · refine Or.inr ⟨h1, h2, h3, h4, h5, ⟨m1, v1, k1, by omega, k3, k4⟩, fun m' v' c hv' hi g => h7 m' v' c hv' (key _ _ _ hv' hi g) g, h8, fun p => ?_⟩
    rw [h9 p]
    constructor
    · rintro ⟨m', v', c, g1, g2, g3⟩
      exact ⟨m', v', c, g1, by omega, g3⟩
    · rintro ⟨m', v', c, g1, g2, g3, g4⟩
      exact ⟨m', v', c, g1, key _ _ _ g1 g2 g3, g3, g4⟩
theorem gr_rbB (ok : gr_ok A) {t b w : Int} {P m v : Nat} (hv : v < 7) (h : gr_rb A (7 * m + v) t b P) (hw : gr_RC A m v w) (hm : ∀ c, gr_RC A m v c → w ≤ c) (hc : t = -3000 ∨ w * b < t * gr_pc m) : gr_rb A (7 * m + v + 1) w (gr_pc m) m := by
  have r := gr_RCr ok hw
  have old : ∀ m' v' c, v' < 7 → 7 * m' + v' < 7 * m + v → gr_RC A m' v' c → w * gr_pc m' < c * gr_pc m := by
    intro m' v' c hv' hi g
    rcases h with ⟨h1, h2, h3, h4⟩ | ⟨h1, h2, h3, h4, h5, h6, h7, h8, h9⟩
    · exact absurd g (h4 _ _ _ hv' hi)
    · have hc' := hc.resolve_left h1
      have r' := gr_RCr ok g
      exact gr_crs (b2 := b) (by omega) (by omega) (by omega) hc' (h7 _ _ _ hv' hi g)
  have here : ∀ c, gr_RC A m v c → w * gr_pc m ≤ c * gr_pc m := by
    intro c g
    exact Int.mul_le_mul_of_nonneg_right (hm c g) (by omega)
  refine Or.inr ⟨by omega, by omega, by omega, by omega, by omega, ⟨m, v, hv, by omega, hw, rfl⟩, fun m' v' c hv' hi g => ?_, by omega, fun p => ?_⟩
  · rcases (gr_ixs hv hv').mp hi with h' | ⟨rfl, rfl⟩
    · exact Int.le_of_lt (old _ _ _ hv' h' g)
    · exact here c g
  · constructor
    · intro hp
      exact ⟨m, v, w, hv, by omega, hw, rfl, hp⟩
    · rintro ⟨m', v', c, g1, g2, g3, g4, g5⟩
      rcases (gr_ixs hv g1).mp g2 with h' | ⟨rfl, rfl⟩
      · have := old _ _ _ g1 h' g3
        omega
      · exact g5
theorem gr_rbK (ok : gr_ok A) {t b w : Int} {P P' m v : Nat} (hv : v < 7) (h : gr_rb A (7 * m + v) t b P) (hw : gr_RC A m v w) (hm : ∀ c, gr_RC A m v c → w ≤ c) (ht : t ≠ -3000) (hc : ¬ w * b < t * gr_pc m) (hP : (w * b = t * gr_pc m ∧ P' = P ||| m) ∨ (w * b ≠ t * gr_pc m ∧ P' = P)) : gr_rb A (7 * m + v + 1) t b P' := by
  have r := gr_RCr ok hw
  rcases h with ⟨h1, h2, h3, h4⟩ | ⟨h1, h2, h3, h4, h5, ⟨m1, v1, k1, k2, k3, k4⟩, h7, h8, h9⟩
  · exact absurd h1 ht
  · have here : ∀ c, gr_RC A m v c → w * b ≤ c * b := by
      intro c g
      exact Int.mul_le_mul_of_nonneg_right (hm c g) (by omega)
    refine Or.inr ⟨h1, h2, h3, h4, h5, ⟨m1, v1, k1, by omega, k3, k4⟩, fun m' v' c hv' hi g => ?_, ?_, fun p => ?_⟩
    · rcases (gr_ixs hv hv').mp hi with h' | ⟨rfl, rfl⟩
      · exact h7 _ _ _ hv' h' g
      · have := here c g
        omega
    · rcases hP with ⟨_, e⟩ | ⟨_, e⟩
      · rw [e]
        exact Nat.or_lt_two_pow (n := 7) h8 r.2.1
      · rw [e]
        exact h8
    · have e1 : P'.testBit p = true ↔ P.testBit p = true ∨ (w * b = t * gr_pc m ∧ m.testBit p = true) := by
        rcases hP with ⟨e0, e⟩ | ⟨e0, e⟩
        · rw [e, Nat.testBit_or, Bool.or_eq_true]
          exact ⟨fun h => h.imp id fun h => ⟨e0, h⟩, fun h => h.imp id fun h => h.2⟩
        · rw [e]
          exact ⟨Or.inl, fun h => h.elim id fun h => absurd h.1 e0⟩
      rw [e1, h9 p]
      constructor
      · rintro (⟨m', v', c, g1, g2, g3⟩ | ⟨g1, g2⟩)
        · exact ⟨m', v', c, g1, by omega, g3⟩
        · exact ⟨m, v, w, hv, by omega, hw, g1, g2⟩
      · rintro ⟨m', v', c, g1, g2, g3, g4, g5⟩
        rcases (gr_ixs hv g1).mp g2 with h' | ⟨rfl, rfl⟩
        · exact Or.inl ⟨m', v', c, g1, h', g3, g4, g5⟩
        · have := here c g3
          exact Or.inr ⟨by omega, g5⟩
/-- when all sets are through -/
theorem gr_rbF (ok : gr_ok A) {t b : Int} {P : Nat} (h : gr_rb A (7 * 128) t b P) : (t = -3000 ∧ b = 1 ∧ P = 0 ∧ ∀ s m n c, ¬ gr_Rg A s m n c) ∨ (t ≠ -3000 ∧ -140 ≤ t ∧ t ≤ 140 ∧ 1 ≤ b ∧ b ≤ 7 ∧ gr_Mean A t b ∧ P < 128 ∧ ∀ p, P.testBit p = true ↔ ∃ m n c, gr_Rg A p m n c ∧ b * c = t * n) := by
  have key : ∀ s m n c, gr_Rg A s m n c → ∃ v, v < 7 ∧ 7 * m + v < 7 * 128 ∧ gr_RC A m v c ∧ gr_pc m = n := by
    intro s m n c g
    obtain ⟨v, h1, x, y, a⟩ := gr_RgRC g
    have r := gr_RCr ok h1
    have hs : s < 7 := by
      obtain ⟨n', u, c', x, g, a, _⟩ := g
      exact (ok _ _ _ a).2.1
    have r2 := gr_Rgn (gr_oki ok) hs g
    exact ⟨v, r.1, by omega, h1, r2.2.2.2⟩
  rcases h with ⟨h1, h2, h3, h4⟩ | ⟨h1, h2, h3, h4, h5, ⟨m1, v1, k1, k2, k3, k4⟩, h7, h8, h9⟩
  · refine Or.inl ⟨h1, h2, h3, fun s m n c g => ?_⟩
    obtain ⟨v, g1, g2, g3, _⟩ := key s m n c g
    exact h4 _ _ _ g1 g2 g3
  · refine Or.inr ⟨h1, h2, h3, h4, h5, ⟨by omega, ?_, fun s m n c g => ?_⟩, h8, fun p => ?_⟩
    · obtain ⟨s, _, g⟩ := gr_RCRg (gr_oki ok) k3
      exact ⟨s, m1, gr_pc m1, t, g, by rw [← k4, Int.mul_comm]⟩
    · obtain ⟨v, g1, g2, g3, g4⟩ := key s m n c g
      have := h7 _ _ _ g1 g2 g3
      rw [g4, Int.mul_comm c b] at this
      exact this
    · rw [h9 p]
      constructor
      · rintro ⟨m, v, c, g1, g2, g3, g4, g5⟩
        obtain ⟨s, _, g⟩ := gr_RCRg (gr_oki ok) g3
        exact ⟨m, gr_pc m, c, gr_rot g g5, by rw [Int.mul_comm, g4]⟩
      · rintro ⟨m, n, c, g, e⟩
        obtain ⟨v, g1, g2, g3, g4⟩ := key p m n c g
        have hp : m.testBit p = true := by
          obtain ⟨n', u, c', x, g, _⟩ := g
          exact gr_Ss g
        exact ⟨m, v, c, g1, g2, g3, by rw [Int.mul_comm, e, g4], hp⟩
end
end
section
/-! the arcs as the arrays hold them; sets as they are answered -/
def hx_K (th fr to wt : Nat → Int32) (j u v : Nat) (x : Int) : Prop := ¬ th j = 0 ∧ fr j = nI u ∧ to j = nI v ∧ u < 7 ∧ v < 7 ∧ (wt j).toInt = x
def hx_A (th fr to wt : Nat → Int32) : Nat → Nat → Int → Prop := gr_AK (hx_K th fr to wt)
def hx_ok (th fr to wt : Nat → Int32) : Prop := ∀ j, j < 20 → (th j = 0 ∨ th j = 1) ∧ (∃ u, u < 7 ∧ fr j = nI u) ∧ (∃ v, v < 7 ∧ to j = nI v) ∧ -20 ≤ (wt j).toInt ∧ (wt j).toInt ≤ 20
section
variable {th fr to wt : Nat → Int32}
theorem hx_grok (h : hx_ok th fr to wt) : gr_ok (hx_A th fr to wt) := by
  rintro u v x ⟨j, hj, h1, h2, h3, h4, h5, h6⟩
  have := (h j hj).2.2.2
  omega
theorem hx_arc (h : hx_ok th fr to wt) {j : Nat} (hj : j < 20) : ∃ u v x, u < 7 ∧ v < 7 ∧ fr j = nI u ∧ to j = nI v ∧ (wt j).toInt = x ∧ -20 ≤ x ∧ x ≤ 20 ∧ (th j = 0 → ∀ u' v' x', ¬ hx_K th fr to wt j u' v' x') ∧ (¬ th j = 0 → (∀ u' v' x', hx_K th fr to wt j u' v' x' ↔ u' = u ∧ v' = v ∧ x' = x) ∧ hx_A th fr to wt u v x) := by
  obtain ⟨_, ⟨u, hu, eu⟩, ⟨v, hv, ev⟩, hw1, hw2⟩ := h j hj
  have key : ¬ th j = 0 → ∀ u' v' x', hx_K th fr to wt j u' v' x' ↔ u' = u ∧ v' = v ∧ x' = (wt j).toInt := by
    intro ht u' v' x'
    constructor
    · rintro ⟨_, h2, h3, h4, h5, h6⟩
      rw [eu] at h2
      rw [ev] at h3
      exact ⟨((nI_eq (by omega) (by omega)).mp h2).symm, ((nI_eq (by omega) (by omega)).mp h3).symm, h6.symm⟩
    · rintro ⟨rfl, rfl, rfl⟩
      exact ⟨ht, eu, ev, hu, hv, rfl⟩
  refine ⟨u, v, (wt j).toInt, hu, hv, eu, ev, rfl, hw1, hw2, fun h0 u' v' x' hk => hk.1 h0, fun h0 => ⟨key h0, j, hj, (key h0 u v _).mpr ⟨rfl, rfl, rfl⟩⟩⟩
end
def hx_set (P : Nat → Prop) (n : Nat) (r : Int32) : Prop := ∃ m, r = nI m ∧ m < 2 ^ n ∧ ∀ i, m.testBit i = true ↔ i < n ∧ P i
theorem hx_set0 (P : Nat → Prop) : hx_set P 0 0 := ⟨0, rfl, by decide, fun i => by simp⟩
theorem hx_setT {P : Nat → Prop} {n : Nat} {r : Int32} (h : hx_set P n r) (hn : n < 31) (hp : P n) : hx_set P (n + 1) (r ||| ((1 : Int32) <<< (nI n &&& 31))) := by
  obtain ⟨m, rfl, h1, h2⟩ := h
  refine ⟨m ||| 2 ^ n, ?_, ?_, fun i => ?_⟩
  · rw [hp_shl n hn, hp_or]
  · refine Nat.or_lt_two_pow (Nat.lt_trans h1 (Nat.pow_lt_pow_right (by decide) (by omega))) (Nat.pow_lt_pow_right (by decide) (by omega))
  · rw [Nat.testBit_or, Bool.or_eq_true, h2 i, Nat.testBit_two_pow, decide_eq_true_eq]
    constructor
    · rintro (⟨g1, g2⟩ | rfl)
      · exact ⟨by omega, g2⟩
      · exact ⟨by omega, hp⟩
    · rintro ⟨g1, g2⟩
      by_cases e : n = i
      · exact Or.inr e
      · exact Or.inl ⟨by omega, g2⟩
theorem hx_setF {P : Nat → Prop} {n : Nat} {r : Int32} (h : hx_set P n r) (hp : ¬ P n) : hx_set P (n + 1) r := by
  obtain ⟨m, rfl, h1, h2⟩ := h
  refine ⟨m, rfl, Nat.lt_trans h1 (Nat.pow_lt_pow_right (by decide) (by omega)), fun i => ?_⟩
  rw [h2 i]
  constructor
  · rintro ⟨g1, g2⟩
    exact ⟨by omega, g2⟩
  · rintro ⟨g1, g2⟩
    by_cases e : i = n
    · subst e
      exact absurd g2 hp
    · exact ⟨by omega, g2⟩
theorem hx_setU {P P' : Nat → Prop} {n : Nat} {r r' : Int32} (h : hx_set P n r) (h' : hx_set P' n r') (e : ∀ i, i < n → (P i ↔ P' i)) : r = r' := by
  obtain ⟨m, rfl, h1, h2⟩ := h
  obtain ⟨m', rfl, h1', h2'⟩ := h'
  refine congrArg nI (Nat.eq_of_testBit_eq fun i => ?_)
  have k : m.testBit i = true ↔ m'.testBit i = true := by
    rw [h2 i, h2' i]
    exact ⟨fun g => ⟨g.1, (e i g.1).mp g.2⟩, fun g => ⟨g.1, (e i g.1).mpr g.2⟩⟩
  cases z : m.testBit i <;> cases z' : m'.testBit i <;> simp [z, z'] at k ⊢
end
section
/-! the component: joined, empty tables, engine 0 -/
def hx_j (a b : Int32) : Int32 := if a = 1000000 then 1000000 else if b = 1000000 then 1000000 else if a = (-1000000) then (-1000000) else if b = (-1000000) then (-1000000) else a + b
theorem hx_jw {post : Int32 → Prop} {a b : Int32} (h : post (hx_j a b)) : wpX_joined post a b := by
  unfold hx_j at h
  refine br_c (fun e => ?_) (fun e => br_c (fun e2 => ?_) (fun e2 => br_c (fun e3 => ?_) (fun e3 => br_c (fun e4 => ?_) (fun e4 => ?_))))
  · rwa [if_pos e] at h
  · rwa [if_neg e, if_pos e2] at h
  · rwa [if_neg e, if_neg e2, if_pos e3] at h
  · rwa [if_neg e, if_neg e2, if_neg e3, if_pos e4] at h
  · rwa [if_neg e, if_neg e2, if_neg e3, if_neg e4] at h
theorem hx_jt {a b : Int32} (ha : -1000000 ≤ a.toInt ∧ a.toInt ≤ 1000000) (hb : -1000000 ≤ b.toInt ∧ b.toInt ≤ 1000000) : (hx_j a b).toInt = gr_j a.toInt b.toInt := by
  unfold hx_j
  by_cases e : a = 1000000
  · rw [if_pos e, e, hp_F, gr_j_F]
  · rw [if_neg e]
    rw [hp_eq, hp_F] at e
    by_cases e2 : b = 1000000
    · rw [if_pos e2, e2, hp_F, gr_j_F']
    · rw [if_neg e2]
      rw [hp_eq, hp_F] at e2
      by_cases e3 : a = (-1000000)
      · rw [if_pos e3, e3, hp_D, gr_j_D e2]
      · rw [if_neg e3]
        rw [hp_eq, hp_D] at e3
        by_cases e4 : b = (-1000000)
        · rw [if_pos e4, e4, hp_D, gr_j_D' e]
        · rw [if_neg e4]
          rw [hp_eq, hp_D] at e4
          rw [gr_j_n e e3 e2 e4]
          exact hp_add rfl rfl (by omega) (by omega)
theorem hx_jE {post : Int32 → Prop} {a b : Int32} {x y : Int} (ha : a.toInt = x) (hb : b.toInt = y) (hx : -1000000 ≤ x ∧ x ≤ 1000000) (hy : -1000000 ≤ y ∧ y ≤ 1000000) (h : ∀ r : Int32, r.toInt = gr_j x y → post r) : wpX_joined post a b := by
  subst ha hb
  exact hx_jw (h _ (hx_jt hx hy))
theorem hx_ut {b : Nat → Int32} {k j : Nat} {x : Int32} : (upd b k x j).toInt = if j = k then x.toInt else (b j).toInt := by
  unfold upd
  split <;> rfl
theorem gr_rgr {z : Int} (h : gr_rg z) : -1000000 ≤ z ∧ z ≤ 1000000 := by
  unfold gr_rg at h
  omega
theorem gr_Cr {A : Nat → Nat → Int → Prop} (ok : gr_ok A) {b s v : Nat} {z : Int} (hb : b ≤ 10000) (h : gr_C A b s v z) : gr_rg z := (gr_Crg ok hb h).1
theorem gr_settle {A : Nat → Nat → Int → Prop} (ok : gr_ok A) {b s v : Nat} {r z : Int} (hs : s < 7) (hr : gr_C A b s v r) (hz : z ≤ 1000000) (hl : r < z) (h6 : ∀ n c, n ≤ 6 → gr_W A n s v c → z ≤ c) : gr_L A s v := by
  rcases hr with e | ⟨_, h⟩ | ⟨n, hn, h⟩
  · omega
  · exact h
  · refine Classical.byContradiction fun nl => ?_
    obtain ⟨n', c', h1, h2, h3⟩ := gr_small ok hs h nl
    have := h6 n' c' h1 h2
    omega
theorem hx_startEmpty_table {post : SX → Prop} {f_queueStart f_queueLength f_leastTop f_leastBottom : Int32} {a_arcThere a_arcFrom a_arcTo a_arcWeight a_table a_otherTable a_squared a_levels a_setCells a_onRingBelowZero a_queue a_queued a_arcsUsed : Nat → Int32} (h : ∀ b : Nat → Int32, (∀ s t, s < 7 → t < 7 → (b (7 * s + t)).toInt = if s = t then 0 else 1000000) → post (f_queueStart, f_queueLength, f_leastTop, f_leastBottom, a_arcThere, a_arcFrom, a_arcTo, a_arcWeight, b, a_otherTable, a_squared, a_levels, a_setCells, a_onRingBelowZero, a_queue, a_queued, a_arcsUsed)) : wpX_startEmpty__table post (f_queueStart, f_queueLength, f_leastTop, f_leastBottom, a_arcThere, a_arcFrom, a_arcTo, a_arcWeight, a_table, a_otherTable, a_squared, a_levels, a_setCells, a_onRingBelowZero, a_queue, a_queued, a_arcsUsed) := by
  have second : ∀ b0 : Nat → Int32, (∀ j, j < 49 → (b0 j).toInt = 1000000) → ∃ n, wX_startEmpty__table_21 post f_queueStart f_queueLength f_leastTop f_leastBottom n 0 a_arcThere a_arcFrom a_arcTo a_arcWeight b0 a_otherTable a_squared a_levels a_setCells a_onRingBelowZero a_queue a_queued a_arcsUsed := by
    intro b0 hb0
    refine loop_0 (fun n i (b : Nat → Int32) => wX_startEmpty__table_21 post f_queueStart f_queueLength f_leastTop f_leastBottom n (nI i) a_arcThere a_arcFrom a_arcTo a_arcWeight b a_otherTable a_squared a_levels a_setCells a_onRingBelowZero a_queue a_queued a_arcsUsed) (fun i b => ∀ s t, s < 7 → t < 7 → (b (7 * s + t)).toInt = if s = t ∧ s < i then 0 else 1000000) 7 b0 ?_ ?_ ?_
    · intro s t hs ht
      rw [if_neg (by omega)]
      exact hb0 _ (by omega)
    · intro n b hb
      refine br_t (nI_le (Nat.le_refl 7) (by decide)) (h b fun s t hs ht => ?_)
      rw [hb s t hs ht]
      split <;> split <;> omega
    · intro n i b hi hb hn
      have ck : (nI (7 * i + i)).toNatClampNeg = 7 * i + i := nI_clamp (by omega)
      refine br_f (nI_ge (b := 7) hi (by decide)) ?_
      rw [hp_ix, ck, nI_1]
      refine ⟨vp_in_nI (by omega) (by decide), nm_e (nm_e (hn _ fun s t hs ht => ?_))⟩
      rw [hx_ut, hb s t hs ht, hp_0]
      split <;> split <;> (try split) <;> omega
  refine loop_0 (fun n i (b : Nat → Int32) => wX_startEmpty__table_2 post f_queueStart f_queueLength f_leastTop f_leastBottom n (nI i) a_arcThere a_arcFrom a_arcTo a_arcWeight b a_otherTable a_squared a_levels a_setCells a_onRingBelowZero a_queue a_queued a_arcsUsed) (fun i b => ∀ j, j < i → (b j).toInt = 1000000) 49 a_table (fun j hj => absurd hj (by omega)) ?_ ?_
  · intro n b hb
    exact br_t (nI_le (Nat.le_refl 49) (by decide)) (second b hb)
  · intro n i b hi hb hn
    have ck : (nI i).toNatClampNeg = i := nI_clamp (by omega)
    refine br_f (nI_ge (b := 49) hi (by decide)) ?_
    rw [ck, nI_1]
    refine ⟨vp_in_nI hi (by decide), nm_e (nm_e (hn _ fun j hj => ?_))⟩
    rw [hx_ut, hp_F]
    by_cases e : j = i
    · rw [if_pos e]
    · rw [if_neg e]
      exact hb j (by omega)
theorem hx_startWithArcs_table {post : SX → Prop} {f_queueStart f_queueLength f_leastTop f_leastBottom : Int32} {a_arcThere a_arcFrom a_arcTo a_arcWeight a_table a_otherTable a_squared a_levels a_setCells a_onRingBelowZero a_queue a_queued a_arcsUsed : Nat → Int32} (ok : hx_ok a_arcThere a_arcFrom a_arcTo a_arcWeight) (h : ∀ b : Nat → Int32, (∀ s t, s < 7 → t < 7 → gr_C (hx_A a_arcThere a_arcFrom a_arcTo a_arcWeight) 1 s t (b (7 * s + t)).toInt) → (∀ p, p < 7 → (b (7 * p + p)).toInt ≤ 0) → (∀ u v x, (hx_A a_arcThere a_arcFrom a_arcTo a_arcWeight) u v x → (b (7 * u + v)).toInt ≤ x) → post (f_queueStart, f_queueLength, f_leastTop, f_leastBottom, a_arcThere, a_arcFrom, a_arcTo, a_arcWeight, b, a_otherTable, a_squared, a_levels, a_setCells, a_onRingBelowZero, a_queue, a_queued, a_arcsUsed)) : wpX_startWithArcs__table post (f_queueStart, f_queueLength, f_leastTop, f_leastBottom, a_arcThere, a_arcFrom, a_arcTo, a_arcWeight, a_table, a_otherTable, a_squared, a_levels, a_setCells, a_onRingBelowZero, a_queue, a_queued, a_arcsUsed) := by
  unfold wpX_startWithArcs__table
  refine hx_startEmpty_table fun b0 h0 => ?_
  refine loop_0 (fun n i (b : Nat → Int32) => wX_startWithArcs__table_6 post f_queueStart f_queueLength f_leastTop f_leastBottom n (nI i) a_arcThere a_arcFrom a_arcTo a_arcWeight b a_otherTable a_squared a_levels a_setCells a_onRingBelowZero a_queue a_queued a_arcsUsed) (fun i b => (∀ s t, s < 7 → t < 7 → gr_C (hx_A a_arcThere a_arcFrom a_arcTo a_arcWeight) 1 s t (b (7 * s + t)).toInt) ∧ (∀ p, p < 7 → (b (7 * p + p)).toInt ≤ 0) ∧ ∀ j u v x, j < i → (hx_K a_arcThere a_arcFrom a_arcTo a_arcWeight) j u v x → (b (7 * u + v)).toInt ≤ x) 20 b0 ?_ ?_ ?_
  · refine ⟨fun s t hs ht => ?_, fun p hp => ?_, fun j u v x hj => absurd hj (by omega)⟩
    · rw [h0 s t hs ht]
      by_cases e : s = t
      · subst e
        rw [if_pos rfl]
        exact Or.inr (Or.inr ⟨0, by omega, gr_W0 s⟩)
      · rw [if_neg e]
        exact Or.inl rfl
    · rw [h0 p p hp hp, if_pos rfl]
      omega
  · intro n b hb
    refine br_t (nI_le (Nat.le_refl 20) (by decide)) (h b hb.1 hb.2.1 ?_)
    rintro u v x ⟨j, hj, hk⟩
    exact hb.2.2 j u v x hj hk
  · intro n i b hi hb hn
    obtain ⟨u, v, x, hu, hv, eu, ev, ew, hx1, hx2, hk0, hk1⟩ := hx_arc ok hi
    have ck : (nI i).toNatClampNeg = i := nI_clamp (by omega)
    have cu : (nI (7 * u + v)).toNatClampNeg = 7 * u + v := nI_clamp (by omega)
    have vi : vp_in (nI i) 20 := vp_in_nI hi (by decide)
    have vu : vp_in (nI (7 * u + v)) 49 := vp_in_nI (by omega) (by decide)
    refine br_f (nI_ge (b := 20) hi (by decide)) ?_
    simp only [ck, eu, ev, hp_ix, nI_1]
    refine ⟨vi, vi, nm_e ⟨vi, ?_⟩⟩
    simp only [cu]
    have keep : (∀ u' v' x', (hx_K a_arcThere a_arcFrom a_arcTo a_arcWeight) i u' v' x' → (b (7 * u' + v')).toInt ≤ x') → wX_startWithArcs__table_6 post f_queueStart f_queueLength f_leastTop f_leastBottom n (nI (i + 1)) a_arcThere a_arcFrom a_arcTo a_arcWeight b a_otherTable a_squared a_levels a_setCells a_onRingBelowZero a_queue a_queued a_arcsUsed := by
      intro hh
      refine hn b ⟨hb.1, hb.2.1, fun j u' v' x' hj hk => ?_⟩
      by_cases e : j = i
      · subst e
        exact hh u' v' x' hk
      · exact hb.2.2 j u' v' x' (by omega) hk
    refine br_c (fun t0 => nm_e (keep fun u' v' x' hk => absurd hk (hk0 t0 _ _ _))) (fun t0 => ⟨vi, vu, ?_⟩)
    obtain ⟨kk, ha⟩ := hk1 t0
    refine br_c (fun c => nm_e (keep fun u' v' x' hk => ?_)) (fun c => ⟨vi, vu, nm_e (nm_e (hn _ ⟨fun s t hs ht => ?_, fun p hp => ?_, fun j u' v' x' hj hk => ?_⟩))⟩)
    · obtain ⟨rfl, rfl, rfl⟩ := (kk _ _ _).mp hk
      rw [hp_le, ew] at c
      exact c
    · rw [hx_ut]
      by_cases e : 7 * s + t = 7 * u + v
      · have e1 : s = u := by omega
        have e2 : t = v := by omega
        subst e1 e2
        rw [if_pos e, ew]
        exact Or.inr (Or.inr ⟨1, by omega, gr_W1 ha⟩)
      · rw [if_neg e]
        exact hb.1 s t hs ht
    · rw [hx_ut]
      rw [hp_le, ew] at c
      by_cases e : 7 * p + p = 7 * u + v
      · rw [if_pos e, ew]
        have := hb.2.1 p hp
        rw [e] at this
        omega
      · rw [if_neg e]
        exact hb.2.1 p hp
    · rw [hx_ut]
      rw [hp_le, ew] at c
      by_cases e : j = i
      · subst e
        obtain ⟨rfl, rfl, rfl⟩ := (kk _ _ _).mp hk
        rw [if_pos rfl, ew]
        omega
      · have := hb.2.2 j u' v' x' (by omega) hk
        by_cases e2 : 7 * u' + v' = 7 * u + v
        · rw [if_pos e2, ew]
          rw [e2] at this
          omega
        · rw [if_neg e2]
          exact this
theorem hx_useEveryArc_table {post : SX → Prop} {f_queueStart f_queueLength f_leastTop f_leastBottom : Int32} {a_arcThere a_arcFrom a_arcTo a_arcWeight a_table a_otherTable a_squared a_levels a_setCells a_onRingBelowZero a_queue a_queued a_arcsUsed : Nat → Int32} (ok : hx_ok a_arcThere a_arcFrom a_arcTo a_arcWeight) {s b : Nat} (hs : s < 7) (hb : b + 20 ≤ 10000) (x3 : Int32) (hC : ∀ v, v < 7 → gr_C (hx_A a_arcThere a_arcFrom a_arcTo a_arcWeight) b s v (a_table (7 * s + v)).toInt) (h6 : ¬ x3 = 0 → ∀ n v c, n ≤ 6 → gr_W (hx_A a_arcThere a_arcFrom a_arcTo a_arcWeight) n s v c → (a_table (7 * s + v)).toInt ≤ c) (h : ∀ b' : Nat → Int32, (∀ j, (∀ v, v < 7 → j ≠ 7 * s + v) → b' j = a_table j) → (∀ v, v < 7 → gr_C (hx_A a_arcThere a_arcFrom a_arcTo a_arcWeight) (b + 20) s v (b' (7 * s + v)).toInt) → (∀ v, v < 7 → (b' (7 * s + v)).toInt ≤ (a_table (7 * s + v)).toInt) → (∀ u v x, (hx_A a_arcThere a_arcFrom a_arcTo a_arcWeight) u v x → (b' (7 * s + v)).toInt ≤ gr_j (a_table (7 * s + u)).toInt x) → (¬ x3 = 0 → ∀ v, v < 7 → (b' (7 * s + v)).toInt = (a_table (7 * s + v)).toInt ∨ (b' (7 * s + v)).toInt = -1000000) → post (f_queueStart, f_queueLength, f_leastTop, f_leastBottom, a_arcThere, a_arcFrom, a_arcTo, a_arcWeight, b', a_otherTable, a_squared, a_levels, a_setCells, a_onRingBelowZero, a_queue, a_queued, a_arcsUsed)) : wpX_useEveryArc__table post (f_queueStart, f_queueLength, f_leastTop, f_leastBottom, a_arcThere, a_arcFrom, a_arcTo, a_arcWeight, a_table, a_otherTable, a_squared, a_levels, a_setCells, a_onRingBelowZero, a_queue, a_queued, a_arcsUsed) (nI (7 * s)) x3 := by
  have gok := hx_grok ok
  refine loop_0 (fun n i (b' : Nat → Int32) => wX_useEveryArc__table_3 post (nI (7 * s)) x3 f_queueStart f_queueLength f_leastTop f_leastBottom n (nI i) a_arcThere a_arcFrom a_arcTo a_arcWeight b' a_otherTable a_squared a_levels a_setCells a_onRingBelowZero a_queue a_queued a_arcsUsed) (fun i b' => (∀ j, (∀ v, v < 7 → j ≠ 7 * s + v) → b' j = a_table j) ∧ (∀ v, v < 7 → gr_C (hx_A a_arcThere a_arcFrom a_arcTo a_arcWeight) (b + i) s v (b' (7 * s + v)).toInt) ∧ (∀ v, v < 7 → (b' (7 * s + v)).toInt ≤ (a_table (7 * s + v)).toInt) ∧ (∀ j u v x, j < i → (hx_K a_arcThere a_arcFrom a_arcTo a_arcWeight) j u v x → (b' (7 * s + v)).toInt ≤ gr_j (a_table (7 * s + u)).toInt x) ∧ (¬ x3 = 0 → ∀ v, v < 7 → (b' (7 * s + v)).toInt = (a_table (7 * s + v)).toInt ∨ (b' (7 * s + v)).toInt = -1000000)) 20 a_table ?_ ?_ ?_
  · exact ⟨fun j _ => rfl, hC, fun v _ => Int.le_refl _, fun j u v x hj => absurd hj (by omega), fun _ v _ => Or.inl rfl⟩
  · intro n b' ⟨p1, p2, p3, p4, p5⟩
    refine br_t (nI_le (Nat.le_refl 20) (by decide)) (h b' p1 p2 p3 ?_ p5)
    rintro u v x ⟨j, hj, hk⟩
    exact p4 j u v x hj hk
  · intro n i b' hi ⟨p1, p2, p3, p4, p5⟩ hn
    obtain ⟨u, v, x, hu, hv, eu, ev, ew, hx1, hx2, hk0, hk1⟩ := hx_arc ok hi
    have ck : (nI i).toNatClampNeg = i := nI_clamp (by omega)
    have cu : (nI (7 * s + u)).toNatClampNeg = 7 * s + u := nI_clamp (by omega)
    have cv : (nI (7 * s + v)).toNatClampNeg = 7 * s + v := nI_clamp (by omega)
    have vi : vp_in (nI i) 20 := vp_in_nI hi (by decide)
    have vu : vp_in (nI (7 * s + u)) 49 := vp_in_nI (by omega) (by decide)
    have vv : vp_in (nI (7 * s + v)) 49 := vp_in_nI (by omega) (by decide)
    have ru := gr_Cr gok (by omega) (p2 u hu)
    have rv := gr_Cr gok (by omega) (p2 v hv)
    have ru0 := gr_Cr gok (by omega) (hC u hu)
    refine br_f (nI_ge (b := 20) hi (by decide)) ?_
    simp only [ck, eu, ev, nI_add, nI_1, cu, cv]
    refine ⟨vi, br_c (fun t0 => nm_e (hn b' ⟨p1, fun v hv => gr_Cm (by omega) (p2 v hv), p3, fun j u' v' x' hj hk => ?_, p5⟩)) (fun t0 => ⟨vi, vu, vi, ?_⟩)⟩
    · by_cases e : j = i
      · subst e
        exact absurd hk (hk0 t0 _ _ _)
      · exact p4 j u' v' x' (by omega) hk
    obtain ⟨kk, ha⟩ := hk1 t0
    refine hx_jE rfl ew (gr_rgr ru) (by omega) fun r hr => ?_
    have jm := gr_jm ru ru0 (p3 u hu) ⟨hx1, hx2⟩
    have jC := gr_jC gok (by omega) (p2 u hu) ha
    have jlow : -1000000 ≤ gr_j (a_table (7 * s + u)).toInt x := by
      have := @gr_jc (a_table (7 * s + u)).toInt x
      unfold gr_rg at ru0
      omega
    refine ⟨vi, vv, br_c (fun c => nm_e (hn b' ⟨p1, fun v hv => gr_Cm (by omega) (p2 v hv), p3, fun j u' v' x' hj hk => ?_, p5⟩)) (fun c => ⟨vi, ?_⟩)⟩
    · rw [hp_le, hr] at c
      by_cases e : j = i
      · subst e
        obtain ⟨rfl, rfl, rfl⟩ := (kk _ _ _).mp hk
        omega
      · exact p4 j u' v' x' (by omega) hk
    rw [hp_le, hr] at c
    have step : ∀ q : Int32, q.toInt ≤ gr_j (b' (7 * s + u)).toInt x → -1000000 ≤ q.toInt → gr_C (hx_A a_arcThere a_arcFrom a_arcTo a_arcWeight) (b + i + 1) s v q.toInt → (¬ x3 = 0 → q.toInt = -1000000) → wX_useEveryArc__table_3 post (nI (7 * s)) x3 f_queueStart f_queueLength f_leastTop f_leastBottom n (nI (i + 1)) a_arcThere a_arcFrom a_arcTo a_arcWeight (upd b' (7 * s + v) q) a_otherTable a_squared a_levels a_setCells a_onRingBelowZero a_queue a_queued a_arcsUsed := by
      intro q q1 q2 q3 q4
      refine hn _ ⟨fun j hj => ?_, fun y hy => ?_, fun y hy => ?_, fun j u' v' x' hj hk => ?_, fun n3 y hy => ?_⟩
      · show upd b' (7 * s + v) q j = _
        rw [pk_un (hj v hv)]
        exact p1 j hj
      · rw [hx_ut]
        by_cases e : 7 * s + y = 7 * s + v
        · have e1 : y = v := by omega
          subst e1
          rw [if_pos rfl]
          exact q3
        · rw [if_neg e]
          exact gr_Cm (by omega) (p2 y hy)
      · rw [hx_ut]
        have := p3 y hy
        by_cases e : 7 * s + y = 7 * s + v
        · have e1 : y = v := by omega
          subst e1
          rw [if_pos rfl]
          omega
        · rw [if_neg e]
          exact this
      · rw [hx_ut]
        by_cases e : j = i
        · subst e
          obtain ⟨rfl, rfl, rfl⟩ := (kk _ _ _).mp hk
          rw [if_pos rfl]
          omega
        · have := p4 j u' v' x' (by omega) hk
          by_cases e2 : 7 * s + v' = 7 * s + v
          · rw [if_pos e2]
            rw [e2] at this
            omega
          · rw [if_neg e2]
            exact this
      · rw [hx_ut]
        by_cases e : 7 * s + y = 7 * s + v
        · rw [if_pos e]
          exact Or.inr (q4 n3)
        · rw [if_neg e]
          exact p5 n3 y hy
    refine br_c (fun z => ⟨vv, nm_e (nm_e (step r (by omega) ?_ ?_ (fun n3 => absurd z n3)))⟩) (fun z => ⟨vv, nm_e (nm_e (step (-1000000) ?_ ?_ ?_ (fun _ => hp_D)))⟩)
    · rw [hr]
      have := @gr_jc (b' (7 * s + u)).toInt x
      unfold gr_rg at ru
      omega
    · rw [hr]
      exact jC
    · rw [hp_D]
      have := @gr_jc (b' (7 * s + u)).toInt x
      unfold gr_rg at ru
      omega
    · rw [hp_D]
      omega
    · rw [hp_D]
      refine gr_CL (gr_settle gok hs jC (gr_rgr rv).2 (by omega) fun m c' hm g => ?_)
      exact Int.le_trans (p3 v hv) (h6 z m v c' hm g)
theorem hx_fillByRounds_table {post : SX → Prop} {f_queueStart f_queueLength f_leastTop f_leastBottom : Int32} {a_arcThere a_arcFrom a_arcTo a_arcWeight a_table a_otherTable a_squared a_levels a_setCells a_onRingBelowZero a_queue a_queued a_arcsUsed : Nat → Int32} (ok : hx_ok a_arcThere a_arcFrom a_arcTo a_arcWeight) (h : ∀ b : Nat → Int32, (∀ s t, s < 7 → t < 7 → gr_Ans (hx_A a_arcThere a_arcFrom a_arcTo a_arcWeight) s t (gr_cv (b (7 * s + t)).toInt)) → post (f_queueStart, f_queueLength, f_leastTop, f_leastBottom, a_arcThere, a_arcFrom, a_arcTo, a_arcWeight, b, a_otherTable, a_squared, a_levels, a_setCells, a_onRingBelowZero, a_queue, a_queued, a_arcsUsed)) : wpX_fillByRounds__table post (f_queueStart, f_queueLength, f_leastTop, f_leastBottom, a_arcThere, a_arcFrom, a_arcTo, a_arcWeight, a_table, a_otherTable, a_squared, a_levels, a_setCells, a_onRingBelowZero, a_queue, a_queued, a_arcsUsed) := by
  have gok := hx_grok ok
  unfold wpX_fillByRounds__table
  refine hx_startEmpty_table fun b0 h0 => ?_
  refine loop_0 (fun n i (b : Nat → Int32) => wX_fillByRounds__table_6 post n (nI i) f_queueStart f_queueLength f_leastTop f_leastBottom a_arcThere a_arcFrom a_arcTo a_arcWeight b a_otherTable a_squared a_levels a_setCells a_onRingBelowZero a_queue a_queued a_arcsUsed) (fun i b => (∀ s t, s < i → t < 7 → gr_Ans (hx_A a_arcThere a_arcFrom a_arcTo a_arcWeight) s t (gr_cv (b (7 * s + t)).toInt)) ∧ ∀ s t, i ≤ s → s < 7 → t < 7 → (b (7 * s + t)).toInt = if s = t then 0 else 1000000) 7 b0 ?_ ?_ ?_
  · exact ⟨fun s t hs => absurd hs (by omega), fun s t _ hs ht => h0 s t hs ht⟩
  · intro n b hb
    exact br_t (nI_le (Nat.le_refl 7) (by decide)) (h b fun s t hs ht => hb.1 s t hs ht)
  · intro n s b hs hb hn
    refine br_f (nI_ge (b := 7) hs (by decide)) ?_
    refine pk_loop (fun n' i (b' : Nat → Int32) => wX_fillByRounds__table_14 post (wX_fillByRounds__table_6 post n) (nI s) n' (nI i) f_queueStart f_queueLength f_leastTop f_leastBottom a_arcThere a_arcFrom a_arcTo a_arcWeight b' a_otherTable a_squared a_levels a_setCells a_onRingBelowZero a_queue a_queued a_arcsUsed) (fun i b' => 1 ≤ i ∧ (∀ j, (∀ v, v < 7 → j ≠ 7 * s + v) → b' j = b j) ∧ (∀ v, v < 7 → gr_C (hx_A a_arcThere a_arcFrom a_arcTo a_arcWeight) (20 * (i - 1)) s v (b' (7 * s + v)).toInt) ∧ (∀ m v c, m ≤ i - 1 → m ≤ 6 → gr_W (hx_A a_arcThere a_arcFrom a_arcTo a_arcWeight) m s v c → (b' (7 * s + v)).toInt ≤ c) ∧ (8 ≤ i → ∀ t, t < 7 → gr_L (hx_A a_arcThere a_arcFrom a_arcTo a_arcWeight) s t → ∃ v m c, (b' (7 * s + v)).toInt = -1000000 ∧ m ≤ 14 - i ∧ gr_W (hx_A a_arcThere a_arcFrom a_arcTo a_arcWeight) m v t c)) 14 1 b (by decide) ?_ ?_ ?_
    · refine ⟨Nat.le_refl 1, fun j _ => rfl, fun v hv => ?_, fun m v c hm _ g => ?_, fun h8 => absurd h8 (by decide)⟩
      · rw [hb.2 s v (Nat.le_refl s) hs hv]
        by_cases e : s = v
        · subst e
          rw [if_pos rfl]
          exact Or.inr (Or.inr ⟨0, by omega, gr_W0 s⟩)
        · rw [if_neg e]
          exact Or.inl rfl
      · have m0 : m = 0 := by omega
        subst m0
        obtain ⟨rfl, rfl⟩ := g
        rw [hb.2 s s (Nat.le_refl s) hs hs, if_pos rfl]
        omega
    · intro n' b' ⟨_, q1, q2, q3, q4⟩
      refine br_t (nI_le (Nat.le_refl 14) (by decide)) ?_
      rw [nI_1]
      refine nm_e (hn b' ⟨fun s' t hs' ht => ?_, fun s' t h1 h2 h3 => ?_⟩)
      · by_cases e : s' = s
        · subst e
          refine gr_fin gok hs (by decide : 20 * (14 - 1) ≤ 10000) (q2 t ht) (fun hl => ?_) (fun m c hm g => q3 m t c (by omega) hm g)
          obtain ⟨v, m, c, g1, g2, g3⟩ := q4 (by decide) t ht hl
          have m0 : m = 0 := by omega
          subst m0
          obtain ⟨rfl, _⟩ := g3
          exact g1
        · rw [q1 _ (fun v hv => by omega)]
          exact hb.1 s' t (by omega) ht
      · rw [q1 _ (fun v hv => by omega)]
        exact hb.2 s' t (by omega) h2 h3
    · intro n' i b' hi ⟨i1, q1, q2, q3, q4⟩ hn'
      refine br_f (nI_ge (b := 14) hi (by decide)) ?_
      have go : ∀ x3 : Int32, (¬ x3 = 0 ↔ 7 ≤ i) → wX_fillByRounds__table_37 post (wX_fillByRounds__table_6 post n) (wX_fillByRounds__table_14 post (wX_fillByRounds__table_6 post n) (nI s) n') (nI s) (nI i) x3 (nI (7 * s)) f_queueStart f_queueLength f_leastTop f_leastBottom a_arcThere a_arcFrom a_arcTo a_arcWeight b' a_otherTable a_squared a_levels a_setCells a_onRingBelowZero a_queue a_queued a_arcsUsed := by
        intro x3 h3
        unfold wX_fillByRounds__table_37
        refine hx_useEveryArc_table ok (b := 20 * (i - 1)) hs (by omega) x3 q2 (fun z m v c hm g => q3 m v c (by have := h3.mp z; omega) hm g) fun b2 r1 r2 r3 r4 r5 => ?_
        dsimp only
        rw [nI_1]
        refine nm_e (hn' b2 ⟨by omega, fun j hj => (r1 j hj).trans (q1 j hj), fun v hv => ?_, fun m v c hm h6 g => ?_, fun h8 t ht hl => ?_⟩)
        · have e : 20 * (i + 1 - 1) = 20 * (i - 1) + 20 := by omega
          rw [e]
          exact r2 v hv
        · by_cases c6 : i ≤ 6
          · exact gr_rowD gok (r := i - 1) (by omega) (z := fun v => (b' (7 * s + v)).toInt) (z' := fun v => (b2 (7 * s + v)).toInt) r3 r4 hs (fun m v c hm g => q3 m v c hm (by omega) g) m v c (by omega) g
          · exact Int.le_trans (r3 v (gr_Wv (gr_oki gok) hs g)) (q3 m v c (by omega) h6 g)
        · by_cases c7 : i = 7
          · have := gr_rowL gok (s := s) (t := t) (z := fun v => (b' (7 * s + v)).toInt) (z' := fun v => (b2 (7 * s + v)).toInt) hs r3 r4 (r5 (h3.mpr (by omega))) (fun m v c hm g => q3 m v c (by omega) hm g) hl
            obtain ⟨v, m, c, g1, g2, g3⟩ := this
            exact ⟨v, m, c, g1, by omega, g3⟩
          · have := gr_rowS gok (t := t) (k := 13 - i) (z := fun v => (b' (7 * s + v)).toInt) (z' := fun v => (b2 (7 * s + v)).toInt) ht (fun v hv => gr_Cr gok (by omega) (r2 v hv)) r3 r4 (by
              obtain ⟨v, m, c, g1, g2, g3⟩ := q4 (by omega) t ht hl
              exact ⟨v, m, c, g1, by omega, g3⟩)
            obtain ⟨v, m, c, g1, g2, g3⟩ := this
            exact ⟨v, m, c, g1, by omega, g3⟩
      rw [hp_m7]
      refine br_c (fun c => go 0 ⟨fun z => absurd rfl z, fun z => ?_⟩) (fun c => go 1 ⟨fun _ => ?_, fun _ => by decide⟩)
      · rw [show (7 : Int32) = nI 7 from rfl, nI_ltI (by omega) (by decide)] at c
        omega
      · rw [show (7 : Int32) = nI 7 from rfl, nI_ltI (by omega) (by decide)] at c
        omega
theorem hx_startEmpty_otherTable {post : SX → Prop} {f_queueStart f_queueLength f_leastTop f_leastBottom : Int32} {a_arcThere a_arcFrom a_arcTo a_arcWeight a_table a_otherTable a_squared a_levels a_setCells a_onRingBelowZero a_queue a_queued a_arcsUsed : Nat → Int32} (h : ∀ b : Nat → Int32, (∀ s t, s < 7 → t < 7 → (b (7 * s + t)).toInt = if s = t then 0 else 1000000) → post (f_queueStart, f_queueLength, f_leastTop, f_leastBottom, a_arcThere, a_arcFrom, a_arcTo, a_arcWeight, a_table, b, a_squared, a_levels, a_setCells, a_onRingBelowZero, a_queue, a_queued, a_arcsUsed)) : wpX_startEmpty__otherTable post (f_queueStart, f_queueLength, f_leastTop, f_leastBottom, a_arcThere, a_arcFrom, a_arcTo, a_arcWeight, a_table, a_otherTable, a_squared, a_levels, a_setCells, a_onRingBelowZero, a_queue, a_queued, a_arcsUsed) := by
  have second : ∀ b0 : Nat → Int32, (∀ j, j < 49 → (b0 j).toInt = 1000000) → ∃ n, wX_startEmpty__otherTable_21 post f_queueStart f_queueLength f_leastTop f_leastBottom n 0 a_arcThere a_arcFrom a_arcTo a_arcWeight a_table b0 a_squared a_levels a_setCells a_onRingBelowZero a_queue a_queued a_arcsUsed := by
    intro b0 hb0
    refine loop_0 (fun n i (b : Nat → Int32) => wX_startEmpty__otherTable_21 post f_queueStart f_queueLength f_leastTop f_leastBottom n (nI i) a_arcThere a_arcFrom a_arcTo a_arcWeight a_table b a_squared a_levels a_setCells a_onRingBelowZero a_queue a_queued a_arcsUsed) (fun i b => ∀ s t, s < 7 → t < 7 → (b (7 * s + t)).toInt = if s = t ∧ s < i then 0 else 1000000) 7 b0 ?_ ?_ ?_
    · intro s t hs ht
      rw [if_neg (by omega)]
      exact hb0 _ (by omega)
    · intro n b hb
      refine br_t (nI_le (Nat.le_refl 7) (by decide)) (h b fun s t hs ht => ?_)
      rw [hb s t hs ht]
      split <;> split <;> omega
    · intro n i b hi hb hn
      have ck : (nI (7 * i + i)).toNatClampNeg = 7 * i + i := nI_clamp (by omega)
      refine br_f (nI_ge (b := 7) hi (by decide)) ?_
      rw [hp_ix, ck, nI_1]
      refine ⟨vp_in_nI (by omega) (by decide), nm_e (nm_e (hn _ fun s t hs ht => ?_))⟩
      rw [hx_ut, hb s t hs ht, hp_0]
      split <;> split <;> (try split) <;> omega
  refine loop_0 (fun n i (b : Nat → Int32) => wX_startEmpty__otherTable_2 post f_queueStart f_queueLength f_leastTop f_leastBottom n (nI i) a_arcThere a_arcFrom a_arcTo a_arcWeight a_table b a_squared a_levels a_setCells a_onRingBelowZero a_queue a_queued a_arcsUsed) (fun i b => ∀ j, j < i → (b j).toInt = 1000000) 49 a_otherTable (fun j hj => absurd hj (by omega)) ?_ ?_
  · intro n b hb
    exact br_t (nI_le (Nat.le_refl 49) (by decide)) (second b hb)
  · intro n i b hi hb hn
    have ck : (nI i).toNatClampNeg = i := nI_clamp (by omega)
    refine br_f (nI_ge (b := 49) hi (by decide)) ?_
    rw [ck, nI_1]
    refine ⟨vp_in_nI hi (by decide), nm_e (nm_e (hn _ fun j hj => ?_))⟩
    rw [hx_ut, hp_F]
    by_cases e : j = i
    · rw [if_pos e]
    · rw [if_neg e]
      exact hb j (by omega)
theorem hx_startWithArcs_otherTable {post : SX → Prop} {f_queueStart f_queueLength f_leastTop f_leastBottom : Int32} {a_arcThere a_arcFrom a_arcTo a_arcWeight a_table a_otherTable a_squared a_levels a_setCells a_onRingBelowZero a_queue a_queued a_arcsUsed : Nat → Int32} (ok : hx_ok a_arcThere a_arcFrom a_arcTo a_arcWeight) (h : ∀ b : Nat → Int32, (∀ s t, s < 7 → t < 7 → gr_C (hx_A a_arcThere a_arcFrom a_arcTo a_arcWeight) 1 s t (b (7 * s + t)).toInt) → (∀ p, p < 7 → (b (7 * p + p)).toInt ≤ 0) → (∀ u v x, (hx_A a_arcThere a_arcFrom a_arcTo a_arcWeight) u v x → (b (7 * u + v)).toInt ≤ x) → post (f_queueStart, f_queueLength, f_leastTop, f_leastBottom, a_arcThere, a_arcFrom, a_arcTo, a_arcWeight, a_table, b, a_squared, a_levels, a_setCells, a_onRingBelowZero, a_queue, a_queued, a_arcsUsed)) : wpX_startWithArcs__otherTable post (f_queueStart, f_queueLength, f_leastTop, f_leastBottom, a_arcThere, a_arcFrom, a_arcTo, a_arcWeight, a_table, a_otherTable, a_squared, a_levels, a_setCells, a_onRingBelowZero, a_queue, a_queued, a_arcsUsed) := by
  unfold wpX_startWithArcs__otherTable
  refine hx_startEmpty_otherTable fun b0 h0 => ?_
  refine loop_0 (fun n i (b : Nat → Int32) => wX_startWithArcs__otherTable_6 post f_queueStart f_queueLength f_leastTop f_leastBottom n (nI i) a_arcThere a_arcFrom a_arcTo a_arcWeight a_table b a_squared a_levels a_setCells a_onRingBelowZero a_queue a_queued a_arcsUsed) (fun i b => (∀ s t, s < 7 → t < 7 → gr_C (hx_A a_arcThere a_arcFrom a_arcTo a_arcWeight) 1 s t (b (7 * s + t)).toInt) ∧ (∀ p, p < 7 → (b (7 * p + p)).toInt ≤ 0) ∧ ∀ j u v x, j < i → (hx_K a_arcThere a_arcFrom a_arcTo a_arcWeight) j u v x → (b (7 * u + v)).toInt ≤ x) 20 b0 ?_ ?_ ?_
  · refine ⟨fun s t hs ht => ?_, fun p hp => ?_, fun j u v x hj => absurd hj (by omega)⟩
    · rw [h0 s t hs ht]
      by_cases e : s = t
      · subst e
        rw [if_pos rfl]
        exact Or.inr (Or.inr ⟨0, by omega, gr_W0 s⟩)
      · rw [if_neg e]
        exact Or.inl rfl
    · rw [h0 p p hp hp, if_pos rfl]
      omega
  · intro n b hb
    refine br_t (nI_le (Nat.le_refl 20) (by decide)) (h b hb.1 hb.2.1 ?_)
    rintro u v x ⟨j, hj, hk⟩
    exact hb.2.2 j u v x hj hk
  · intro n i b hi hb hn
    obtain ⟨u, v, x, hu, hv, eu, ev, ew, hx1, hx2, hk0, hk1⟩ := hx_arc ok hi
    have ck : (nI i).toNatClampNeg = i := nI_clamp (by omega)
    have cu : (nI (7 * u + v)).toNatClampNeg = 7 * u + v := nI_clamp (by omega)
    have vi : vp_in (nI i) 20 := vp_in_nI hi (by decide)
    have vu : vp_in (nI (7 * u + v)) 49 := vp_in_nI (by omega) (by decide)
    refine br_f (nI_ge (b := 20) hi (by decide)) ?_
    simp only [ck, eu, ev, hp_ix, nI_1]
    refine ⟨vi, vi, nm_e ⟨vi, ?_⟩⟩
    simp only [cu]
    have keep : (∀ u' v' x', (hx_K a_arcThere a_arcFrom a_arcTo a_arcWeight) i u' v' x' → (b (7 * u' + v')).toInt ≤ x') → wX_startWithArcs__otherTable_6 post f_queueStart f_queueLength f_leastTop f_leastBottom n (nI (i + 1)) a_arcThere a_arcFrom a_arcTo a_arcWeight a_table b a_squared a_levels a_setCells a_onRingBelowZero a_queue a_queued a_arcsUsed := by
      intro hh
      refine hn b ⟨hb.1, hb.2.1, fun j u' v' x' hj hk => ?_⟩
      by_cases e : j = i
      · subst e
        exact hh u' v' x' hk
      · exact hb.2.2 j u' v' x' (by omega) hk
    refine br_c (fun t0 => nm_e (keep fun u' v' x' hk => absurd hk (hk0 t0 _ _ _))) (fun t0 => ⟨vi, vu, ?_⟩)
    obtain ⟨kk, ha⟩ := hk1 t0
    refine br_c (fun c => nm_e (keep fun u' v' x' hk => ?_)) (fun c => ⟨vi, vu, nm_e (nm_e (hn _ ⟨fun s t hs ht => ?_, fun p hp => ?_, fun j u' v' x' hj hk => ?_⟩))⟩)
    · obtain ⟨rfl, rfl, rfl⟩ := (kk _ _ _).mp hk
      rw [hp_le, ew] at c
      exact c
    · rw [hx_ut]
      by_cases e : 7 * s + t = 7 * u + v
      · have e1 : s = u := by omega
        have e2 : t = v := by omega
        subst e1 e2
        rw [if_pos e, ew]
        exact Or.inr (Or.inr ⟨1, by omega, gr_W1 ha⟩)
      · rw [if_neg e]
        exact hb.1 s t hs ht
    · rw [hx_ut]
      rw [hp_le, ew] at c
      by_cases e : 7 * p + p = 7 * u + v
      · rw [if_pos e, ew]
        have := hb.2.1 p hp
        rw [e] at this
        omega
      · rw [if_neg e]
        exact hb.2.1 p hp
    · rw [hx_ut]
      rw [hp_le, ew] at c
      by_cases e : j = i
      · subst e
        obtain ⟨rfl, rfl, rfl⟩ := (kk _ _ _).mp hk
        rw [if_pos rfl, ew]
        omega
      · have := hb.2.2 j u' v' x' (by omega) hk
        by_cases e2 : 7 * u' + v' = 7 * u + v
        · rw [if_pos e2, ew]
          rw [e2] at this
          omega
        · rw [if_neg e2]
          exact this
theorem hx_useEveryArc_otherTable {post : SX → Prop} {f_queueStart f_queueLength f_leastTop f_leastBottom : Int32} {a_arcThere a_arcFrom a_arcTo a_arcWeight a_table a_otherTable a_squared a_levels a_setCells a_onRingBelowZero a_queue a_queued a_arcsUsed : Nat → Int32} (ok : hx_ok a_arcThere a_arcFrom a_arcTo a_arcWeight) {s b : Nat} (hs : s < 7) (hb : b + 20 ≤ 10000) (x3 : Int32) (hC : ∀ v, v < 7 → gr_C (hx_A a_arcThere a_arcFrom a_arcTo a_arcWeight) b s v (a_otherTable (7 * s + v)).toInt) (h6 : ¬ x3 = 0 → ∀ n v c, n ≤ 6 → gr_W (hx_A a_arcThere a_arcFrom a_arcTo a_arcWeight) n s v c → (a_otherTable (7 * s + v)).toInt ≤ c) (h : ∀ b' : Nat → Int32, (∀ j, (∀ v, v < 7 → j ≠ 7 * s + v) → b' j = a_otherTable j) → (∀ v, v < 7 → gr_C (hx_A a_arcThere a_arcFrom a_arcTo a_arcWeight) (b + 20) s v (b' (7 * s + v)).toInt) → (∀ v, v < 7 → (b' (7 * s + v)).toInt ≤ (a_otherTable (7 * s + v)).toInt) → (∀ u v x, (hx_A a_arcThere a_arcFrom a_arcTo a_arcWeight) u v x → (b' (7 * s + v)).toInt ≤ gr_j (a_otherTable (7 * s + u)).toInt x) → (¬ x3 = 0 → ∀ v, v < 7 → (b' (7 * s + v)).toInt = (a_otherTable (7 * s + v)).toInt ∨ (b' (7 * s + v)).toInt = -1000000) → post (f_queueStart, f_queueLength, f_leastTop, f_leastBottom, a_arcThere, a_arcFrom, a_arcTo, a_arcWeight, a_table, b', a_squared, a_levels, a_setCells, a_onRingBelowZero, a_queue, a_queued, a_arcsUsed)) : wpX_useEveryArc__otherTable post (f_queueStart, f_queueLength, f_leastTop, f_leastBottom, a_arcThere, a_arcFrom, a_arcTo, a_arcWeight, a_table, a_otherTable, a_squared, a_levels, a_setCells, a_onRingBelowZero, a_queue, a_queued, a_arcsUsed) (nI (7 * s)) x3 := by
  have gok := hx_grok ok
  refine loop_0 (fun n i (b' : Nat → Int32) => wX_useEveryArc__otherTable_3 post (nI (7 * s)) x3 f_queueStart f_queueLength f_leastTop f_leastBottom n (nI i) a_arcThere a_arcFrom a_arcTo a_arcWeight a_table b' a_squared a_levels a_setCells a_onRingBelowZero a_queue a_queued a_arcsUsed) (fun i b' => (∀ j, (∀ v, v < 7 → j ≠ 7 * s + v) → b' j = a_otherTable j) ∧ (∀ v, v < 7 → gr_C (hx_A a_arcThere a_arcFrom a_arcTo a_arcWeight) (b + i) s v (b' (7 * s + v)).toInt) ∧ (∀ v, v < 7 → (b' (7 * s + v)).toInt ≤ (a_otherTable (7 * s + v)).toInt) ∧ (∀ j u v x, j < i → (hx_K a_arcThere a_arcFrom a_arcTo a_arcWeight) j u v x → (b' (7 * s + v)).toInt ≤ gr_j (a_otherTable (7 * s + u)).toInt x) ∧ (¬ x3 = 0 → ∀ v, v < 7 → (b' (7 * s + v)).toInt = (a_otherTable (7 * s + v)).toInt ∨ (b' (7 * s + v)).toInt = -1000000)) 20 a_otherTable ?_ ?_ ?_
  · exact ⟨fun j _ => rfl, hC, fun v _ => Int.le_refl _, fun j u v x hj => absurd hj (by omega), fun _ v _ => Or.inl rfl⟩
  · intro n b' ⟨p1, p2, p3, p4, p5⟩
    refine br_t (nI_le (Nat.le_refl 20) (by decide)) (h b' p1 p2 p3 ?_ p5)
    rintro u v x ⟨j, hj, hk⟩
    exact p4 j u v x hj hk
  · intro n i b' hi ⟨p1, p2, p3, p4, p5⟩ hn
    obtain ⟨u, v, x, hu, hv, eu, ev, ew, hx1, hx2, hk0, hk1⟩ := hx_arc ok hi
    have ck : (nI i).toNatClampNeg = i := nI_clamp (by omega)
    have cu : (nI (7 * s + u)).toNatClampNeg = 7 * s + u := nI_clamp (by omega)
    have cv : (nI (7 * s + v)).toNatClampNeg = 7 * s + v := nI_clamp (by omega)
    have vi : vp_in (nI i) 20 := vp_in_nI hi (by decide)
    have vu : vp_in (nI (7 * s + u)) 49 := vp_in_nI (by omega) (by decide)
    have vv : vp_in (nI (7 * s + v)) 49 := vp_in_nI (by omega) (by decide)
    have ru := gr_Cr gok (by omega) (p2 u hu)
    have rv := gr_Cr gok (by omega) (p2 v hv)
    have ru0 := gr_Cr gok (by omega) (hC u hu)
    refine br_f (nI_ge (b := 20) hi (by decide)) ?_
    simp only [ck, eu, ev, nI_add, nI_1, cu, cv]
    refine ⟨vi, br_c (fun t0 => nm_e (hn b' ⟨p1, fun v hv => gr_Cm (by omega) (p2 v hv), p3, fun j u' v' x' hj hk => ?_, p5⟩)) (fun t0 => ⟨vi, vu, vi, ?_⟩)⟩
    · by_cases e : j = i
      · subst e
        exact absurd hk (hk0 t0 _ _ _)
      · exact p4 j u' v' x' (by omega) hk
    obtain ⟨kk, ha⟩ := hk1 t0
    refine hx_jE rfl ew (gr_rgr ru) (by omega) fun r hr => ?_
    have jm := gr_jm ru ru0 (p3 u hu) ⟨hx1, hx2⟩
    have jC := gr_jC gok (by omega) (p2 u hu) ha
    have jlow : -1000000 ≤ gr_j (a_otherTable (7 * s + u)).toInt x := by
      have := @gr_jc (a_otherTable (7 * s + u)).toInt x
      unfold gr_rg at ru0
      omega
    refine ⟨vi, vv, br_c (fun c => nm_e (hn b' ⟨p1, fun v hv => gr_Cm (by omega) (p2 v hv), p3, fun j u' v' x' hj hk => ?_, p5⟩)) (fun c => ⟨vi, ?_⟩)⟩
    · rw [hp_le, hr] at c
      by_cases e : j = i
      · subst e
        obtain ⟨rfl, rfl, rfl⟩ := (kk _ _ _).mp hk
        omega
      · exact p4 j u' v' x' (by omega) hk
    rw [hp_le, hr] at c
    have step : ∀ q : Int32, q.toInt ≤ gr_j (b' (7 * s + u)).toInt x → -1000000 ≤ q.toInt → gr_C (hx_A a_arcThere a_arcFrom a_arcTo a_arcWeight) (b + i + 1) s v q.toInt → (¬ x3 = 0 → q.toInt = -1000000) → wX_useEveryArc__otherTable_3 post (nI (7 * s)) x3 f_queueStart f_queueLength f_leastTop f_leastBottom n (nI (i + 1)) a_arcThere a_arcFrom a_arcTo a_arcWeight a_table (upd b' (7 * s + v) q) a_squared a_levels a_setCells a_onRingBelowZero a_queue a_queued a_arcsUsed := by
      intro q q1 q2 q3 q4
      refine hn _ ⟨fun j hj => ?_, fun y hy => ?_, fun y hy => ?_, fun j u' v' x' hj hk => ?_, fun n3 y hy => ?_⟩
      · show upd b' (7 * s + v) q j = _
        rw [pk_un (hj v hv)]
        exact p1 j hj
      · rw [hx_ut]
        by_cases e : 7 * s + y = 7 * s + v
        · have e1 : y = v := by omega
          subst e1
          rw [if_pos rfl]
          exact q3
        · rw [if_neg e]
          exact gr_Cm (by omega) (p2 y hy)
      · rw [hx_ut]
        have := p3 y hy
        by_cases e : 7 * s + y = 7 * s + v
        · have e1 : y = v := by omega
          subst e1
          rw [if_pos rfl]
          omega
        · rw [if_neg e]
          exact this
      · rw [hx_ut]
        by_cases e : j = i
        · subst e
          obtain ⟨rfl, rfl, rfl⟩ := (kk _ _ _).mp hk
          rw [if_pos rfl]
          omega
        · have := p4 j u' v' x' (by omega) hk
          by_cases e2 : 7 * s + v' = 7 * s + v
          · rw [if_pos e2]
            rw [e2] at this
            omega
          · rw [if_neg e2]
            exact this
      · rw [hx_ut]
        by_cases e : 7 * s + y = 7 * s + v
        · rw [if_pos e]
          exact Or.inr (q4 n3)
        · rw [if_neg e]
          exact p5 n3 y hy
    refine br_c (fun z => ⟨vv, nm_e (nm_e (step r (by omega) ?_ ?_ (fun n3 => absurd z n3)))⟩) (fun z => ⟨vv, nm_e (nm_e (step (-1000000) ?_ ?_ ?_ (fun _ => hp_D)))⟩)
    · rw [hr]
      have := @gr_jc (b' (7 * s + u)).toInt x
      unfold gr_rg at ru
      omega
    · rw [hr]
      exact jC
    · rw [hp_D]
      have := @gr_jc (b' (7 * s + u)).toInt x
      unfold gr_rg at ru
      omega
    · rw [hp_D]
      omega
    · rw [hp_D]
      refine gr_CL (gr_settle gok hs jC (gr_rgr rv).2 (by omega) fun m c' hm g => ?_)
      exact Int.le_trans (p3 v hv) (h6 z m v c' hm g)
theorem hx_fillByRounds_otherTable {post : SX → Prop} {f_queueStart f_queueLength f_leastTop f_leastBottom : Int32} {a_arcThere a_arcFrom a_arcTo a_arcWeight a_table a_otherTable a_squared a_levels a_setCells a_onRingBelowZero a_queue a_queued a_arcsUsed : Nat → Int32} (ok : hx_ok a_arcThere a_arcFrom a_arcTo a_arcWeight) (h : ∀ b : Nat → Int32, (∀ s t, s < 7 → t < 7 → gr_Ans (hx_A a_arcThere a_arcFrom a_arcTo a_arcWeight) s t (gr_cv (b (7 * s + t)).toInt)) → post (f_queueStart, f_queueLength, f_leastTop, f_leastBottom, a_arcThere, a_arcFrom, a_arcTo, a_arcWeight, a_table, b, a_squared, a_levels, a_setCells, a_onRingBelowZero, a_queue, a_queued, a_arcsUsed)) : wpX_fillByRounds__otherTable post (f_queueStart, f_queueLength, f_leastTop, f_leastBottom, a_arcThere, a_arcFrom, a_arcTo, a_arcWeight, a_table, a_otherTable, a_squared, a_levels, a_setCells, a_onRingBelowZero, a_queue, a_queued, a_arcsUsed) := by
  have gok := hx_grok ok
  unfold wpX_fillByRounds__otherTable
  refine hx_startEmpty_otherTable fun b0 h0 => ?_
  refine loop_0 (fun n i (b : Nat → Int32) => wX_fillByRounds__otherTable_6 post n (nI i) f_queueStart f_queueLength f_leastTop f_leastBottom a_arcThere a_arcFrom a_arcTo a_arcWeight a_table b a_squared a_levels a_setCells a_onRingBelowZero a_queue a_queued a_arcsUsed) (fun i b => (∀ s t, s < i → t < 7 → gr_Ans (hx_A a_arcThere a_arcFrom a_arcTo a_arcWeight) s t (gr_cv (b (7 * s + t)).toInt)) ∧ ∀ s t, i ≤ s → s < 7 → t < 7 → (b (7 * s + t)).toInt = if s = t then 0 else 1000000) 7 b0 ?_ ?_ ?_
  · exact ⟨fun s t hs => absurd hs (by omega), fun s t _ hs ht => h0 s t hs ht⟩
  · intro n b hb
    exact br_t (nI_le (Nat.le_refl 7) (by decide)) (h b fun s t hs ht => hb.1 s t hs ht)
  · intro n s b hs hb hn
    refine br_f (nI_ge (b := 7) hs (by decide)) ?_
    refine pk_loop (fun n' i (b' : Nat → Int32) => wX_fillByRounds__otherTable_14 post (wX_fillByRounds__otherTable_6 post n) (nI s) n' (nI i) f_queueStart f_queueLength f_leastTop f_leastBottom a_arcThere a_arcFrom a_arcTo a_arcWeight a_table b' a_squared a_levels a_setCells a_onRingBelowZero a_queue a_queued a_arcsUsed) (fun i b' => 1 ≤ i ∧ (∀ j, (∀ v, v < 7 → j ≠ 7 * s + v) → b' j = b j) ∧ (∀ v, v < 7 → gr_C (hx_A a_arcThere a_arcFrom a_arcTo a_arcWeight) (20 * (i - 1)) s v (b' (7 * s + v)).toInt) ∧ (∀ m v c, m ≤ i - 1 → m ≤ 6 → gr_W (hx_A a_arcThere a_arcFrom a_arcTo a_arcWeight) m s v c → (b' (7 * s + v)).toInt ≤ c) ∧ (8 ≤ i → ∀ t, t < 7 → gr_L (hx_A a_arcThere a_arcFrom a_arcTo a_arcWeight) s t → ∃ v m c, (b' (7 * s + v)).toInt = -1000000 ∧ m ≤ 14 - i ∧ gr_W (hx_A a_arcThere a_arcFrom a_arcTo a_arcWeight) m v t c)) 14 1 b (by decide) ?_ ?_ ?_
    · refine ⟨Nat.le_refl 1, fun j _ => rfl, fun v hv => ?_, fun m v c hm _ g => ?_, fun h8 => absurd h8 (by decide)⟩
      · rw [hb.2 s v (Nat.le_refl s) hs hv]
        by_cases e : s = v
        · subst e
          rw [if_pos rfl]
          exact Or.inr (Or.inr ⟨0, by omega, gr_W0 s⟩)
        · rw [if_neg e]
          exact Or.inl rfl
      · have m0 : m = 0 := by omega
        subst m0
        obtain ⟨rfl, rfl⟩ := g
        rw [hb.2 s s (Nat.le_refl s) hs hs, if_pos rfl]
        omega
    · intro n' b' ⟨_, q1, q2, q3, q4⟩
      refine br_t (nI_le (Nat.le_refl 14) (by decide)) ?_
      rw [nI_1]
      refine nm_e (hn b' ⟨fun s' t hs' ht => ?_, fun s' t h1 h2 h3 => ?_⟩)
      · by_cases e : s' = s
        · subst e
          refine gr_fin gok hs (by decide : 20 * (14 - 1) ≤ 10000) (q2 t ht) (fun hl => ?_) (fun m c hm g => q3 m t c (by omega) hm g)
          obtain ⟨v, m, c, g1, g2, g3⟩ := q4 (by decide) t ht hl
          have m0 : m = 0 := by omega
          subst m0
          obtain ⟨rfl, _⟩ := g3
          exact g1
        · rw [q1 _ (fun v hv => by omega)]
          exact hb.1 s' t (by omega) ht
      · rw [q1 _ (fun v hv => by omega)]
        exact hb.2 s' t (by omega) h2 h3
    · intro n' i b' hi ⟨i1, q1, q2, q3, q4⟩ hn'
      refine br_f (nI_ge (b := 14) hi (by decide)) ?_
      have go : ∀ x3 : Int32, (¬ x3 = 0 ↔ 7 ≤ i) → wX_fillByRounds__otherTable_37 post (wX_fillByRounds__otherTable_6 post n) (wX_fillByRounds__otherTable_14 post (wX_fillByRounds__otherTable_6 post n) (nI s) n') (nI s) (nI i) x3 (nI (7 * s)) f_queueStart f_queueLength f_leastTop f_leastBottom a_arcThere a_arcFrom a_arcTo a_arcWeight a_table b' a_squared a_levels a_setCells a_onRingBelowZero a_queue a_queued a_arcsUsed := by
        intro x3 h3
        unfold wX_fillByRounds__otherTable_37
        refine hx_useEveryArc_otherTable ok (b := 20 * (i - 1)) hs (by omega) x3 q2 (fun z m v c hm g => q3 m v c (by have := h3.mp z; omega) hm g) fun b2 r1 r2 r3 r4 r5 => ?_
        dsimp only
        rw [nI_1]
        refine nm_e (hn' b2 ⟨by omega, fun j hj => (r1 j hj).trans (q1 j hj), fun v hv => ?_, fun m v c hm h6 g => ?_, fun h8 t ht hl => ?_⟩)
        · have e : 20 * (i + 1 - 1) = 20 * (i - 1) + 20 := by omega
          rw [e]
          exact r2 v hv
        · by_cases c6 : i ≤ 6
          · exact gr_rowD gok (r := i - 1) (by omega) (z := fun v => (b' (7 * s + v)).toInt) (z' := fun v => (b2 (7 * s + v)).toInt) r3 r4 hs (fun m v c hm g => q3 m v c hm (by omega) g) m v c (by omega) g
          · exact Int.le_trans (r3 v (gr_Wv (gr_oki gok) hs g)) (q3 m v c (by omega) h6 g)
        · by_cases c7 : i = 7
          · have := gr_rowL gok (s := s) (t := t) (z := fun v => (b' (7 * s + v)).toInt) (z' := fun v => (b2 (7 * s + v)).toInt) hs r3 r4 (r5 (h3.mpr (by omega))) (fun m v c hm g => q3 m v c (by omega) hm g) hl
            obtain ⟨v, m, c, g1, g2, g3⟩ := this
            exact ⟨v, m, c, g1, by omega, g3⟩
          · have := gr_rowS gok (t := t) (k := 13 - i) (z := fun v => (b' (7 * s + v)).toInt) (z' := fun v => (b2 (7 * s + v)).toInt) ht (fun v hv => gr_Cr gok (by omega) (r2 v hv)) r3 r4 (by
              obtain ⟨v, m, c, g1, g2, g3⟩ := q4 (by omega) t ht hl
              exact ⟨v, m, c, g1, by omega, g3⟩)
            obtain ⟨v, m, c, g1, g2, g3⟩ := this
            exact ⟨v, m, c, g1, by omega, g3⟩
      rw [hp_m7]
      refine br_c (fun c => go 0 ⟨fun z => absurd rfl z, fun z => ?_⟩) (fun c => go 1 ⟨fun _ => ?_, fun _ => by decide⟩)
      · rw [show (7 : Int32) = nI 7 from rfl, nI_ltI (by omega) (by decide)] at c
        omega
      · rw [show (7 : Int32) = nI 7 from rfl, nI_ltI (by omega) (by decide)] at c
        omega
end
section
/-! the reference: points, levels, reach, low, way -/
theorem hp_7 : (7 : Int32).toInt = 7 := by decide +kernel
theorem hp_6 : (6 : Int32).toInt = 6 := by decide +kernel
theorem hp_5 : (5 : Int32).toInt = 5 := by decide +kernel
theorem hp_4 : (4 : Int32).toInt = 4 := by decide +kernel
theorem hp_3 : (3 : Int32).toInt = 3 := by decide +kernel
theorem hp_2 : (2 : Int32).toInt = 2 := by decide +kernel
theorem hx_rng {p : Int32} {N : Nat} (hN : N < 2 ^ 31) : (∃ i, i < N ∧ p = nI i) ↔ 0 ≤ p.toInt ∧ p.toInt < N := by
  constructor
  · rintro ⟨i, hi, rfl⟩
    rw [nI_toInt (by omega)]
    omega
  · rintro ⟨h1, h2⟩
    have h0 : ¬ p < 0 := by
      rw [hp_lt, hp_0]
      omega
    obtain ⟨j, hj, rfl⟩ := nI_of h0
    rw [nI_toInt hj] at h2
    exact ⟨j, by omega, rfl⟩
def hx_pt (p : Int32) : Prop := ∃ i, i < 7 ∧ p = nI i
theorem hx_isPoint {post : Int32 → Prop} {p : Int32} (h0 : ¬ hx_pt p → post 0) (h1 : hx_pt p → post 1) : wpX_isPoint post p := by
  have e := hx_rng (p := p) (N := 7) (by decide)
  refine br_c (fun c => h0 fun z => ?_) (fun c => br_c (fun c2 => h0 fun z => ?_) (fun c2 => h1 (e.mpr ?_)))
  · have := e.mp z
    rw [hp_lt, hp_0] at c
    omega
  · have := e.mp z
    rw [hp_le, hp_7] at c2
    omega
  · rw [hp_lt, hp_0] at c
    rw [hp_le, hp_7] at c2
    omega
theorem hy_point {post : Int32 → Prop} {f_top f_bottom f_ringPoints : Int32} {a_there a_froms a_tos a_weights a_walks a_ways : Nat → Int32} {p : Int32} (h0 : ¬ hx_pt p → post 0) (h1 : hx_pt p → post 1) : wpY_point post (f_top, f_bottom, f_ringPoints, a_there, a_froms, a_tos, a_weights, a_walks, a_ways) p := by
  have e := hx_rng (p := p) (N := 7) (by decide)
  refine br_c (fun c => h0 fun z => ?_) (fun c => br_c (fun c2 => h0 fun z => ?_) (fun c2 => h1 (e.mpr ?_)))
  · have := e.mp z
    rw [hp_lt, hp_0] at c
    omega
  · have := e.mp z
    rw [hp_lt, hp_6] at c2
    omega
  · rw [hp_lt, hp_0] at c
    rw [hp_lt, hp_6] at c2
    omega
theorem hx_upds (b : Nat → Int32) (k : Nat) : upd b k (b k) = b := by
  funext j
  unfold upd
  by_cases e : j = k
  · rw [if_pos e, e]
  · rw [if_neg e]
theorem hp_c20 {i j : Nat} (hj : j < 20) (hi : i < 1000) : nI (20 * i + j) / 20 = nI i ∧ nI (20 * i + j) - nI (20 * i + j) / 20 * 20 = nI j := by
  have e : (20 : Int32) = nI 20 := rfl
  rw [e, pk_rem (by omega) (by decide) (by decide), pk_div (by omega) (by decide) (by decide)]
  exact ⟨congrArg nI (by omega), congrArg nI (by omega)⟩
theorem hp_c7 {i j : Nat} (hj : j < 7) (hi : i < 1000) : nI (7 * i + j) / 7 = nI i ∧ nI (7 * i + j) - nI (7 * i + j) / 7 * 7 = nI j := by
  have e : (7 : Int32) = nI 7 := rfl
  rw [e, pk_rem (by omega) (by decide) (by decide), pk_div (by omega) (by decide) (by decide)]
  exact ⟨congrArg nI (by omega), congrArg nI (by omega)⟩
def hy_lv (A : Nat → Nat → Int → Prop) (s : Nat) (b : Nat → Int32) : Prop := ∀ l v, l < 8 → v < 7 → gr_mn (-3000) (gr_W A l s v) (b (7 * l + v)).toInt
theorem hy_walk {post : SY → Prop} {f_top f_bottom f_ringPoints : Int32} {a_there a_froms a_tos a_weights a_walks a_ways : Nat → Int32} (ok : hx_ok a_there a_froms a_tos a_weights) {s : Nat} (hs : s < 7) (h : ∀ b : Nat → Int32, hy_lv (hx_A a_there a_froms a_tos a_weights) s b → post (f_top, f_bottom, f_ringPoints, a_there, a_froms, a_tos, a_weights, b, a_ways)) : wpY_walk post (f_top, f_bottom, f_ringPoints, a_there, a_froms, a_tos, a_weights, a_walks, a_ways) (nI s) := by
  have gok := hx_grok ok
  have second : ∀ b0 : Nat → Int32, (∀ j, j < 56 → (b0 j).toInt = if j = s then 0 else -3000) → ∃ n, wY_walk_34 post f_top f_bottom f_ringPoints n 0 a_there a_froms a_tos a_weights b0 a_ways := by
    intro b0 hb0
    refine loop_0 (fun n i (b : Nat → Int32) => wY_walk_34 post f_top f_bottom f_ringPoints n (nI i) a_there a_froms a_tos a_weights b a_ways) (fun c b => ∀ l v, l < 8 → v < 7 → gr_mn (-3000) (gr_PL (hx_K a_there a_froms a_tos a_weights) (fun s' => s' = s) c l v) (b (7 * l + v)).toInt) 140 b0 ?_ ?_ ?_
    · intro l v hl hv
      rw [hb0 _ (by omega)]
      cases l with
      | zero =>
        by_cases e : v = s
        · subst e
          rw [if_pos (by omega)]
          exact Or.inr ⟨by decide, ⟨rfl, rfl⟩, fun c hc => by have := hc.2; omega⟩
        · rw [if_neg (by omega)]
          exact Or.inl ⟨rfl, fun c hc => e hc.1⟩
      | succ l =>
        rw [if_neg (by omega)]
        exact Or.inl ⟨rfl, fun c hc => gr_PL0 (by omega) hc⟩
    · intro n b hb
      refine br_t (nI_le (Nat.le_refl 140) (by decide)) (h b fun l v hl hv => ?_)
      exact gr_mnC (fun c => ((gr_PLf (by omega)).trans gr_V1).symm) (hb l v hl hv)
    · intro n c b hc hb hn
      obtain ⟨i, j, rfl, hj, hi⟩ : ∃ i j, c = 20 * i + j ∧ j < 20 ∧ i < 7 := ⟨c / 20, c % 20, by omega, by omega, by omega⟩
      obtain ⟨u, v, x, hu, hv, eu, ev, ew, hx1, hx2, hk0, hk1⟩ := hx_arc ok hj
      obtain ⟨e1, e2⟩ := hp_c20 (i := i) hj (by omega)
      have ck : (nI j).toNatClampNeg = j := nI_clamp (by omega)
      have cu : (nI (7 * i + u)).toNatClampNeg = 7 * i + u := nI_clamp (by omega)
      have cv : (nI (7 * (i + 1) + v)).toNatClampNeg = 7 * (i + 1) + v := nI_clamp (by omega)
      have vj : vp_in (nI j) 20 := vp_in_nI hj (by decide)
      have vu : vp_in (nI (7 * i + u)) 56 := vp_in_nI (by omega) (by decide)
      have vv : vp_in (nI (7 * (i + 1) + v)) 56 := vp_in_nI (by omega) (by decide)
      have n20 : ¬ (20 : Int32) = 0 := by decide
      have ex4 : 7 * nI i + nI u = nI (7 * i + u) := hp_ix' i u
      have ex5 : 7 * nI i + 7 + nI v = nI (7 * (i + 1) + v) := by
        rw [show (7 : Int32) = nI 7 from rfl, pk_mul, nI_add, nI_add]
        exact congrArg nI (by omega)
      refine br_f (nI_ge (b := 140) hc (by decide)) ?_
      rw [e2, e1]
      refine ⟨n20, nm_e ⟨n20, vj, ?_⟩⟩
      rw [ck, eu, ex4, ev, ex5]
      refine nm_e ⟨n20, vj, nm_e ⟨vu, vj, ?_⟩⟩
      rw [cu]
      refine nm_e ⟨vj, ?_⟩
      have hV := hb i u (by omega) hu
      have hT := hb (i + 1) v (by omega) hv
      have rV := gr_lvr gok (by omega) hV
      have rT := gr_lvr gok (by omega) hT
      have keep : (∀ l v, l < 8 → v < 7 → gr_mn (-3000) (gr_PL (hx_K a_there a_froms a_tos a_weights) (fun s' => s' = s) (20 * i + j + 1) l v) (b (7 * l + v)).toInt) → ∀ x6, wY_walk_148 post (wY_walk_34 post f_top f_bottom f_ringPoints n) (nI (20 * i + j)) (nI (7 * (i + 1) + v)) x6 f_top f_bottom f_ringPoints a_there a_froms a_tos a_weights b a_ways := by
        intro hh x6
        unfold wY_walk_148 wY_walk_149
        refine br_t rfl ⟨vv, vv, ?_⟩
        rw [cv, hx_upds, nI_1]
        exact nm_e (nm_e (hn b hh))
      refine br_c (fun t0 => keep (gr_lev0 hj (hk0 t0) (z := fun l v => (b (7 * l + v)).toInt) hb) _) (fun t0 => ⟨vu, ?_⟩)
      obtain ⟨kk, ha⟩ := hk1 t0
      have nop : ((b (7 * i + u)).toInt = -3000 ∨ ((b (7 * (i + 1) + v)).toInt ≠ -3000 ∧ (b (7 * (i + 1) + v)).toInt ≤ (b (7 * i + u)).toInt + x)) → ∀ x6, wY_walk_148 post (wY_walk_34 post f_top f_bottom f_ringPoints n) (nI (20 * i + j)) (nI (7 * (i + 1) + v)) x6 f_top f_bottom f_ringPoints a_there a_froms a_tos a_weights b a_ways := by
        intro hh x6
        exact keep (gr_lev1 hj hi kk hu hv (z := fun l v => (b (7 * l + v)).toInt) (z' := fun l v => (b (7 * l + v)).toInt) hb (fun _ _ _ _ _ => rfl) (fun hne => by omega) (Or.inr ⟨hh, rfl⟩)) x6
      refine br_c (fun c1 => nop (Or.inl (by rw [hp_eq, hp_N] at c1; exact c1)) _) (fun c1 => ⟨vv, ?_⟩)
      rw [hp_eq, hp_N] at c1
      have es : (b (7 * i + u) + a_weights j).toInt = (b (7 * i + u)).toInt + x := hp_add rfl ew (by omega) (by omega)
      have yes : ((b (7 * (i + 1) + v)).toInt = -3000 ∨ (b (7 * i + u)).toInt + x < (b (7 * (i + 1) + v)).toInt) → wY_walk_144 post (wY_walk_34 post f_top f_bottom f_ringPoints n) (nI (20 * i + j)) (nI (7 * (i + 1) + v)) (b (7 * i + u) + a_weights j) f_top f_bottom f_ringPoints a_there a_froms a_tos a_weights b a_ways := by
        intro hh
        unfold wY_walk_144 wY_walk_149
        refine br_f (by decide) ⟨vv, ?_⟩
        rw [cv, nI_1]
        refine nm_e (nm_e (hn _ (gr_lev1 hj hi kk hu hv (z := fun l v => (b (7 * l + v)).toInt) (z' := fun l y => (upd b (7 * (i + 1) + v) (b (7 * i + u) + a_weights j) (7 * l + y)).toInt) hb (fun l y hl hy hne => ?_) (fun hne => by omega) (Or.inl ⟨c1, hh, ?_⟩))))
        · rw [pk_un (by omega)]
        · rw [pk_us, es]
      rw [cv]
      refine br_c (fun c2 => yes (Or.inl (by rw [hp_eq, hp_N] at c2; exact c2))) (fun c2 => ⟨vv, ?_⟩)
      rw [hp_eq, hp_N] at c2
      refine br_c (fun c3 => nop (Or.inr ⟨c2, ?_⟩) _) (fun c3 => yes (Or.inr ?_))
      · rw [hp_le, es] at c3
        exact c3
      · rw [hp_le, es] at c3
        omega
  refine loop_0 (fun n i (b : Nat → Int32) => wY_walk_2 post (nI s) f_top f_bottom f_ringPoints n (nI i) a_there a_froms a_tos a_weights b a_ways) (fun i b => ∀ j, j < i → (b j).toInt = if j = s then 0 else -3000) 56 a_walks (fun j hj => absurd hj (by omega)) ?_ ?_
  · intro n b hb
    exact br_t (nI_le (Nat.le_refl 56) (by decide)) (second b hb)
  · intro n i b hi hb hn
    have ck : (nI i).toNatClampNeg = i := nI_clamp (by omega)
    refine br_f (nI_ge (b := 56) hi (by decide)) ?_
    rw [ck, nI_1]
    refine br_c (fun e => ⟨vp_in_nI hi (by decide), nm_e (nm_e (hn _ fun j hj => ?_))⟩) (fun e => ⟨vp_in_nI hi (by decide), nm_e (nm_e (hn _ fun j hj => ?_))⟩)
    · rw [nI_eq (by omega) (by omega)] at e
      rw [hx_ut, hp_0]
      by_cases ej : j = i
      · rw [if_pos ej, if_pos (by omega)]
      · rw [if_neg ej]
        exact hb j (by omega)
    · rw [nI_eq (by omega) (by omega)] at e
      rw [hx_ut, hp_N]
      by_cases ej : j = i
      · rw [if_pos ej, if_neg (by omega)]
      · rw [if_neg ej]
        exact hb j (by omega)
theorem hy_shortest {post : Int32 → Prop} {f_top f_bottom f_ringPoints : Int32} {a_there a_froms a_tos a_weights a_walks a_ways : Nat → Int32} {A : Nat → Nat → Int → Prop} {s t : Nat} (ht : t < 7) (hw : hy_lv A s a_walks) (h : ∀ r : Int32, gr_mn (-3000) (fun c => ∃ l, l < 7 ∧ gr_W A l s t c) r.toInt → post r) : wpY_shortest post (f_top, f_bottom, f_ringPoints, a_there, a_froms, a_tos, a_weights, a_walks, a_ways) (nI t) := by
  refine loop_0 (fun n i (r : Int32) => wY_shortest_6 post (nI t) f_top f_bottom f_ringPoints a_there a_froms a_tos a_weights a_walks a_ways n r (nI i)) (fun i r => gr_mn (-3000) (fun c => ∃ l, l < i ∧ gr_W A l s t c) r.toInt) 7 (-3000) (Or.inl ⟨hp_N, fun c ⟨l, hl, _⟩ => absurd hl (by omega)⟩) ?_ ?_
  · intro n r hr
    exact br_t (nI_le (Nat.le_refl 7) (by decide)) (h r hr)
  · intro n i r hi hr hn
    have ck : (nI (7 * i + t)).toNatClampNeg = 7 * i + t := nI_clamp (by omega)
    have hz := hw i t (by omega) ht
    have ee : ∀ c, (∃ l, l < i + 1 ∧ gr_W A l s t c) ↔ (∃ l, l < i ∧ gr_W A l s t c) ∨ gr_W A i s t c := by
      intro c
      constructor
      · rintro ⟨l, hl, g⟩
        by_cases e : l = i
        · subst e
          exact Or.inr g
        · exact Or.inl ⟨l, by omega, g⟩
      · rintro (⟨l, hl, g⟩ | g)
        · exact ⟨l, by omega, g⟩
        · exact ⟨i, by omega, g⟩
    refine br_f (nI_ge (b := 7) hi (by decide)) ?_
    rw [hp_ix', ck, nI_1]
    refine ⟨vp_in_nI (by omega) (by decide), nm_e (br_c (fun c1 => nm_e (hn r ?_)) (fun c1 => br_c (fun c2 => nm_e (hn _ ?_)) (fun c2 => br_c (fun c3 => nm_e (hn r ?_)) (fun c3 => nm_e (hn _ ?_)))))⟩
    · rw [hp_eq, hp_N] at c1
      exact gr_mnK ee hr hz (Or.inl c1)
    · rw [hp_eq, hp_N] at c1 c2
      exact gr_mnT ee hr hz c1 (Or.inl c2)
    · rw [hp_eq, hp_N] at c1 c2
      rw [hp_le] at c3
      exact gr_mnK ee hr hz (Or.inr ⟨c2, c3⟩)
    · rw [hp_eq, hp_N] at c1 c2
      rw [hp_le] at c3
      exact gr_mnT ee hr hz c1 (Or.inr (by omega))
theorem hy_reached {post : Int32 → Prop} {f_top f_bottom f_ringPoints : Int32} {a_there a_froms a_tos a_weights a_walks a_ways : Nat → Int32} (ok : hx_ok a_there a_froms a_tos a_weights) {s : Nat} (hs : s < 7) (h : ∀ r : Int32, hx_set (gr_R (hx_A a_there a_froms a_tos a_weights) s) 7 r → post r) : wpY_reached post (f_top, f_bottom, f_ringPoints, a_there, a_froms, a_tos, a_weights, a_walks, a_ways) (nI s) := by
  have gok := hx_grok ok
  unfold wpY_reached
  refine hy_point (fun z => absurd ⟨s, hs, rfl⟩ z) fun _ => br_f (by decide) ?_
  rw [hp_shl s (by omega)]
  refine nm_e ?_
  refine loop_0 (fun n i (r : Int32) => wY_reached_18 post f_top f_bottom f_ringPoints a_there a_froms a_tos a_weights a_walks a_ways n r (nI i)) (fun c r => ∃ i j m, c = 20 * i + j ∧ j < 20 ∧ r = nI m ∧ m < 128 ∧ (∀ t, m.testBit t = true → gr_R (hx_A a_there a_froms a_tos a_weights) s t) ∧ (∀ n v x, n ≤ i → gr_W (hx_A a_there a_froms a_tos a_weights) n s v x → m.testBit v = true) ∧ ∀ j' u v x n y, j' < j → (hx_K a_there a_froms a_tos a_weights) j' u v x → n ≤ i → gr_W (hx_A a_there a_froms a_tos a_weights) n s u y → m.testBit v = true) 140 (nI (2 ^ s)) ?_ ?_ ?_
  · refine ⟨0, 0, 2 ^ s, rfl, by decide, rfl, (gr_pc_pow s hs).2, fun t ht => ?_, fun n v x hn g => ?_, fun j' u v x n y hj => absurd hj (by omega)⟩
    · rw [Nat.testBit_two_pow] at ht
      have e : s = t := of_decide_eq_true ht
      subst e
      exact gr_Rr s
    · have n0 : n = 0 := by omega
      subst n0
      obtain ⟨rfl, _⟩ := g
      exact Nat.testBit_two_pow_self
  · rintro n r ⟨i, j, m, e, hj, rfl, hm, h1, h2, h3⟩
    refine br_t (nI_le (Nat.le_refl 140) (by decide)) (h _ ⟨m, rfl, hm, fun t => ⟨fun ht => ?_, fun ht => ?_⟩⟩)
    · refine ⟨?_, h1 t ht⟩
      refine Classical.byContradiction fun hn => ?_
      have lt : m < 2 ^ t := by
        have le : 2 ^ 7 ≤ 2 ^ t := Nat.pow_le_pow_right (by decide) (by omega)
        omega
      rw [Nat.testBit_lt_two_pow lt] at ht
      exact absurd ht (by decide)
    · obtain ⟨k, c, hk, g⟩ := gr_R6 (gr_oki gok) hs ht.2
      exact h2 k t c (by omega) g
  · rintro n c r hc ⟨i, j, m, rfl, hj, rfl, hm, h1, h2, h3⟩ hn
    obtain ⟨u, v, x, hu, hv, eu, ev, ew, hx1, hx2, hk0, hk1⟩ := hx_arc ok hj
    obtain ⟨_, e2⟩ := hp_c20 (i := i) hj (by omega)
    have ck : (nI j).toNatClampNeg = j := nI_clamp (by omega)
    have vj : vp_in (nI j) 20 := vp_in_nI hj (by decide)
    have n20 : ¬ (20 : Int32) = 0 := by decide
    have go : ∀ m' : Nat, m' < 128 → (∀ t, m.testBit t = true → m'.testBit t = true) → (∀ t, m'.testBit t = true → gr_R (hx_A a_there a_froms a_tos a_weights) s t) → (∀ u v x n y, (hx_K a_there a_froms a_tos a_weights) j u v x → n ≤ i → gr_W (hx_A a_there a_froms a_tos a_weights) n s u y → m'.testBit v = true) → wY_reached_18 post f_top f_bottom f_ringPoints a_there a_froms a_tos a_weights a_walks a_ways n (nI m') (nI (20 * i + j + 1)) := by
      intro m' g1 g2 g3 g4
      have part : ∀ j' u v x n y, j' < j + 1 → (hx_K a_there a_froms a_tos a_weights) j' u v x → n ≤ i → gr_W (hx_A a_there a_froms a_tos a_weights) n s u y → m'.testBit v = true := by
        intro j' u v x n y hj' hk hn' g
        by_cases e : j' = j
        · subst e
          exact g4 u v x n y hk hn' g
        · exact g2 _ (h3 j' u v x n y (by omega) hk hn' g)
      by_cases e : j + 1 < 20
      · exact hn _ ⟨i, j + 1, m', by omega, e, rfl, g1, g3, fun n v x hn' g => g2 _ (h2 n v x hn' g), part⟩
      · refine hn _ ⟨i + 1, 0, m', by omega, by decide, rfl, g1, g3, fun n v x hn' g => ?_, fun j' u v x n y hj' => absurd hj' (by omega)⟩
        by_cases e2 : n ≤ i
        · exact g2 _ (h2 n v x e2 g)
        · have e3 : n = i + 1 := by omega
          subst e3
          obtain ⟨u', c', x', g, ⟨j', hj', hk⟩, _⟩ := g
          exact part j' u' v x' i c' (by omega) hk (Nat.le_refl i) g
    refine br_f (nI_ge (b := 140) hc (by decide)) ?_
    rw [e2, nI_1]
    refine ⟨n20, nm_e ⟨vj, ?_⟩⟩
    rw [ck, eu, ev]
    refine br_c (fun t0 => nm_e (go m hm (fun _ h => h) h1 fun u v x n y hk => absurd hk (hk0 t0 _ _ _))) (fun t0 => ⟨vj, ?_⟩)
    obtain ⟨kk, ha⟩ := hk1 t0
    rw [hp_bit1 (by omega) (by omega), hp_shl v (by omega), hp_or]
    refine br_c (fun b => ⟨vj, nm_e (nm_e (go (m ||| 2 ^ v) (Nat.or_lt_two_pow (n := 7) hm (gr_pc_pow v hv).2) (fun t ht => ?_) (fun t ht => ?_) (fun u' v' x' n y hk _ _ => ?_)))⟩) (fun b => nm_e (go m hm (fun _ h => h) h1 fun u' v' x' n y hk hn' g => ?_))
    · rw [Nat.testBit_or, ht, Bool.true_or]
    · rw [Nat.testBit_or, Bool.or_eq_true, Nat.testBit_two_pow, decide_eq_true_eq] at ht
      rcases ht with ht | rfl
      · exact h1 t ht
      · exact gr_Rs (h1 u b) ha
    · obtain ⟨_, rfl, _⟩ := (kk _ _ _).mp hk
      rw [Nat.testBit_or, Nat.testBit_two_pow_self, Bool.or_true]
    · obtain ⟨rfl, rfl, _⟩ := (kk _ _ _).mp hk
      exact absurd (h2 n u' y hn' g) b
end
section
def hy_falls (A : Nat → Nat → Int → Prop) (s v : Nat) : Prop := ∃ c, gr_W A 7 s v c ∧ ∀ k d, k ≤ 6 → gr_W A k s v d → c < d
theorem hx_setlt {P : Nat → Prop} {r : Int32} (h : hx_set P 7 r) : ∃ m, r = nI m ∧ m < 128 ∧ ∀ i, m.testBit i = true ↔ i < 7 ∧ P i := h
theorem hy_low {post : Int32 → SY → Prop} {f_top f_bottom f_ringPoints : Int32} {a_there a_froms a_tos a_weights a_walks a_ways : Nat → Int32} (ok : hx_ok a_there a_froms a_tos a_weights) {s : Nat} (hs : s < 7) (h : ∀ (r : Int32) (b : Nat → Int32), hx_set (gr_L (hx_A a_there a_froms a_tos a_weights) s) 7 r → hy_lv (hx_A a_there a_froms a_tos a_weights) s b → post r (f_top, f_bottom, f_ringPoints, a_there, a_froms, a_tos, a_weights, b, a_ways)) : wpY_low post (f_top, f_bottom, f_ringPoints, a_there, a_froms, a_tos, a_weights, a_walks, a_ways) (nI s) := by
  have gok := hx_grok ok
  unfold wpY_low
  refine hy_point (fun z => absurd ⟨s, hs, rfl⟩ z) fun _ => br_f (by decide) ?_
  refine hy_walk ok hs fun b hb => ?_
  refine loop_0 (fun n i (r : Int32) => wY_low_21 post f_top f_bottom f_ringPoints a_there a_froms a_tos a_weights b a_ways n r (nI i)) (fun i r => ∃ m, r = nI m ∧ m < 128 ∧ ∀ t, m.testBit t = true ↔ t < 7 ∧ ∃ v, v < i ∧ hy_falls (hx_A a_there a_froms a_tos a_weights) s v ∧ gr_R (hx_A a_there a_froms a_tos a_weights) v t) 7 0 ?_ ?_ ?_
  · refine ⟨0, rfl, by decide, fun t => ?_⟩
    rw [Nat.zero_testBit]
    exact ⟨fun z => absurd z (by decide), fun ⟨_, v, hv, _⟩ => absurd hv (by omega)⟩
  · rintro n r ⟨m, rfl, hm, hb2⟩
    refine br_t (nI_le (Nat.le_refl 7) (by decide)) (h _ b ⟨m, rfl, hm, fun t => ?_⟩ hb)
    rw [hb2 t, gr_lowY gok hs]
    constructor
    · rintro ⟨ht, v, hv, g1, g2⟩
      exact ⟨ht, v, g2, g1⟩
    · rintro ⟨ht, v, g2, c, g1, g3⟩
      exact ⟨ht, v, gr_Wv (gr_oki gok) hs g1, ⟨c, g1, g3⟩, g2⟩
  · rintro n i r hi ⟨m, rfl, hm, hb2⟩ hn
    have e49 : (49 : Int32) + nI i = nI (49 + i) := by rw [show (49 : Int32) = nI 49 from rfl, nI_add]
    have ck : (nI (49 + i)).toNatClampNeg = 49 + i := nI_clamp (by omega)
    have vi : vp_in (nI (49 + i)) 56 := vp_in_nI (by omega) (by decide)
    have hz : gr_mn (-3000) (gr_W (hx_A a_there a_froms a_tos a_weights) 7 s i) (b (49 + i)).toInt := hb 7 i (by decide) hi
    have keep : ¬ hy_falls (hx_A a_there a_froms a_tos a_weights) s i → wY_low_63 post (wY_low_21 post f_top f_bottom f_ringPoints a_there a_froms a_tos a_weights b a_ways n) (nI m) (nI i) f_top f_bottom f_ringPoints a_there a_froms a_tos a_weights b a_ways := by
      intro nf
      unfold wY_low_63 wY_low_64
      refine br_t rfl ?_
      rw [nI_1]
      refine nm_e (hn _ ⟨m, rfl, hm, fun t => ?_⟩)
      rw [hb2 t]
      constructor
      · rintro ⟨ht, v, hv, g⟩
        exact ⟨ht, v, by omega, g⟩
      · rintro ⟨ht, v, hv, g⟩
        by_cases e : v = i
        · subst e
          exact absurd g.1 nf
        · exact ⟨ht, v, by omega, g⟩
    refine br_f (nI_ge (b := 7) hi (by decide)) ?_
    rw [e49, ck]
    refine ⟨vi, br_c (fun c => keep ?_) (fun c => ⟨vi, ?_⟩)⟩
    · rintro ⟨d, g, _⟩
      rw [hp_eq, hp_N] at c
      rcases hz with ⟨_, z⟩ | ⟨z, _⟩
      · exact z d g
      · exact z c
    rw [hp_eq, hp_N] at c
    have hz' : gr_W (hx_A a_there a_froms a_tos a_weights) 7 s i (b (49 + i)).toInt ∧ ∀ d, gr_W (hx_A a_there a_froms a_tos a_weights) 7 s i d → (b (49 + i)).toInt ≤ d := by
      rcases hz with ⟨z, _⟩ | ⟨_, z⟩
      · exact absurd z c
      · exact z
    have bz := gr_Wb gok hz'.1
    refine hy_shortest hi hb fun r hr => ?_
    have hr' : r.toInt ≠ -3000 ∧ (∃ l, l < 7 ∧ gr_W (hx_A a_there a_froms a_tos a_weights) l s i r.toInt) ∧ ∀ d, (∃ l, l < 7 ∧ gr_W (hx_A a_there a_froms a_tos a_weights) l s i d) → r.toInt ≤ d := by
      rcases hr with ⟨_, z⟩ | z
      · obtain ⟨k, d, hk, g⟩ := gr_R6 (gr_oki gok) hs ⟨_, _, hz'.1⟩
        exact absurd ⟨k, by omega, g⟩ (z d)
      · exact z
    refine br_c (fun c2 => keep ?_) (fun c2 => ?_)
    · rintro ⟨d, g1, g2⟩
      rw [hp_le] at c2
      obtain ⟨l, hl, gl⟩ := hr'.2.1
      have := g2 l _ (by omega) gl
      have := hz'.2 d g1
      omega
    · rw [hp_le] at c2
      have fl : hy_falls (hx_A a_there a_froms a_tos a_weights) s i := by
        refine ⟨_, hz'.1, fun k d hk g => ?_⟩
        have := hr'.2.2 d ⟨k, by omega, g⟩
        omega
      unfold wY_low_64
      refine br_f (by decide) (hy_reached ok hi fun r2 hr2 => ?_)
      obtain ⟨m2, rfl, hm2, h2⟩ := hx_setlt hr2
      rw [hp_or, nI_1]
      refine nm_e (nm_e (hn _ ⟨m ||| m2, rfl, Nat.or_lt_two_pow (n := 7) hm hm2, fun t => ?_⟩))
      rw [Nat.testBit_or, Bool.or_eq_true, hb2 t, h2 t]
      constructor
      · rintro (⟨ht, v, hv, g⟩ | ⟨ht, g⟩)
        · exact ⟨ht, v, by omega, g⟩
        · exact ⟨ht, i, by omega, fl, g⟩
      · rintro ⟨ht, v, hv, g⟩
        by_cases e : v = i
        · subst e
          exact Or.inr ⟨ht, g.2⟩
        · exact Or.inl ⟨ht, v, by omega, g⟩
theorem hy_way {post : Int32 → SY → Prop} {f_top f_bottom f_ringPoints : Int32} {a_there a_froms a_tos a_weights a_walks a_ways : Nat → Int32} (ok : hx_ok a_there a_froms a_tos a_weights) {s t : Nat} (hs : s < 7) (ht : t < 7) (h : ∀ (r : Int32) (b : Nat → Int32), gr_Ans (hx_A a_there a_froms a_tos a_weights) s t r.toInt → hy_lv (hx_A a_there a_froms a_tos a_weights) s b → post r (f_top, f_bottom, f_ringPoints, a_there, a_froms, a_tos, a_weights, b, a_ways)) : wpY_way post (f_top, f_bottom, f_ringPoints, a_there, a_froms, a_tos, a_weights, a_walks, a_ways) (nI s) (nI t) := by
  have gok := hx_grok ok
  unfold wpY_way
  refine hy_low ok hs fun r b hr hb => ?_
  obtain ⟨m, rfl, hm, h2⟩ := hx_setlt hr
  dsimp only
  rw [hp_bit1 (by omega) (by omega)]
  refine br_c (fun c => h _ b (Or.inr (Or.inl ⟨hp_L, ((h2 t).mp c).2⟩)) hb) (fun c => hy_shortest ht hb fun r hr => h r b ?_ hb)
  have nl : ¬ gr_L (hx_A a_there a_froms a_tos a_weights) s t := fun z => c ((h2 t).mpr ⟨ht, z⟩)
  rcases hr with ⟨e, z⟩ | ⟨_, ⟨l, hl, g⟩, z⟩
  · refine Or.inl ⟨e, fun hR => ?_⟩
    obtain ⟨k, d, hk, g⟩ := gr_R6 (gr_oki gok) hs hR
    exact z d ⟨k, by omega, g⟩
  · refine Or.inr (Or.inr ⟨⟨l, g⟩, fun n d g => ?_⟩)
    obtain ⟨n', c', g1, g2, g3⟩ := gr_small gok hs g nl
    have := z c' ⟨n', by omega, g2⟩
    omega
end
section
/-! the component: engines 1 and 2 -/
theorem gr_jrg {a x : Int} (ha : gr_rg a) (hx : x = -1000000 ∨ x = 0) : -1000000 ≤ gr_j a x ∧ gr_j a x ≤ 1000000 := by
  have := @gr_jc a x
  unfold gr_rg at ha
  omega
theorem gr_psrg {Z : Nat → Nat → Int} {m t : Nat} {y : Int} (hm : gr_rg (Z m m)) (ht : gr_rg (Z m t)) (hy : y = -1000000 ∨ y = 0 ∧ Z m m = 0) : -1000000 ≤ gr_ps Z m y m t ∧ gr_ps Z m y m t ≤ 1000000 := by
  have h1 := @gr_psle Z m m t y
  have j1 := @gr_jc (Z m m) y
  have j2 := @gr_jc (gr_j (Z m m) y) (Z m t)
  unfold gr_rg at hm ht
  omega
theorem hx_pass_table {post : SX → Prop} {f_queueStart f_queueLength f_leastTop f_leastBottom : Int32} {a_arcThere a_arcFrom a_arcTo a_arcWeight a_table a_otherTable a_squared a_levels a_setCells a_onRingBelowZero a_queue a_queued a_arcsUsed : Nat → Int32} {m : Nat} {y : Int32} (hm : m < 7) (hr : ∀ s t, s < 7 → t < 7 → gr_rg (a_table (7 * s + t)).toInt) (hy : y.toInt = -1000000 ∨ (y.toInt = 0 ∧ (a_table (7 * m + m)).toInt = 0)) (h : ∀ b : Nat → Int32, (∀ s t, s < 7 → t < 7 → (b (7 * s + t)).toInt = gr_ps (fun s t => (a_table (7 * s + t)).toInt) m y.toInt s t) → post (f_queueStart, f_queueLength, f_leastTop, f_leastBottom, a_arcThere, a_arcFrom, a_arcTo, a_arcWeight, b, a_otherTable, a_squared, a_levels, a_setCells, a_onRingBelowZero, a_queue, a_queued, a_arcsUsed)) : wpX_passThrough__table post (f_queueStart, f_queueLength, f_leastTop, f_leastBottom, a_arcThere, a_arcFrom, a_arcTo, a_arcWeight, a_table, a_otherTable, a_squared, a_levels, a_setCells, a_onRingBelowZero, a_queue, a_queued, a_arcsUsed) (nI m) y := by
  generalize hZ : (fun s t : Nat => (a_table (7 * s + t)).toInt) = Z at *
  have eZ : ∀ s t, (a_table (7 * s + t)).toInt = Z s t := fun s t => by rw [← hZ]
  have hrZ : ∀ s t, s < 7 → t < 7 → gr_rg (Z s t) := fun s t hs ht => by
    rw [← eZ]
    exact hr s t hs ht
  have hy' : y.toInt = -1000000 ∨ (y.toInt = 0 ∧ Z m m = 0) := by rwa [eZ] at hy
  have ry : y.toInt = -1000000 ∨ y.toInt = 0 := by omega
  refine loop_0 (fun n i (b : Nat → Int32) => wX_passThrough__table_2 post (nI m) y f_queueStart f_queueLength f_leastTop f_leastBottom n (nI i) a_arcThere a_arcFrom a_arcTo a_arcWeight b a_otherTable a_squared a_levels a_setCells a_onRingBelowZero a_queue a_queued a_arcsUsed) (fun i b => ∀ s t, s < 7 → t < 7 → (b (7 * s + t)).toInt = if s < i then gr_ps Z m y.toInt s t else Z s t) 7 a_table ?_ ?_ ?_
  · intro s t hs ht
    rw [if_neg (by omega), eZ]
  · intro n b hb
    refine br_t (nI_le (Nat.le_refl 7) (by decide)) (h b fun s t hs ht => ?_)
    rw [hb s t hs ht, if_pos hs]
  · intro n s b hs hb hn
    have cm : (nI (7 * s + m)).toNatClampNeg = 7 * s + m := nI_clamp (by omega)
    refine br_f (nI_ge (b := 7) hs (by decide)) ?_
    rw [hp_ix, cm]
    have e1 : (b (7 * s + m)).toInt = Z s m := by rw [hb s m hs hm, if_neg (by omega)]
    refine ⟨vp_in_nI (by omega) (by decide), hx_jE e1 rfl (gr_rgr (hrZ s m hs hm)) (by omega) fun r hr1 => ?_⟩
    refine loop_0 (fun n' i (b' : Nat → Int32) => wX_passThrough__table_25 post (wX_passThrough__table_2 post (nI m) y f_queueStart f_queueLength f_leastTop f_leastBottom n) (nI m) y (nI s) r f_queueStart f_queueLength f_leastTop f_leastBottom n' (nI i) a_arcThere a_arcFrom a_arcTo a_arcWeight b' a_otherTable a_squared a_levels a_setCells a_onRingBelowZero a_queue a_queued a_arcsUsed) (fun i b' => ∀ s' t', s' < 7 → t' < 7 → (b' (7 * s' + t')).toInt = if s' < s ∨ (s' = s ∧ t' < i) then gr_ps Z m y.toInt s' t' else Z s' t') 7 b ?_ ?_ ?_
    · intro s' t' hs' ht'
      rw [hb s' t' hs' ht']
      split <;> split <;> first | rfl | omega
    · intro n' b' hb'
      refine br_t (nI_le (Nat.le_refl 7) (by decide)) ?_
      rw [nI_1]
      refine nm_e (hn b' fun s' t' hs' ht' => ?_)
      rw [hb' s' t' hs' ht']
      split <;> split <;> first | rfl | omega
    · intro n' t b' ht hb' hn'
      have ct : (nI (7 * m + t)).toNatClampNeg = 7 * m + t := nI_clamp (by omega)
      have cs : (nI (7 * s + t)).toNatClampNeg = 7 * s + t := nI_clamp (by omega)
      have vs : vp_in (nI (7 * s + t)) 49 := vp_in_nI (by omega) (by decide)
      have e3 : (b' (7 * s + t)).toInt = Z s t := by rw [hb' s t hs ht, if_neg (by omega)]
      have e2 : gr_j r.toInt (b' (7 * m + t)).toInt = gr_j (gr_j (Z s m) y.toInt) (Z m t) ∧ -1000000 ≤ (b' (7 * m + t)).toInt ∧ (b' (7 * m + t)).toInt ≤ 1000000 := by
        rw [hr1, hb' m t hm ht]
        split
        · exact ⟨gr_psr hrZ hm hs ht hy', gr_psrg (hrZ m m hm hm) (hrZ m t hm ht) hy'⟩
        · exact ⟨rfl, gr_rgr (hrZ m t hm ht)⟩
      refine br_f (nI_ge (b := 7) ht (by decide)) ?_
      simp only [hp_ix, ct, cs, nI_1]
      refine ⟨vp_in_nI (by omega) (by decide), hx_jE rfl rfl (by rw [hr1]; exact gr_jrg (hrZ s m hs hm) ry) e2.2 fun q hq => ⟨vs, ?_⟩⟩
      rw [e2.1] at hq
      refine br_c (fun c => nm_e (hn' b' fun s' t' hs' ht' => ?_)) (fun c => ⟨vs, nm_e (nm_e (hn' _ fun s' t' hs' ht' => ?_))⟩)
      · rw [hp_le, hq, e3] at c
        rw [hb' s' t' hs' ht']
        by_cases e : s' = s ∧ t' = t
        · obtain ⟨rfl, rfl⟩ := e
          rw [if_neg (by omega), if_pos (by omega)]
          unfold gr_ps
          rw [if_neg (by omega)]
        · split <;> split <;> first | rfl | omega
      · rw [hp_le, hq, e3] at c
        rw [hx_ut, hb' s' t' hs' ht']
        by_cases e : s' = s ∧ t' = t
        · obtain ⟨rfl, rfl⟩ := e
          rw [if_pos rfl, if_pos (by omega), hq]
          unfold gr_ps
          rw [if_pos (by omega)]
        · rw [if_neg (by omega)]
          split <;> split <;> first | rfl | omega
theorem hx_fillByMiddle_table {post : SX → Prop} {f_queueStart f_queueLength f_leastTop f_leastBottom : Int32} {a_arcThere a_arcFrom a_arcTo a_arcWeight a_table a_otherTable a_squared a_levels a_setCells a_onRingBelowZero a_queue a_queued a_arcsUsed : Nat → Int32} (ok : hx_ok a_arcThere a_arcFrom a_arcTo a_arcWeight) (h : ∀ b : Nat → Int32, (∀ s t, s < 7 → t < 7 → gr_Ans (hx_A a_arcThere a_arcFrom a_arcTo a_arcWeight) s t (gr_cv (b (7 * s + t)).toInt)) → post (f_queueStart, f_queueLength, f_leastTop, f_leastBottom, a_arcThere, a_arcFrom, a_arcTo, a_arcWeight, b, a_otherTable, a_squared, a_levels, a_setCells, a_onRingBelowZero, a_queue, a_queued, a_arcsUsed)) : wpX_fillByMiddlePoints__table post (f_queueStart, f_queueLength, f_leastTop, f_leastBottom, a_arcThere, a_arcFrom, a_arcTo, a_arcWeight, a_table, a_otherTable, a_squared, a_levels, a_setCells, a_onRingBelowZero, a_queue, a_queued, a_arcsUsed) := by
  have gok := hx_grok ok
  unfold wpX_fillByMiddlePoints__table
  refine hx_startWithArcs_table ok fun b0 h1 h2 h3 => ?_
  refine loop_0 (fun n i (b : Nat → Int32) => wX_fillByMiddlePoints__table_7 post n (nI i) f_queueStart f_queueLength f_leastTop f_leastBottom a_arcThere a_arcFrom a_arcTo a_arcWeight b a_otherTable a_squared a_levels a_setCells a_onRingBelowZero a_queue a_queued a_arcsUsed) (fun i b => gr_E1 (hx_A a_arcThere a_arcFrom a_arcTo a_arcWeight) i (2 ^ i) (fun s t => (b (7 * s + t)).toInt)) 7 b0 ?_ ?_ ?_
  · exact gr_E10 h1 h2 h3 gok
  · intro n b hb
    exact br_t (nI_le (Nat.le_refl 7) (by decide)) (h b (gr_E1f gok (by decide) hb))
  · intro n i b hi hb hn
    have ck : (nI (7 * i + i)).toNatClampNeg = 7 * i + i := nI_clamp (by omega)
    have p2 : 2 ^ i ≤ 2 ^ 6 := Nat.pow_le_pow_right (by decide) (by omega)
    have es : 2 ^ (i + 1) = 2 ^ i + 2 ^ i := by
      rw [Nat.pow_succ]
      omega
    have rg : ∀ s t, s < 7 → t < 7 → gr_rg (b (7 * s + t)).toInt := fun s t hs ht => gr_Cr gok (by omega) (hb.1 s t hs ht)
    have go : ∀ y : Int32, y.toInt = (if (b (7 * i + i)).toInt < 0 then -1000000 else 0) → wX_fillByMiddlePoints__table_30 post (wX_fillByMiddlePoints__table_7 post n) (nI i) y f_queueStart f_queueLength f_leastTop f_leastBottom a_arcThere a_arcFrom a_arcTo a_arcWeight b a_otherTable a_squared a_levels a_setCells a_onRingBelowZero a_queue a_queued a_arcsUsed := by
      intro y hy
      have d0 : (b (7 * i + i)).toInt ≤ 0 := hb.2.1 i hi
      unfold wX_fillByMiddlePoints__table_30
      refine hx_pass_table hi rg ?_ fun b' hb' => ?_
      · by_cases c : (b (7 * i + i)).toInt < 0
        · rw [if_pos c] at hy
          exact Or.inl hy
        · rw [if_neg c] at hy
          exact Or.inr ⟨hy, by omega⟩
      · dsimp only
        rw [nI_1]
        refine nm_e (hn b' ?_)
        show gr_E1 _ (i + 1) (2 ^ (i + 1)) _
        rw [es]
        exact gr_E1s gok hi (by omega) hb y.toInt hy hb'
    refine br_f (nI_ge (b := 7) hi (by decide)) ?_
    rw [hp_ix, ck]
    refine ⟨vp_in_nI (by omega) (by decide), br_c (fun c => go 0 ?_) (fun c => go (-1000000) ?_)⟩
    · rw [hp_le, hp_0] at c
      rw [if_neg (by omega), hp_0]
    · rw [hp_le, hp_0] at c
      rw [if_pos (by omega), hp_D]
theorem hx_join_table {post : SX → Prop} {f_queueStart f_queueLength f_leastTop f_leastBottom : Int32} {a_arcThere a_arcFrom a_arcTo a_arcWeight a_table a_otherTable a_squared a_levels a_setCells a_onRingBelowZero a_queue a_queued a_arcsUsed : Nat → Int32} (hr : ∀ s t, s < 7 → t < 7 → gr_rg (a_table (7 * s + t)).toInt) (h : ∀ b sq : Nat → Int32, (∀ s t, s < 7 → t < 7 → (∀ m, m < 7 → (b (7 * s + t)).toInt ≤ gr_j (a_table (7 * s + m)).toInt (a_table (7 * m + t)).toInt) ∧ ((b (7 * s + t)).toInt = 1000000 ∨ ∃ m, m < 7 ∧ (b (7 * s + t)).toInt = gr_j (a_table (7 * s + m)).toInt (a_table (7 * m + t)).toInt)) → post (f_queueStart, f_queueLength, f_leastTop, f_leastBottom, a_arcThere, a_arcFrom, a_arcTo, a_arcWeight, b, a_otherTable, sq, a_levels, a_setCells, a_onRingBelowZero, a_queue, a_queued, a_arcsUsed)) : wpX_joinWithItself__table post (f_queueStart, f_queueLength, f_leastTop, f_leastBottom, a_arcThere, a_arcFrom, a_arcTo, a_arcWeight, a_table, a_otherTable, a_squared, a_levels, a_setCells, a_onRingBelowZero, a_queue, a_queued, a_arcsUsed) := by
  have last : ∀ sq : Nat → Int32, (∀ s t, s < 7 → t < 7 → (∀ m, m < 7 → (sq (7 * s + t)).toInt ≤ gr_j (a_table (7 * s + m)).toInt (a_table (7 * m + t)).toInt) ∧ ((sq (7 * s + t)).toInt = 1000000 ∨ ∃ m, m < 7 ∧ (sq (7 * s + t)).toInt = gr_j (a_table (7 * s + m)).toInt (a_table (7 * m + t)).toInt)) → ∃ n, wX_joinWithItself__table_97 post f_queueStart f_queueLength f_leastTop f_leastBottom n 0 a_arcThere a_arcFrom a_arcTo a_arcWeight a_table a_otherTable sq a_levels a_setCells a_onRingBelowZero a_queue a_queued a_arcsUsed := by
    intro sq hsq
    refine loop_0 (fun n i (b : Nat → Int32) => wX_joinWithItself__table_97 post f_queueStart f_queueLength f_leastTop f_leastBottom n (nI i) a_arcThere a_arcFrom a_arcTo a_arcWeight b a_otherTable sq a_levels a_setCells a_onRingBelowZero a_queue a_queued a_arcsUsed) (fun i b => ∀ j, j < i → b j = sq j) 49 a_table (fun j hj => absurd hj (by omega)) ?_ ?_
    · intro n b hb
      refine br_t (nI_le (Nat.le_refl 49) (by decide)) (h b sq fun s t hs ht => ?_)
      rw [hb _ (by omega)]
      exact hsq s t hs ht
    · intro n i b hi hb hn
      have ck : (nI i).toNatClampNeg = i := nI_clamp (by omega)
      have vi : vp_in (nI i) 49 := vp_in_nI hi (by decide)
      refine br_f (nI_ge (b := 49) hi (by decide)) ?_
      rw [ck, nI_1]
      refine ⟨vi, vi, nm_e (nm_e (hn _ fun j hj => ?_))⟩
      by_cases e : j = i
      · subst e
        exact pk_us
      · rw [pk_un e]
        exact hb j (by omega)
  refine loop_0 (fun n i (sq : Nat → Int32) => wX_joinWithItself__table_2 post f_queueStart f_queueLength f_leastTop f_leastBottom n (nI i) a_arcThere a_arcFrom a_arcTo a_arcWeight a_table a_otherTable sq a_levels a_setCells a_onRingBelowZero a_queue a_queued a_arcsUsed) (fun i sq => ∀ s t, s < i → t < 7 → (∀ m, m < 7 → (sq (7 * s + t)).toInt ≤ gr_j (a_table (7 * s + m)).toInt (a_table (7 * m + t)).toInt) ∧ ((sq (7 * s + t)).toInt = 1000000 ∨ ∃ m, m < 7 ∧ (sq (7 * s + t)).toInt = gr_j (a_table (7 * s + m)).toInt (a_table (7 * m + t)).toInt)) 7 a_squared (fun s t hs => absurd hs (by omega)) ?_ ?_
  · intro n sq hsq
    exact br_t (nI_le (Nat.le_refl 7) (by decide)) (last sq fun s t hs ht => hsq s t hs ht)
  · intro n s sq hs hsq hn
    refine br_f (nI_ge (b := 7) hs (by decide)) ?_
    refine loop_0 (fun n' i (sq' : Nat → Int32) => wX_joinWithItself__table_10 post (wX_joinWithItself__table_2 post f_queueStart f_queueLength f_leastTop f_leastBottom n) (nI s) f_queueStart f_queueLength f_leastTop f_leastBottom n' (nI i) a_arcThere a_arcFrom a_arcTo a_arcWeight a_table a_otherTable sq' a_levels a_setCells a_onRingBelowZero a_queue a_queued a_arcsUsed) (fun i sq' => ∀ s' t, (s' < s ∨ (s' = s ∧ t < i)) → t < 7 → (∀ m, m < 7 → (sq' (7 * s' + t)).toInt ≤ gr_j (a_table (7 * s' + m)).toInt (a_table (7 * m + t)).toInt) ∧ ((sq' (7 * s' + t)).toInt = 1000000 ∨ ∃ m, m < 7 ∧ (sq' (7 * s' + t)).toInt = gr_j (a_table (7 * s' + m)).toInt (a_table (7 * m + t)).toInt)) 7 sq (fun s' t hs' ht => hsq s' t (by omega) ht) ?_ ?_
    · intro n' sq' hsq'
      refine br_t (nI_le (Nat.le_refl 7) (by decide)) ?_
      rw [nI_1]
      exact nm_e (hn sq' fun s' t hs' ht => hsq' s' t (by omega) ht)
    · intro n' t sq' ht hsq' hn'
      refine br_f (nI_ge (b := 7) ht (by decide)) ?_
      refine loop_0 (fun n2 i (r : Int32) => wX_joinWithItself__table_23 post (wX_joinWithItself__table_2 post f_queueStart f_queueLength f_leastTop f_leastBottom n) (wX_joinWithItself__table_10 post (wX_joinWithItself__table_2 post f_queueStart f_queueLength f_leastTop f_leastBottom n) (nI s) f_queueStart f_queueLength f_leastTop f_leastBottom n') (nI s) (nI t) f_queueStart f_queueLength f_leastTop f_leastBottom a_arcThere a_arcFrom a_arcTo a_arcWeight a_table a_otherTable sq' a_levels a_setCells a_onRingBelowZero a_queue a_queued a_arcsUsed n2 r (nI i)) (fun i r => (∀ m, m < i → r.toInt ≤ gr_j (a_table (7 * s + m)).toInt (a_table (7 * m + t)).toInt) ∧ (r.toInt = 1000000 ∨ ∃ m, m < 7 ∧ r.toInt = gr_j (a_table (7 * s + m)).toInt (a_table (7 * m + t)).toInt)) 7 1000000 ⟨fun m hm => absurd hm (by omega), Or.inl hp_F⟩ ?_ ?_
      · intro n2 r hr2
        have cs : (nI (7 * s + t)).toNatClampNeg = 7 * s + t := nI_clamp (by omega)
        refine br_t (nI_le (Nat.le_refl 7) (by decide)) ?_
        rw [hp_ix, cs, nI_1]
        refine ⟨vp_in_nI (by omega) (by decide), nm_e (nm_e (hn' _ fun s' t' hs' ht' => ?_))⟩
        by_cases e : s' = s ∧ t' = t
        · obtain ⟨rfl, rfl⟩ := e
          rw [pk_us]
          exact hr2
        · rw [pk_un (by omega)]
          exact hsq' s' t' (by omega) ht'
      · intro n2 i r hi hr2 hn2
        have c1 : (nI (7 * s + i)).toNatClampNeg = 7 * s + i := nI_clamp (by omega)
        have c2 : (nI (7 * i + t)).toNatClampNeg = 7 * i + t := nI_clamp (by omega)
        refine br_f (nI_ge (b := 7) hi (by decide)) ?_
        simp only [hp_ix, c1, c2, nI_1]
        refine ⟨vp_in_nI (by omega) (by decide), vp_in_nI (by omega) (by decide), hx_jE rfl rfl (gr_rgr (hr s i hs hi)) (gr_rgr (hr i t hi ht)) fun q hq => br_c (fun c => nm_e (hn2 r ⟨fun m hm => ?_, hr2.2⟩)) (fun c => nm_e (hn2 q ⟨fun m hm => ?_, Or.inr ⟨i, hi, hq⟩⟩))⟩
        · rw [hp_le, hq] at c
          by_cases e : m = i
          · subst e
            exact c
          · exact hr2.1 m (by omega)
        · rw [hp_le, hq] at c
          rw [hq]
          by_cases e : m = i
          · subst e
            exact Int.le_refl _
          · have := hr2.1 m (by omega)
            omega
theorem hx_fillBySquaring_table {post : SX → Prop} {f_queueStart f_queueLength f_leastTop f_leastBottom : Int32} {a_arcThere a_arcFrom a_arcTo a_arcWeight a_table a_otherTable a_squared a_levels a_setCells a_onRingBelowZero a_queue a_queued a_arcsUsed : Nat → Int32} (ok : hx_ok a_arcThere a_arcFrom a_arcTo a_arcWeight) (h : ∀ b sq : Nat → Int32, (∀ s t, s < 7 → t < 7 → gr_Ans (hx_A a_arcThere a_arcFrom a_arcTo a_arcWeight) s t (gr_cv (b (7 * s + t)).toInt)) → post (f_queueStart, f_queueLength, f_leastTop, f_leastBottom, a_arcThere, a_arcFrom, a_arcTo, a_arcWeight, b, a_otherTable, sq, a_levels, a_setCells, a_onRingBelowZero, a_queue, a_queued, a_arcsUsed)) : wpX_fillBySquaring__table post (f_queueStart, f_queueLength, f_leastTop, f_leastBottom, a_arcThere, a_arcFrom, a_arcTo, a_arcWeight, a_table, a_otherTable, a_squared, a_levels, a_setCells, a_onRingBelowZero, a_queue, a_queued, a_arcsUsed) := by
  have gok := hx_grok ok
  unfold wpX_fillBySquaring__table
  refine hx_startWithArcs_table ok fun b0 h1 h2 h3 => ?_
  refine loop_0 (fun n i (b : (Nat → Int32) × (Nat → Int32)) => wX_fillBySquaring__table_7 post n (nI i) f_queueStart f_queueLength f_leastTop f_leastBottom a_arcThere a_arcFrom a_arcTo a_arcWeight b.1 a_otherTable b.2 a_levels a_setCells a_onRingBelowZero a_queue a_queued a_arcsUsed) (fun i b => gr_E2 (hx_A a_arcThere a_arcFrom a_arcTo a_arcWeight) (2 ^ i) (2 ^ i) (fun s t => (b.1 (7 * s + t)).toInt) ∧ (1 ≤ i → ∀ p, p < 7 → (b.1 (7 * p + p)).toInt < 0 → (b.1 (7 * p + p)).toInt = -1000000) ∧ (i = 4 → ∃ Z3, gr_E2 (hx_A a_arcThere a_arcFrom a_arcTo a_arcWeight) 8 8 Z3 ∧ (∀ p, p < 7 → Z3 p p < 0 → Z3 p p = -1000000) ∧ ∀ s t, s < 7 → t < 7 → ∀ m, m < 7 → (b.1 (7 * s + t)).toInt ≤ gr_j (Z3 s m) (Z3 m t)) ∧ (i = 5 → ∃ Z3 Z4, gr_E2 (hx_A a_arcThere a_arcFrom a_arcTo a_arcWeight) 8 8 Z3 ∧ (∀ p, p < 7 → Z3 p p < 0 → Z3 p p = -1000000) ∧ gr_E2 (hx_A a_arcThere a_arcFrom a_arcTo a_arcWeight) 16 16 Z4 ∧ (∀ s t, s < 7 → t < 7 → ∀ m, m < 7 → Z4 s t ≤ gr_j (Z3 s m) (Z3 m t)) ∧ ∀ s t, s < 7 → t < 7 → ∀ m, m < 7 → (b.1 (7 * s + t)).toInt ≤ gr_j (Z4 s m) (Z4 m t))) 5 (b0, a_squared) ?_ ?_ ?_
  · refine ⟨⟨h1, fun s t n c hs hn g => ?_⟩, fun z => absurd z (by decide), fun z => absurd z (by decide), fun z => absurd z (by decide)⟩
    cases n with
    | zero =>
      obtain ⟨rfl, rfl⟩ := g
      exact h2 s hs
    | succ n =>
      have n0 : n = 0 := by
        have : 2 ^ 0 = 1 := rfl
        omega
      subst n0
      obtain ⟨u, c', x, ⟨rfl, rfl⟩, a, rfl⟩ := g
      have := h3 _ _ _ a
      show (b0 (7 * s + t)).toInt ≤ 0 + x
      omega
  · intro n b hb
    obtain ⟨Z3, Z4, g1, g2, g3, g4, g5⟩ := hb.2.2.2 rfl
    exact br_t (nI_le (Nat.le_refl 5) (by decide)) (h b.1 b.2 (gr_E2f gok g1 g2 g3 hb.1 g4 g5))
  · intro n i b hi hb hn
    have p2 : 2 ^ i ≤ 2 ^ 4 := Nat.pow_le_pow_right (by decide) (by omega)
    have es : 2 ^ (i + 1) = 2 ^ i + 2 ^ i := by
      rw [Nat.pow_succ]
      omega
    have rg : ∀ s t, s < 7 → t < 7 → gr_rg (b.1 (7 * s + t)).toInt := fun s t hs ht => gr_Cr gok (by omega) (hb.1.1 s t hs ht)
    refine br_f (nI_ge (b := 5) hi (by decide)) ?_
    refine hx_join_table rg fun b1 sq hb1 => ?_
    refine loop_0 (fun n' j (b2 : Nat → Int32) => wX_fillBySquaring__table_19 post (wX_fillBySquaring__table_7 post n) (nI i) f_queueStart f_queueLength f_leastTop f_leastBottom n' (nI j) a_arcThere a_arcFrom a_arcTo a_arcWeight b2 a_otherTable sq a_levels a_setCells a_onRingBelowZero a_queue a_queued a_arcsUsed) (fun j b2 => ∀ s t, s < 7 → t < 7 → (b2 (7 * s + t)).toInt = if s = t ∧ s < j ∧ (b1 (7 * s + t)).toInt < 0 then -1000000 else (b1 (7 * s + t)).toInt) 7 b1 ?_ ?_ ?_
    · intro s t hs ht
      rw [if_neg (by omega)]
    · intro n' b2 hb2
      refine br_t (nI_le (Nat.le_refl 7) (by decide)) ?_
      rw [nI_1]
      have low : ∀ s t, s < 7 → t < 7 → ∀ m, m < 7 → (b2 (7 * s + t)).toInt ≤ gr_j (b.1 (7 * s + m)).toInt (b.1 (7 * m + t)).toInt := by
        intro s t hs ht m hm
        have k1 := (hb1 s t hs ht).1 m hm
        have k2 := @gr_jc (b.1 (7 * s + m)).toInt (b.1 (7 * m + t)).toInt
        have k3 := rg s m hs hm
        have k4 := rg m t hm ht
        unfold gr_rg at k3 k4
        rw [hb2 s t hs ht]
        split <;> omega
      refine nm_e (hn (b2, sq) ⟨?_, fun _ p hp hl => ?_, fun e => ⟨fun s t => (b.1 (7 * s + t)).toInt, ?_, hb.2.1 (by omega), low⟩, fun e => ?_⟩)
      · rw [es]
        refine gr_E2s gok (by omega) (by omega) hb.1 fun s t hs ht => ⟨low s t hs ht, ?_⟩
        show (b2 (7 * s + t)).toInt = _ ∨ (_ ∧ (b2 (7 * s + t)).toInt = _ ∧ _) ∨ ∃ m, m < 7 ∧ (b2 (7 * s + t)).toInt = _
        rw [hb2 s t hs ht]
        by_cases c : s = t ∧ s < 7 ∧ (b1 (7 * s + t)).toInt < 0
        · rw [if_pos c]
          refine Or.inr (Or.inl ⟨c.1, rfl, ?_⟩)
          rcases (hb1 s t hs ht).2 with e | ⟨m, hm, e⟩
          · omega
          · exact ⟨m, hm, by omega⟩
        · rw [if_neg c]
          rcases (hb1 s t hs ht).2 with e | e
          · exact Or.inl e
          · exact Or.inr (Or.inr e)
      · have := hb2 p p hp hp
        dsimp only at hl ⊢
        rw [this] at hl ⊢
        by_cases c : p = p ∧ p < 7 ∧ (b1 (7 * p + p)).toInt < 0
        · rw [if_pos c]
        · rw [if_neg c] at hl
          exact absurd ⟨rfl, hp, hl⟩ c
      · have e3 : i = 3 := by omega
        have := hb.1
        rw [e3] at this
        exact this
      · have e4 : i = 4 := by omega
        obtain ⟨Z3, g1, g2, g3⟩ := hb.2.2.1 e4
        have := hb.1
        rw [e4] at this
        exact ⟨Z3, _, g1, g2, this, g3, low⟩
    · intro n' j b2 hj hb2 hn'
      have ck : (nI (7 * j + j)).toNatClampNeg = 7 * j + j := nI_clamp (by omega)
      have vj : vp_in (nI (7 * j + j)) 49 := vp_in_nI (by omega) (by decide)
      have ej : (b2 (7 * j + j)).toInt = (b1 (7 * j + j)).toInt := by rw [hb2 j j hj hj, if_neg (by omega)]
      refine br_f (nI_ge (b := 7) hj (by decide)) ?_
      rw [hp_ix, ck, nI_1]
      refine ⟨vj, br_c (fun c => nm_e (hn' b2 fun s t hs ht => ?_)) (fun c => ⟨vj, nm_e (nm_e (hn' _ fun s t hs ht => ?_))⟩)⟩
      · rw [hp_le, hp_0, ej] at c
        rw [hb2 s t hs ht]
        by_cases e : s = t ∧ s = j
        · obtain ⟨rfl, rfl⟩ := e
          rw [if_neg (by omega), if_neg (by omega)]
        · by_cases e2 : s = t ∧ s < j ∧ (b1 (7 * s + t)).toInt < 0
          · rw [if_pos e2, if_pos (by omega)]
          · rw [if_neg e2, if_neg (by omega)]
      · rw [hp_le, hp_0, ej] at c
        rw [hx_ut, hb2 s t hs ht, hp_D]
        by_cases e : s = t ∧ s = j
        · obtain ⟨rfl, rfl⟩ := e
          rw [if_pos rfl, if_pos (by omega)]
        · rw [if_neg (by omega)]
          by_cases e2 : s = t ∧ s < j ∧ (b1 (7 * s + t)).toInt < 0
          · rw [if_pos e2, if_pos (by omega)]
          · rw [if_neg e2, if_neg (by omega)]
theorem hx_pass_otherTable {post : SX → Prop} {f_queueStart f_queueLength f_leastTop f_leastBottom : Int32} {a_arcThere a_arcFrom a_arcTo a_arcWeight a_table a_otherTable a_squared a_levels a_setCells a_onRingBelowZero a_queue a_queued a_arcsUsed : Nat → Int32} {m : Nat} {y : Int32} (hm : m < 7) (hr : ∀ s t, s < 7 → t < 7 → gr_rg (a_otherTable (7 * s + t)).toInt) (hy : y.toInt = -1000000 ∨ (y.toInt = 0 ∧ (a_otherTable (7 * m + m)).toInt = 0)) (h : ∀ b : Nat → Int32, (∀ s t, s < 7 → t < 7 → (b (7 * s + t)).toInt = gr_ps (fun s t => (a_otherTable (7 * s + t)).toInt) m y.toInt s t) → post (f_queueStart, f_queueLength, f_leastTop, f_leastBottom, a_arcThere, a_arcFrom, a_arcTo, a_arcWeight, a_table, b, a_squared, a_levels, a_setCells, a_onRingBelowZero, a_queue, a_queued, a_arcsUsed)) : wpX_passThrough__otherTable post (f_queueStart, f_queueLength, f_leastTop, f_leastBottom, a_arcThere, a_arcFrom, a_arcTo, a_arcWeight, a_table, a_otherTable, a_squared, a_levels, a_setCells, a_onRingBelowZero, a_queue, a_queued, a_arcsUsed) (nI m) y := by
  generalize hZ : (fun s t : Nat => (a_otherTable (7 * s + t)).toInt) = Z at *
  have eZ : ∀ s t, (a_otherTable (7 * s + t)).toInt = Z s t := fun s t => by rw [← hZ]
  have hrZ : ∀ s t, s < 7 → t < 7 → gr_rg (Z s t) := fun s t hs ht => by
    rw [← eZ]
    exact hr s t hs ht
  have hy' : y.toInt = -1000000 ∨ (y.toInt = 0 ∧ Z m m = 0) := by rwa [eZ] at hy
  have ry : y.toInt = -1000000 ∨ y.toInt = 0 := by omega
  refine loop_0 (fun n i (b : Nat → Int32) => wX_passThrough__otherTable_2 post (nI m) y f_queueStart f_queueLength f_leastTop f_leastBottom n (nI i) a_arcThere a_arcFrom a_arcTo a_arcWeight a_table b a_squared a_levels a_setCells a_onRingBelowZero a_queue a_queued a_arcsUsed) (fun i b => ∀ s t, s < 7 → t < 7 → (b (7 * s + t)).toInt = if s < i then gr_ps Z m y.toInt s t else Z s t) 7 a_otherTable ?_ ?_ ?_
  · intro s t hs ht
    rw [if_neg (by omega), eZ]
  · intro n b hb
    refine br_t (nI_le (Nat.le_refl 7) (by decide)) (h b fun s t hs ht => ?_)
    rw [hb s t hs ht, if_pos hs]
  · intro n s b hs hb hn
    have cm : (nI (7 * s + m)).toNatClampNeg = 7 * s + m := nI_clamp (by omega)
    refine br_f (nI_ge (b := 7) hs (by decide)) ?_
    rw [hp_ix, cm]
    have e1 : (b (7 * s + m)).toInt = Z s m := by rw [hb s m hs hm, if_neg (by omega)]
    refine ⟨vp_in_nI (by omega) (by decide), hx_jE e1 rfl (gr_rgr (hrZ s m hs hm)) (by omega) fun r hr1 => ?_⟩
    refine loop_0 (fun n' i (b' : Nat → Int32) => wX_passThrough__otherTable_25 post (wX_passThrough__otherTable_2 post (nI m) y f_queueStart f_queueLength f_leastTop f_leastBottom n) (nI m) y (nI s) r f_queueStart f_queueLength f_leastTop f_leastBottom n' (nI i) a_arcThere a_arcFrom a_arcTo a_arcWeight a_table b' a_squared a_levels a_setCells a_onRingBelowZero a_queue a_queued a_arcsUsed) (fun i b' => ∀ s' t', s' < 7 → t' < 7 → (b' (7 * s' + t')).toInt = if s' < s ∨ (s' = s ∧ t' < i) then gr_ps Z m y.toInt s' t' else Z s' t') 7 b ?_ ?_ ?_
    · intro s' t' hs' ht'
      rw [hb s' t' hs' ht']
      split <;> split <;> first | rfl | omega
    · intro n' b' hb'
      refine br_t (nI_le (Nat.le_refl 7) (by decide)) ?_
      rw [nI_1]
      refine nm_e (hn b' fun s' t' hs' ht' => ?_)
      rw [hb' s' t' hs' ht']
      split <;> split <;> first | rfl | omega
    · intro n' t b' ht hb' hn'
      have ct : (nI (7 * m + t)).toNatClampNeg = 7 * m + t := nI_clamp (by omega)
      have cs : (nI (7 * s + t)).toNatClampNeg = 7 * s + t := nI_clamp (by omega)
      have vs : vp_in (nI (7 * s + t)) 49 := vp_in_nI (by omega) (by decide)
      have e3 : (b' (7 * s + t)).toInt = Z s t := by rw [hb' s t hs ht, if_neg (by omega)]
      have e2 : gr_j r.toInt (b' (7 * m + t)).toInt = gr_j (gr_j (Z s m) y.toInt) (Z m t) ∧ -1000000 ≤ (b' (7 * m + t)).toInt ∧ (b' (7 * m + t)).toInt ≤ 1000000 := by
        rw [hr1, hb' m t hm ht]
        split
        · exact ⟨gr_psr hrZ hm hs ht hy', gr_psrg (hrZ m m hm hm) (hrZ m t hm ht) hy'⟩
        · exact ⟨rfl, gr_rgr (hrZ m t hm ht)⟩
      refine br_f (nI_ge (b := 7) ht (by decide)) ?_
      simp only [hp_ix, ct, cs, nI_1]
      refine ⟨vp_in_nI (by omega) (by decide), hx_jE rfl rfl (by rw [hr1]; exact gr_jrg (hrZ s m hs hm) ry) e2.2 fun q hq => ⟨vs, ?_⟩⟩
      rw [e2.1] at hq
      refine br_c (fun c => nm_e (hn' b' fun s' t' hs' ht' => ?_)) (fun c => ⟨vs, nm_e (nm_e (hn' _ fun s' t' hs' ht' => ?_))⟩)
      · rw [hp_le, hq, e3] at c
        rw [hb' s' t' hs' ht']
        by_cases e : s' = s ∧ t' = t
        · obtain ⟨rfl, rfl⟩ := e
          rw [if_neg (by omega), if_pos (by omega)]
          unfold gr_ps
          rw [if_neg (by omega)]
        · split <;> split <;> first | rfl | omega
      · rw [hp_le, hq, e3] at c
        rw [hx_ut, hb' s' t' hs' ht']
        by_cases e : s' = s ∧ t' = t
        · obtain ⟨rfl, rfl⟩ := e
          rw [if_pos rfl, if_pos (by omega), hq]
          unfold gr_ps
          rw [if_pos (by omega)]
        · rw [if_neg (by omega)]
          split <;> split <;> first | rfl | omega
theorem hx_fillByMiddle_otherTable {post : SX → Prop} {f_queueStart f_queueLength f_leastTop f_leastBottom : Int32} {a_arcThere a_arcFrom a_arcTo a_arcWeight a_table a_otherTable a_squared a_levels a_setCells a_onRingBelowZero a_queue a_queued a_arcsUsed : Nat → Int32} (ok : hx_ok a_arcThere a_arcFrom a_arcTo a_arcWeight) (h : ∀ b : Nat → Int32, (∀ s t, s < 7 → t < 7 → gr_Ans (hx_A a_arcThere a_arcFrom a_arcTo a_arcWeight) s t (gr_cv (b (7 * s + t)).toInt)) → post (f_queueStart, f_queueLength, f_leastTop, f_leastBottom, a_arcThere, a_arcFrom, a_arcTo, a_arcWeight, a_table, b, a_squared, a_levels, a_setCells, a_onRingBelowZero, a_queue, a_queued, a_arcsUsed)) : wpX_fillByMiddlePoints__otherTable post (f_queueStart, f_queueLength, f_leastTop, f_leastBottom, a_arcThere, a_arcFrom, a_arcTo, a_arcWeight, a_table, a_otherTable, a_squared, a_levels, a_setCells, a_onRingBelowZero, a_queue, a_queued, a_arcsUsed) := by
  have gok := hx_grok ok
  unfold wpX_fillByMiddlePoints__otherTable
  refine hx_startWithArcs_otherTable ok fun b0 h1 h2 h3 => ?_
  refine loop_0 (fun n i (b : Nat → Int32) => wX_fillByMiddlePoints__otherTable_7 post n (nI i) f_queueStart f_queueLength f_leastTop f_leastBottom a_arcThere a_arcFrom a_arcTo a_arcWeight a_table b a_squared a_levels a_setCells a_onRingBelowZero a_queue a_queued a_arcsUsed) (fun i b => gr_E1 (hx_A a_arcThere a_arcFrom a_arcTo a_arcWeight) i (2 ^ i) (fun s t => (b (7 * s + t)).toInt)) 7 b0 ?_ ?_ ?_
  · exact gr_E10 h1 h2 h3 gok
  · intro n b hb
    exact br_t (nI_le (Nat.le_refl 7) (by decide)) (h b (gr_E1f gok (by decide) hb))
  · intro n i b hi hb hn
    have ck : (nI (7 * i + i)).toNatClampNeg = 7 * i + i := nI_clamp (by omega)
    have p2 : 2 ^ i ≤ 2 ^ 6 := Nat.pow_le_pow_right (by decide) (by omega)
    have es : 2 ^ (i + 1) = 2 ^ i + 2 ^ i := by
      rw [Nat.pow_succ]
      omega
    have rg : ∀ s t, s < 7 → t < 7 → gr_rg (b (7 * s + t)).toInt := fun s t hs ht => gr_Cr gok (by omega) (hb.1 s t hs ht)
    have go : ∀ y : Int32, y.toInt = (if (b (7 * i + i)).toInt < 0 then -1000000 else 0) → wX_fillByMiddlePoints__otherTable_30 post (wX_fillByMiddlePoints__otherTable_7 post n) (nI i) y f_queueStart f_queueLength f_leastTop f_leastBottom a_arcThere a_arcFrom a_arcTo a_arcWeight a_table b a_squared a_levels a_setCells a_onRingBelowZero a_queue a_queued a_arcsUsed := by
      intro y hy
      have d0 : (b (7 * i + i)).toInt ≤ 0 := hb.2.1 i hi
      unfold wX_fillByMiddlePoints__otherTable_30
      refine hx_pass_otherTable hi rg ?_ fun b' hb' => ?_
      · by_cases c : (b (7 * i + i)).toInt < 0
        · rw [if_pos c] at hy
          exact Or.inl hy
        · rw [if_neg c] at hy
          exact Or.inr ⟨hy, by omega⟩
      · dsimp only
        rw [nI_1]
        refine nm_e (hn b' ?_)
        show gr_E1 _ (i + 1) (2 ^ (i + 1)) _
        rw [es]
        exact gr_E1s gok hi (by omega) hb y.toInt hy hb'
    refine br_f (nI_ge (b := 7) hi (by decide)) ?_
    rw [hp_ix, ck]
    refine ⟨vp_in_nI (by omega) (by decide), br_c (fun c => go 0 ?_) (fun c => go (-1000000) ?_)⟩
    · rw [hp_le, hp_0] at c
      rw [if_neg (by omega), hp_0]
    · rw [hp_le, hp_0] at c
      rw [if_pos (by omega), hp_D]
theorem hx_join_otherTable {post : SX → Prop} {f_queueStart f_queueLength f_leastTop f_leastBottom : Int32} {a_arcThere a_arcFrom a_arcTo a_arcWeight a_table a_otherTable a_squared a_levels a_setCells a_onRingBelowZero a_queue a_queued a_arcsUsed : Nat → Int32} (hr : ∀ s t, s < 7 → t < 7 → gr_rg (a_otherTable (7 * s + t)).toInt) (h : ∀ b sq : Nat → Int32, (∀ s t, s < 7 → t < 7 → (∀ m, m < 7 → (b (7 * s + t)).toInt ≤ gr_j (a_otherTable (7 * s + m)).toInt (a_otherTable (7 * m + t)).toInt) ∧ ((b (7 * s + t)).toInt = 1000000 ∨ ∃ m, m < 7 ∧ (b (7 * s + t)).toInt = gr_j (a_otherTable (7 * s + m)).toInt (a_otherTable (7 * m + t)).toInt)) → post (f_queueStart, f_queueLength, f_leastTop, f_leastBottom, a_arcThere, a_arcFrom, a_arcTo, a_arcWeight, a_table, b, sq, a_levels, a_setCells, a_onRingBelowZero, a_queue, a_queued, a_arcsUsed)) : wpX_joinWithItself__otherTable post (f_queueStart, f_queueLength, f_leastTop, f_leastBottom, a_arcThere, a_arcFrom, a_arcTo, a_arcWeight, a_table, a_otherTable, a_squared, a_levels, a_setCells, a_onRingBelowZero, a_queue, a_queued, a_arcsUsed) := by
  have last : ∀ sq : Nat → Int32, (∀ s t, s < 7 → t < 7 → (∀ m, m < 7 → (sq (7 * s + t)).toInt ≤ gr_j (a_otherTable (7 * s + m)).toInt (a_otherTable (7 * m + t)).toInt) ∧ ((sq (7 * s + t)).toInt = 1000000 ∨ ∃ m, m < 7 ∧ (sq (7 * s + t)).toInt = gr_j (a_otherTable (7 * s + m)).toInt (a_otherTable (7 * m + t)).toInt)) → ∃ n, wX_joinWithItself__otherTable_97 post f_queueStart f_queueLength f_leastTop f_leastBottom n 0 a_arcThere a_arcFrom a_arcTo a_arcWeight a_table a_otherTable sq a_levels a_setCells a_onRingBelowZero a_queue a_queued a_arcsUsed := by
    intro sq hsq
    refine loop_0 (fun n i (b : Nat → Int32) => wX_joinWithItself__otherTable_97 post f_queueStart f_queueLength f_leastTop f_leastBottom n (nI i) a_arcThere a_arcFrom a_arcTo a_arcWeight a_table b sq a_levels a_setCells a_onRingBelowZero a_queue a_queued a_arcsUsed) (fun i b => ∀ j, j < i → b j = sq j) 49 a_otherTable (fun j hj => absurd hj (by omega)) ?_ ?_
    · intro n b hb
      refine br_t (nI_le (Nat.le_refl 49) (by decide)) (h b sq fun s t hs ht => ?_)
      rw [hb _ (by omega)]
      exact hsq s t hs ht
    · intro n i b hi hb hn
      have ck : (nI i).toNatClampNeg = i := nI_clamp (by omega)
      have vi : vp_in (nI i) 49 := vp_in_nI hi (by decide)
      refine br_f (nI_ge (b := 49) hi (by decide)) ?_
      rw [ck, nI_1]
      refine ⟨vi, vi, nm_e (nm_e (hn _ fun j hj => ?_))⟩
      by_cases e : j = i
      · subst e
        exact pk_us
      · rw [pk_un e]
        exact hb j (by omega)
  refine loop_0 (fun n i (sq : Nat → Int32) => wX_joinWithItself__otherTable_2 post f_queueStart f_queueLength f_leastTop f_leastBottom n (nI i) a_arcThere a_arcFrom a_arcTo a_arcWeight a_table a_otherTable sq a_levels a_setCells a_onRingBelowZero a_queue a_queued a_arcsUsed) (fun i sq => ∀ s t, s < i → t < 7 → (∀ m, m < 7 → (sq (7 * s + t)).toInt ≤ gr_j (a_otherTable (7 * s + m)).toInt (a_otherTable (7 * m + t)).toInt) ∧ ((sq (7 * s + t)).toInt = 1000000 ∨ ∃ m, m < 7 ∧ (sq (7 * s + t)).toInt = gr_j (a_otherTable (7 * s + m)).toInt (a_otherTable (7 * m + t)).toInt)) 7 a_squared (fun s t hs => absurd hs (by omega)) ?_ ?_
  · intro n sq hsq
    exact br_t (nI_le (Nat.le_refl 7) (by decide)) (last sq fun s t hs ht => hsq s t hs ht)
  · intro n s sq hs hsq hn
    refine br_f (nI_ge (b := 7) hs (by decide)) ?_
    refine loop_0 (fun n' i (sq' : Nat → Int32) => wX_joinWithItself__otherTable_10 post (wX_joinWithItself__otherTable_2 post f_queueStart f_queueLength f_leastTop f_leastBottom n) (nI s) f_queueStart f_queueLength f_leastTop f_leastBottom n' (nI i) a_arcThere a_arcFrom a_arcTo a_arcWeight a_table a_otherTable sq' a_levels a_setCells a_onRingBelowZero a_queue a_queued a_arcsUsed) (fun i sq' => ∀ s' t, (s' < s ∨ (s' = s ∧ t < i)) → t < 7 → (∀ m, m < 7 → (sq' (7 * s' + t)).toInt ≤ gr_j (a_otherTable (7 * s' + m)).toInt (a_otherTable (7 * m + t)).toInt) ∧ ((sq' (7 * s' + t)).toInt = 1000000 ∨ ∃ m, m < 7 ∧ (sq' (7 * s' + t)).toInt = gr_j (a_otherTable (7 * s' + m)).toInt (a_otherTable (7 * m + t)).toInt)) 7 sq (fun s' t hs' ht => hsq s' t (by omega) ht) ?_ ?_
    · intro n' sq' hsq'
      refine br_t (nI_le (Nat.le_refl 7) (by decide)) ?_
      rw [nI_1]
      exact nm_e (hn sq' fun s' t hs' ht => hsq' s' t (by omega) ht)
    · intro n' t sq' ht hsq' hn'
      refine br_f (nI_ge (b := 7) ht (by decide)) ?_
      refine loop_0 (fun n2 i (r : Int32) => wX_joinWithItself__otherTable_23 post (wX_joinWithItself__otherTable_2 post f_queueStart f_queueLength f_leastTop f_leastBottom n) (wX_joinWithItself__otherTable_10 post (wX_joinWithItself__otherTable_2 post f_queueStart f_queueLength f_leastTop f_leastBottom n) (nI s) f_queueStart f_queueLength f_leastTop f_leastBottom n') (nI s) (nI t) f_queueStart f_queueLength f_leastTop f_leastBottom a_arcThere a_arcFrom a_arcTo a_arcWeight a_table a_otherTable sq' a_levels a_setCells a_onRingBelowZero a_queue a_queued a_arcsUsed n2 r (nI i)) (fun i r => (∀ m, m < i → r.toInt ≤ gr_j (a_otherTable (7 * s + m)).toInt (a_otherTable (7 * m + t)).toInt) ∧ (r.toInt = 1000000 ∨ ∃ m, m < 7 ∧ r.toInt = gr_j (a_otherTable (7 * s + m)).toInt (a_otherTable (7 * m + t)).toInt)) 7 1000000 ⟨fun m hm => absurd hm (by omega), Or.inl hp_F⟩ ?_ ?_
      · intro n2 r hr2
        have cs : (nI (7 * s + t)).toNatClampNeg = 7 * s + t := nI_clamp (by omega)
        refine br_t (nI_le (Nat.le_refl 7) (by decide)) ?_
        rw [hp_ix, cs, nI_1]
        refine ⟨vp_in_nI (by omega) (by decide), nm_e (nm_e (hn' _ fun s' t' hs' ht' => ?_))⟩
        by_cases e : s' = s ∧ t' = t
        · obtain ⟨rfl, rfl⟩ := e
          rw [pk_us]
          exact hr2
        · rw [pk_un (by omega)]
          exact hsq' s' t' (by omega) ht'
      · intro n2 i r hi hr2 hn2
        have c1 : (nI (7 * s + i)).toNatClampNeg = 7 * s + i := nI_clamp (by omega)
        have c2 : (nI (7 * i + t)).toNatClampNeg = 7 * i + t := nI_clamp (by omega)
        refine br_f (nI_ge (b := 7) hi (by decide)) ?_
        simp only [hp_ix, c1, c2, nI_1]
        refine ⟨vp_in_nI (by omega) (by decide), vp_in_nI (by omega) (by decide), hx_jE rfl rfl (gr_rgr (hr s i hs hi)) (gr_rgr (hr i t hi ht)) fun q hq => br_c (fun c => nm_e (hn2 r ⟨fun m hm => ?_, hr2.2⟩)) (fun c => nm_e (hn2 q ⟨fun m hm => ?_, Or.inr ⟨i, hi, hq⟩⟩))⟩
        · rw [hp_le, hq] at c
          by_cases e : m = i
          · subst e
            exact c
          · exact hr2.1 m (by omega)
        · rw [hp_le, hq] at c
          rw [hq]
          by_cases e : m = i
          · subst e
            exact Int.le_refl _
          · have := hr2.1 m (by omega)
            omega
theorem hx_fillBySquaring_otherTable {post : SX → Prop} {f_queueStart f_queueLength f_leastTop f_leastBottom : Int32} {a_arcThere a_arcFrom a_arcTo a_arcWeight a_table a_otherTable a_squared a_levels a_setCells a_onRingBelowZero a_queue a_queued a_arcsUsed : Nat → Int32} (ok : hx_ok a_arcThere a_arcFrom a_arcTo a_arcWeight) (h : ∀ b sq : Nat → Int32, (∀ s t, s < 7 → t < 7 → gr_Ans (hx_A a_arcThere a_arcFrom a_arcTo a_arcWeight) s t (gr_cv (b (7 * s + t)).toInt)) → post (f_queueStart, f_queueLength, f_leastTop, f_leastBottom, a_arcThere, a_arcFrom, a_arcTo, a_arcWeight, a_table, b, sq, a_levels, a_setCells, a_onRingBelowZero, a_queue, a_queued, a_arcsUsed)) : wpX_fillBySquaring__otherTable post (f_queueStart, f_queueLength, f_leastTop, f_leastBottom, a_arcThere, a_arcFrom, a_arcTo, a_arcWeight, a_table, a_otherTable, a_squared, a_levels, a_setCells, a_onRingBelowZero, a_queue, a_queued, a_arcsUsed) := by
  have gok := hx_grok ok
  unfold wpX_fillBySquaring__otherTable
  refine hx_startWithArcs_otherTable ok fun b0 h1 h2 h3 => ?_
  refine loop_0 (fun n i (b : (Nat → Int32) × (Nat → Int32)) => wX_fillBySquaring__otherTable_7 post n (nI i) f_queueStart f_queueLength f_leastTop f_leastBottom a_arcThere a_arcFrom a_arcTo a_arcWeight a_table b.1 b.2 a_levels a_setCells a_onRingBelowZero a_queue a_queued a_arcsUsed) (fun i b => gr_E2 (hx_A a_arcThere a_arcFrom a_arcTo a_arcWeight) (2 ^ i) (2 ^ i) (fun s t => (b.1 (7 * s + t)).toInt) ∧ (1 ≤ i → ∀ p, p < 7 → (b.1 (7 * p + p)).toInt < 0 → (b.1 (7 * p + p)).toInt = -1000000) ∧ (i = 4 → ∃ Z3, gr_E2 (hx_A a_arcThere a_arcFrom a_arcTo a_arcWeight) 8 8 Z3 ∧ (∀ p, p < 7 → Z3 p p < 0 → Z3 p p = -1000000) ∧ ∀ s t, s < 7 → t < 7 → ∀ m, m < 7 → (b.1 (7 * s + t)).toInt ≤ gr_j (Z3 s m) (Z3 m t)) ∧ (i = 5 → ∃ Z3 Z4, gr_E2 (hx_A a_arcThere a_arcFrom a_arcTo a_arcWeight) 8 8 Z3 ∧ (∀ p, p < 7 → Z3 p p < 0 → Z3 p p = -1000000) ∧ gr_E2 (hx_A a_arcThere a_arcFrom a_arcTo a_arcWeight) 16 16 Z4 ∧ (∀ s t, s < 7 → t < 7 → ∀ m, m < 7 → Z4 s t ≤ gr_j (Z3 s m) (Z3 m t)) ∧ ∀ s t, s < 7 → t < 7 → ∀ m, m < 7 → (b.1 (7 * s + t)).toInt ≤ gr_j (Z4 s m) (Z4 m t))) 5 (b0, a_squared) ?_ ?_ ?_
  · refine ⟨⟨h1, fun s t n c hs hn g => ?_⟩, fun z => absurd z (by decide), fun z => absurd z (by decide), fun z => absurd z (by decide)⟩
    cases n with
    | zero =>
      obtain ⟨rfl, rfl⟩ := g
      exact h2 s hs
    | succ n =>
      have n0 : n = 0 := by
        have : 2 ^ 0 = 1 := rfl
        omega
      subst n0
      obtain ⟨u, c', x, ⟨rfl, rfl⟩, a, rfl⟩ := g
      have := h3 _ _ _ a
      show (b0 (7 * s + t)).toInt ≤ 0 + x
      omega
  · intro n b hb
    obtain ⟨Z3, Z4, g1, g2, g3, g4, g5⟩ := hb.2.2.2 rfl
    exact br_t (nI_le (Nat.le_refl 5) (by decide)) (h b.1 b.2 (gr_E2f gok g1 g2 g3 hb.1 g4 g5))
  · intro n i b hi hb hn
    have p2 : 2 ^ i ≤ 2 ^ 4 := Nat.pow_le_pow_right (by decide) (by omega)
    have es : 2 ^ (i + 1) = 2 ^ i + 2 ^ i := by
      rw [Nat.pow_succ]
      omega
    have rg : ∀ s t, s < 7 → t < 7 → gr_rg (b.1 (7 * s + t)).toInt := fun s t hs ht => gr_Cr gok (by omega) (hb.1.1 s t hs ht)
    refine br_f (nI_ge (b := 5) hi (by decide)) ?_
    refine hx_join_otherTable rg fun b1 sq hb1 => ?_
    refine loop_0 (fun n' j (b2 : Nat → Int32) => wX_fillBySquaring__otherTable_19 post (wX_fillBySquaring__otherTable_7 post n) (nI i) f_queueStart f_queueLength f_leastTop f_leastBottom n' (nI j) a_arcThere a_arcFrom a_arcTo a_arcWeight a_table b2 sq a_levels a_setCells a_onRingBelowZero a_queue a_queued a_arcsUsed) (fun j b2 => ∀ s t, s < 7 → t < 7 → (b2 (7 * s + t)).toInt = if s = t ∧ s < j ∧ (b1 (7 * s + t)).toInt < 0 then -1000000 else (b1 (7 * s + t)).toInt) 7 b1 ?_ ?_ ?_
    · intro s t hs ht
      rw [if_neg (by omega)]
    · intro n' b2 hb2
      refine br_t (nI_le (Nat.le_refl 7) (by decide)) ?_
      rw [nI_1]
      have low : ∀ s t, s < 7 → t < 7 → ∀ m, m < 7 → (b2 (7 * s + t)).toInt ≤ gr_j (b.1 (7 * s + m)).toInt (b.1 (7 * m + t)).toInt := by
        intro s t hs ht m hm
        have k1 := (hb1 s t hs ht).1 m hm
        have k2 := @gr_jc (b.1 (7 * s + m)).toInt (b.1 (7 * m + t)).toInt
        have k3 := rg s m hs hm
        have k4 := rg m t hm ht
        unfold gr_rg at k3 k4
        rw [hb2 s t hs ht]
        split <;> omega
      refine nm_e (hn (b2, sq) ⟨?_, fun _ p hp hl => ?_, fun e => ⟨fun s t => (b.1 (7 * s + t)).toInt, ?_, hb.2.1 (by omega), low⟩, fun e => ?_⟩)
      · rw [es]
        refine gr_E2s gok (by omega) (by omega) hb.1 fun s t hs ht => ⟨low s t hs ht, ?_⟩
        show (b2 (7 * s + t)).toInt = _ ∨ (_ ∧ (b2 (7 * s + t)).toInt = _ ∧ _) ∨ ∃ m, m < 7 ∧ (b2 (7 * s + t)).toInt = _
        rw [hb2 s t hs ht]
        by_cases c : s = t ∧ s < 7 ∧ (b1 (7 * s + t)).toInt < 0
        · rw [if_pos c]
          refine Or.inr (Or.inl ⟨c.1, rfl, ?_⟩)
          rcases (hb1 s t hs ht).2 with e | ⟨m, hm, e⟩
          · omega
          · exact ⟨m, hm, by omega⟩
        · rw [if_neg c]
          rcases (hb1 s t hs ht).2 with e | e
          · exact Or.inl e
          · exact Or.inr (Or.inr e)
      · have := hb2 p p hp hp
        dsimp only at hl ⊢
        rw [this] at hl ⊢
        by_cases c : p = p ∧ p < 7 ∧ (b1 (7 * p + p)).toInt < 0
        · rw [if_pos c]
        · rw [if_neg c] at hl
          exact absurd ⟨rfl, hp, hl⟩ c
      · have e3 : i = 3 := by omega
        have := hb.1
        rw [e3] at this
        exact this
      · have e4 : i = 4 := by omega
        obtain ⟨Z3, g1, g2, g3⟩ := hb.2.2.1 e4
        have := hb.1
        rw [e4] at this
        exact ⟨Z3, _, g1, g2, this, g3, low⟩
    · intro n' j b2 hj hb2 hn'
      have ck : (nI (7 * j + j)).toNatClampNeg = 7 * j + j := nI_clamp (by omega)
      have vj : vp_in (nI (7 * j + j)) 49 := vp_in_nI (by omega) (by decide)
      have ej : (b2 (7 * j + j)).toInt = (b1 (7 * j + j)).toInt := by rw [hb2 j j hj hj, if_neg (by omega)]
      refine br_f (nI_ge (b := 7) hj (by decide)) ?_
      rw [hp_ix, ck, nI_1]
      refine ⟨vj, br_c (fun c => nm_e (hn' b2 fun s t hs ht => ?_)) (fun c => ⟨vj, nm_e (nm_e (hn' _ fun s t hs ht => ?_))⟩)⟩
      · rw [hp_le, hp_0, ej] at c
        rw [hb2 s t hs ht]
        by_cases e : s = t ∧ s = j
        · obtain ⟨rfl, rfl⟩ := e
          rw [if_neg (by omega), if_neg (by omega)]
        · by_cases e2 : s = t ∧ s < j ∧ (b1 (7 * s + t)).toInt < 0
          · rw [if_pos e2, if_pos (by omega)]
          · rw [if_neg e2, if_neg (by omega)]
      · rw [hp_le, hp_0, ej] at c
        rw [hx_ut, hb2 s t hs ht, hp_D]
        by_cases e : s = t ∧ s = j
        · obtain ⟨rfl, rfl⟩ := e
          rw [if_pos rfl, if_pos (by omega)]
        · rw [if_neg (by omega)]
          by_cases e2 : s = t ∧ s < j ∧ (b1 (7 * s + t)).toInt < 0
          · rw [if_pos e2, if_pos (by omega)]
          · rw [if_neg e2, if_neg (by omega)]
end
section
/-! the component: engine 3 -/
theorem hp_nb1 : vp_nar .boolean 1 = 1 := by rfl
theorem hp_nb0 : vp_nar .boolean 0 = 0 := by rfl
def hx_sum (f : Nat → Int) : Int := f 0 + f 1 + f 2 + f 3 + f 4 + f 5 + f 6
theorem hx_sumU {f f' : Nat → Int} {p : Nat} (hp : p < 7) (h : ∀ v, v < 7 → v ≠ p → f' v = f v) : hx_sum f' = hx_sum f + (f' p - f p) := by
  have h0 := h 0 (by decide)
  have h1 := h 1 (by decide)
  have h2 := h 2 (by decide)
  have h3 := h 3 (by decide)
  have h4 := h 4 (by decide)
  have h5 := h 5 (by decide)
  have h6 := h 6 (by decide)
  have e : p = 0 ∨ p = 1 ∨ p = 2 ∨ p = 3 ∨ p = 4 ∨ p = 5 ∨ p = 6 := by omega
  unfold hx_sum
  rcases e with rfl | rfl | rfl | rfl | rfl | rfl | rfl <;> omega
theorem hx_sumB {f : Nat → Int} {a b : Int} (h : ∀ v, v < 7 → a ≤ f v ∧ f v ≤ b) : 7 * a ≤ hx_sum f ∧ hx_sum f ≤ 7 * b := by
  have h0 := h 0 (by decide)
  have h1 := h 1 (by decide)
  have h2 := h 2 (by decide)
  have h3 := h 3 (by decide)
  have h4 := h 4 (by decide)
  have h5 := h 5 (by decide)
  have h6 := h 6 (by decide)
  unfold hx_sum
  omega
def hx_one (qd : Nat → Int32) (p : Nat) : Int := if qd p = 0 then 0 else 1
theorem hx_oneB (qd : Nat → Int32) (p : Nat) : 0 ≤ hx_one qd p ∧ hx_one qd p ≤ 1 := by
  unfold hx_one
  split <;> omega
theorem hx_one0 {qd : Nat → Int32} {p : Nat} : hx_one qd p = 0 ↔ qd p = 0 := by
  unfold hx_one
  split <;> simp_all
/-- the queue: from st on ln points, each marked, none twice; as many as are marked -/
def hx_Q (st ln : Nat) (q qd : Nat → Int32) : Prop := st < 7 ∧ (ln : Int) = hx_sum (hx_one qd) ∧ (∀ i, i < ln → ∃ p, p < 7 ∧ q ((st + i) % 7) = nI p ∧ ¬ qd p = 0) ∧ ∀ i j, i < j → j < ln → q ((st + i) % 7) ≠ q ((st + j) % 7)
theorem hx_Q0 {st : Nat} {q qd : Nat → Int32} (hst : st < 7) (h : ∀ v, v < 7 → qd v = 0) : hx_Q st 0 q qd := by
  refine ⟨hst, ?_, fun i hi => absurd hi (by omega), fun i j _ hj => absurd hj (by omega)⟩
  have := hx_sumB (f := hx_one qd) (a := 0) (b := 0) (fun v hv => by rw [hx_one0.mpr (h v hv)]; omega)
  omega
theorem hx_Qz {st : Nat} {q qd : Nat → Int32} (h : hx_Q st 0 q qd) : ∀ v, v < 7 → qd v = 0 := by
  intro v hv
  have h2 := h.2.1
  refine Classical.byContradiction fun hn => ?_
  have h3 := hx_oneB qd v
  have h4 : hx_one qd v ≠ 0 := fun z => hn (hx_one0.mp z)
  have h5 := hx_sumU (f := fun i => if i = v then 0 else hx_one qd i) (f' := hx_one qd) hv (fun i _ hi => by rw [if_neg hi])
  have h6 := hx_sumB (f := fun i => if i = v then 0 else hx_one qd i) (a := 0) (b := 1) (fun i _ => by
    have := hx_oneB qd i
    split <;> omega)
  rw [if_pos rfl] at h5
  omega
theorem hx_Q7 {st ln p : Nat} {q qd : Nat → Int32} (h : hx_Q st ln q qd) (hp : p < 7) (h0 : qd p = 0) : ln < 7 := by
  have h2 := h.2.1
  have h5 := hx_sumU (f := fun i => if i = p then 1 else hx_one qd i) (f' := hx_one qd) hp (fun i _ hi => by rw [if_neg hi])
  have h6 := hx_sumB (f := fun i => if i = p then 1 else hx_one qd i) (a := 0) (b := 1) (fun i _ => by
    have := hx_oneB qd i
    split <;> omega)
  rw [if_pos rfl, hx_one0.mpr h0] at h5
  omega
theorem hx_enqueue {post : SX → Prop} {f_leastTop f_leastBottom : Int32} {a_arcThere a_arcFrom a_arcTo a_arcWeight a_table a_otherTable a_squared a_levels a_setCells a_onRingBelowZero a_queue a_queued a_arcsUsed : Nat → Int32} {st ln p : Nat} (hp : p < 7) (hQ : hx_Q st ln a_queue a_queued) (h0 : ¬ a_queued p = 0 → post ((nI st), (nI ln), f_leastTop, f_leastBottom, a_arcThere, a_arcFrom, a_arcTo, a_arcWeight, a_table, a_otherTable, a_squared, a_levels, a_setCells, a_onRingBelowZero, a_queue, a_queued, a_arcsUsed)) (h1 : a_queued p = 0 → ∀ q : Nat → Int32, hx_Q st (ln + 1) q (upd a_queued p 1) → post ((nI st), (nI (ln + 1)), f_leastTop, f_leastBottom, a_arcThere, a_arcFrom, a_arcTo, a_arcWeight, a_table, a_otherTable, a_squared, a_levels, a_setCells, a_onRingBelowZero, q, (upd a_queued p 1), a_arcsUsed)) : wpX_enqueue post ((nI st), (nI ln), f_leastTop, f_leastBottom, a_arcThere, a_arcFrom, a_arcTo, a_arcWeight, a_table, a_otherTable, a_squared, a_levels, a_setCells, a_onRingBelowZero, a_queue, a_queued, a_arcsUsed) (nI p) := by
  have ck : (nI p).toNatClampNeg = p := nI_clamp (by omega)
  have vp : vp_in (nI p) 7 := vp_in_nI hp (by decide)
  unfold wpX_enqueue
  dsimp only
  rw [ck, hp_nb1]
  refine ⟨vp, br_c (fun c => ⟨vp, nm_e ⟨by decide, ?_⟩⟩) (fun c => h0 c)⟩
  have l7 := hx_Q7 hQ hp c
  obtain ⟨q1, q2, q3, q4⟩ := hQ
  have er : nI st + nI ln - (nI st + nI ln) / 7 * 7 = nI ((st + ln) % 7) := by
    rw [nI_add, show (7 : Int32) = nI 7 from rfl]
    exact pk_rem (by omega) (by decide) (by decide)
  have cr : (nI ((st + ln) % 7)).toNatClampNeg = (st + ln) % 7 := nI_clamp (by omega)
  rw [er, cr, nI_1]
  refine ⟨vp_in_nI (by omega) (by decide), nm_e (nm_e (h1 c _ ⟨q1, ?_, fun i hi => ?_, fun i j hij hj => ?_⟩))⟩
  · have := hx_sumU (f := hx_one a_queued) (f' := hx_one (upd a_queued p 1)) hp (fun v _ hv => by
      unfold hx_one
      rw [pk_un hv])
    rw [hx_one0.mpr c] at this
    have e1 : hx_one (upd a_queued p 1) p = 1 := by
      unfold hx_one
      rw [pk_us]
      rfl
    omega
  · by_cases e : i = ln
    · subst e
      refine ⟨p, hp, pk_us, ?_⟩
      rw [pk_us]
      decide
    · obtain ⟨p', g1, g2, g3⟩ := q3 i (by omega)
      refine ⟨p', g1, ?_, ?_⟩
      · rw [pk_un (by omega)]
        exact g2
      · by_cases e2 : p' = p
        · subst e2
          exact absurd c g3
        · rw [pk_un e2]
          exact g3
  · have n1 : (st + i) % 7 ≠ (st + ln) % 7 := by omega
    rw [pk_un n1]
    by_cases e : j = ln
    · subst e
      rw [pk_us]
      obtain ⟨p', g1, g2, g3⟩ := q3 i hij
      rw [g2]
      intro z
      rw [nI_eq (by omega) (by omega)] at z
      subst z
      exact g3 c
    · have n2 : (st + j) % 7 ≠ (st + ln) % 7 := by omega
      rw [pk_un n2]
      exact q4 i j hij (by omega)
theorem hx_dequeue {post : Int32 → SX → Prop} {f_leastTop f_leastBottom : Int32} {a_arcThere a_arcFrom a_arcTo a_arcWeight a_table a_otherTable a_squared a_levels a_setCells a_onRingBelowZero a_queue a_queued a_arcsUsed : Nat → Int32} {st ln : Nat} (hQ : hx_Q st (ln + 1) a_queue a_queued) (h : ∀ p st' : Nat, p < 7 → ¬ a_queued p = 0 → hx_Q st' ln a_queue (upd a_queued p 0) → post (nI p) ((nI st'), (nI ln), f_leastTop, f_leastBottom, a_arcThere, a_arcFrom, a_arcTo, a_arcWeight, a_table, a_otherTable, a_squared, a_levels, a_setCells, a_onRingBelowZero, a_queue, (upd a_queued p 0), a_arcsUsed)) : wpX_dequeue post ((nI st), (nI (ln + 1)), f_leastTop, f_leastBottom, a_arcThere, a_arcFrom, a_arcTo, a_arcWeight, a_table, a_otherTable, a_squared, a_levels, a_setCells, a_onRingBelowZero, a_queue, a_queued, a_arcsUsed) := by
  obtain ⟨q1, q2, q3, q4⟩ := hQ
  obtain ⟨p, hp, ep, qp⟩ := q3 0 (by omega)
  have e0 : (st + 0) % 7 = st := by omega
  rw [e0] at ep
  have ck : (nI st).toNatClampNeg = st := nI_clamp (by omega)
  have cp : (nI p).toNatClampNeg = p := nI_clamp (by omega)
  have er : nI st + 1 - (nI st + 1) / 7 * 7 = nI ((st + 1) % 7) := by
    rw [nI_1, show (7 : Int32) = nI 7 from rfl]
    exact pk_rem (by omega) (by decide) (by decide)
  unfold wpX_dequeue
  dsimp only
  rw [ck, ep, hp_nb0]
  refine ⟨vp_in_nI q1 (by decide), nm_e ⟨vp_in_nI hp (by decide), ?_⟩⟩
  rw [cp, er, nI_pred]
  refine nm_e ⟨by decide, nm_e (nm_e (h p _ hp qp ⟨by omega, ?_, fun i hi => ?_, fun i j hij hj => ?_⟩))⟩
  · have := hx_sumU (f := hx_one a_queued) (f' := hx_one (upd a_queued p 0)) hp (fun v _ hv => by
      unfold hx_one
      rw [pk_un hv])
    have e1 : hx_one (upd a_queued p 0) p = 0 := hx_one0.mpr pk_us
    have e2 : hx_one a_queued p = 1 := by
      unfold hx_one
      rw [if_neg qp]
    omega
  · obtain ⟨p', g1, g2, g3⟩ := q3 (i + 1) (by omega)
    have ei : ((st + 1) % 7 + i) % 7 = (st + (i + 1)) % 7 := by omega
    refine ⟨p', g1, by rw [ei]; exact g2, ?_⟩
    by_cases e : p' = p
    · subst e
      have := q4 0 (i + 1) (by omega) (by omega)
      rw [e0, ep, g2] at this
      exact absurd rfl this
    · rw [pk_un e]
      exact g3
  · have ei : ((st + 1) % 7 + i) % 7 = (st + (i + 1)) % 7 := by omega
    have ej : ((st + 1) % 7 + j) % 7 = (st + (j + 1)) % 7 := by omega
    rw [ei, ej]
    exact q4 (i + 1) (j + 1) (by omega) (by omega)
def hx_rk (z : Int) : Int := if z = -1000000 then 0 else if z = 1000000 then 242 else z + 121
theorem hx_rkB {A : Nat → Nat → Int → Prop} (ok : gr_ok A) {s v : Nat} {z : Int} (h : gr_C A 6 s v z) : 0 ≤ hx_rk z ∧ hx_rk z ≤ 242 := by
  unfold hx_rk
  rcases h with e | ⟨e, _⟩ | ⟨n, hn, g⟩
  · subst e
    simp
  · subst e
    simp
  · have := gr_Wb ok g
    rw [if_neg (by omega), if_neg (by omega)]
    omega
theorem hx_rkL {A : Nat → Nat → Int → Prop} (ok : gr_ok A) {s v : Nat} {z z' : Int} (h : gr_C A 6 s v z) (h' : gr_C A 6 s v z') (l : z' < z) : hx_rk z' + 1 ≤ hx_rk z := by
  unfold hx_rk
  rcases h with e | ⟨e, _⟩ | ⟨n, hn, g⟩ <;> rcases h' with e' | ⟨e', _⟩ | ⟨n', hn', g'⟩
  · omega
  · subst e e'
    simp
  · have := gr_Wb ok g'
    subst e
    rw [if_neg (by omega), if_neg (by omega), if_neg (by omega), if_pos rfl]
    omega
  · omega
  · omega
  · have := gr_Wb ok g'
    omega
  · have := gr_Wb ok g
    omega
  · have := gr_Wb ok g
    subst e'
    rw [if_pos rfl, if_neg (by omega), if_neg (by omega)]
    omega
  · have := gr_Wb ok g
    have := gr_Wb ok g'
    rw [if_neg (by omega), if_neg (by omega), if_neg (by omega), if_neg (by omega)]
    omega
def hx_S3 (s : Nat) (b : Nat → Int32) : Int := hx_sum (fun v => hx_rk (b (7 * s + v)).toInt)
/-- row s while the queue works -/
def hx_C3 (A : Nat → Nat → Int → Prop) (s : Nat) (b us : Nat → Int32) : Prop := (∀ v, v < 7 → gr_I A s (fun y => (b (7 * s + y)).toInt) v (b (7 * s + v)).toInt (us v).toInt) ∧ (b (7 * s + s)).toInt ≤ 0 ∧ ∀ v, v < 7 → (b (7 * s + v)).toInt ≠ 1000000 → 0 ≤ (us v).toInt ∧ (us v).toInt + hx_S3 s b ≤ 1694
def hx_rel (A : Nat → Nat → Int → Prop) (s : Nat) (b : Nat → Int32) (v : Nat) : Prop := ∀ y x, A v y x → (b (7 * s + v)).toInt ≠ 1000000 → (b (7 * s + y)).toInt ≤ gr_j (b (7 * s + v)).toInt x
theorem hx_S3B {A : Nat → Nat → Int → Prop} (ok : gr_ok A) {s : Nat} {b us : Nat → Int32} (h : hx_C3 A s b us) : 0 ≤ hx_S3 s b ∧ hx_S3 s b ≤ 1694 := by
  have := hx_sumB (f := fun v => hx_rk (b (7 * s + v)).toInt) (a := 0) (b := 242) (fun v hv => hx_rkB ok (gr_IC (h.1 v hv)))
  unfold hx_S3
  omega
/-- one cell of the row sinks -/
theorem hx_sink3 {A : Nat → Nat → Int → Prop} (ok : gr_ok A) {s p y : Nat} {b us : Nat → Int32} {x : Int} {z0 : Int32} (hs : s < 7) (hp : p < 7) (hy : y < 7) (h : hx_C3 A s b us) (a : A p y x) (hf : gr_j (b (7 * s + p)).toInt x < (b (7 * s + y)).toInt) (hz : z0.toInt = if (us p).toInt + 1 < 7 then gr_j (b (7 * s + p)).toInt x else -1000000) : hx_C3 A s (upd b (7 * s + y) z0) (upd us y (us p + 1)) ∧ hx_S3 s (upd b (7 * s + y) z0) + 1 ≤ hx_S3 s b ∧ z0.toInt ≤ gr_j (b (7 * s + p)).toInt x ∧ (∀ v, ((upd b (7 * s + y) z0) (7 * s + v)).toInt ≤ (b (7 * s + v)).toInt) ∧ (us p + 1).toInt = (us p).toInt + 1 := by
  obtain ⟨h1, h2, h3⟩ := h
  have hx := ok _ _ _ a
  have gp := gr_IC (h1 p hp)
  have gy := gr_IC (h1 y hy)
  have rp := gr_Cr ok (by decide) gp
  have ry := gr_Cr ok (by decide) gy
  have jc := @gr_jc (b (7 * s + p)).toInt x
  have S := hx_S3B ok ⟨h1, h2, h3⟩
  have pF : (b (7 * s + p)).toInt ≠ 1000000 := by
    unfold gr_rg at ry
    omega
  have u3 := h3 p hp pF
  have eu : (us p + 1).toInt = (us p).toInt + 1 := hp_add rfl hp_1 (by omega) (by omega)
  have zl : z0.toInt ≤ gr_j (b (7 * s + p)).toInt x := by
    rw [hz]
    unfold gr_rg at rp
    split <;> omega
  have le : ∀ v, ((upd b (7 * s + y) z0) (7 * s + v)).toInt ≤ (b (7 * s + v)).toInt := by
    intro v
    rw [hx_ut]
    by_cases e : 7 * s + v = 7 * s + y
    · rw [if_pos e, e]
      omega
    · rw [if_neg e]
      exact Int.le_refl _
  have Iy : gr_I A s (fun v => (upd b (7 * s + y) z0 (7 * s + v)).toInt) y (upd b (7 * s + y) z0 (7 * s + y)).toInt ((us p).toInt + 1) :=
    gr_sink ok (C := fun v => (b (7 * s + v)).toInt) hs (h1 p hp) a hf ry (fun v => (upd b (7 * s + y) z0 (7 * s + v)).toInt) le (by
      show (upd b (7 * s + y) z0 (7 * s + y)).toInt = _
      rw [pk_us]
      exact hz)
  have SL : hx_S3 s (upd b (7 * s + y) z0) + 1 ≤ hx_S3 s b := by
    have k1 := hx_sumU (f := fun v => hx_rk (b (7 * s + v)).toInt) (f' := fun v => hx_rk (upd b (7 * s + y) z0 (7 * s + v)).toInt) hy (fun v _ hv => by
      rw [pk_un (by omega)])
    have k2 := gr_IC Iy
    rw [pk_us] at k2
    have k3 := hx_rkL ok gy k2 (by omega)
    rw [pk_us] at k1
    unfold hx_S3
    omega
  refine ⟨⟨fun v hv => ?_, Int.le_trans (le s) h2, fun v hv hF => ?_⟩, SL, zl, le, eu⟩
  · by_cases e : v = y
    · subst e
      have e2 : upd us v (us p + 1) v = us p + 1 := pk_us
      rw [e2, eu]
      exact Iy
    · rw [pk_un e, pk_un (f := b) (k := 7 * s + y) (j := 7 * s + v) (by omega)]
      exact gr_Im le (h1 v hv)
  · by_cases e : v = y
    · subst e
      have e2 : upd us v (us p + 1) v = us p + 1 := pk_us
      rw [e2, eu]
      omega
    · rw [pk_un (f := b) (k := 7 * s + y) (j := 7 * s + v) (by omega)] at hF
      rw [pk_un e]
      have := h3 v hv hF
      omega
end
section
/-! the component: engine 3, its loops -/
theorem hx_leave_table {post : SX → Prop} {f_leastTop f_leastBottom : Int32} {a_arcThere a_arcFrom a_arcTo a_arcWeight a_table a_otherTable a_squared a_levels a_setCells a_onRingBelowZero a_queue a_queued a_arcsUsed : Nat → Int32} (ok : hx_ok a_arcThere a_arcFrom a_arcTo a_arcWeight) {s p st ln : Nat} (hs : s < 7) (hp : p < 7) (hQ : hx_Q st ln a_queue a_queued) (hC : hx_C3 (hx_A a_arcThere a_arcFrom a_arcTo a_arcWeight) s a_table a_arcsUsed) (hrel : ∀ v, v < 7 → v ≠ p → a_queued v = 0 → hx_rel (hx_A a_arcThere a_arcFrom a_arcTo a_arcWeight) s a_table v) (h : ∀ (ln' : Nat) (b us q qd : Nat → Int32), (∀ j, (∀ v, v < 7 → j ≠ 7 * s + v) → b j = a_table j) → hx_Q st ln' q qd → hx_C3 (hx_A a_arcThere a_arcFrom a_arcTo a_arcWeight) s b us → (∀ v, v < 7 → qd v = 0 → hx_rel (hx_A a_arcThere a_arcFrom a_arcTo a_arcWeight) s b v) → hx_S3 s b + ln' ≤ hx_S3 s a_table + ln → post ((nI st), (nI ln'), f_leastTop, f_leastBottom, a_arcThere, a_arcFrom, a_arcTo, a_arcWeight, b, a_otherTable, a_squared, a_levels, a_setCells, a_onRingBelowZero, q, qd, us)) : wpX_leave__table post ((nI st), (nI ln), f_leastTop, f_leastBottom, a_arcThere, a_arcFrom, a_arcTo, a_arcWeight, a_table, a_otherTable, a_squared, a_levels, a_setCells, a_onRingBelowZero, a_queue, a_queued, a_arcsUsed) (nI (7 * s)) (nI p) := by
  have gok := hx_grok ok
  refine loop_0 (fun n i (z : Nat × (Nat → Int32) × (Nat → Int32) × (Nat → Int32) × (Nat → Int32)) => wX_leave__table_3 post (nI (7 * s)) (nI p) n (nI i) (nI st) (nI z.1) f_leastTop f_leastBottom a_arcThere a_arcFrom a_arcTo a_arcWeight z.2.1 a_otherTable a_squared a_levels a_setCells a_onRingBelowZero z.2.2.1 z.2.2.2.1 z.2.2.2.2) (fun i z => (∀ j, (∀ v, v < 7 → j ≠ 7 * s + v) → z.2.1 j = a_table j) ∧ hx_Q st z.1 z.2.2.1 z.2.2.2.1 ∧ hx_C3 (hx_A a_arcThere a_arcFrom a_arcTo a_arcWeight) s z.2.1 z.2.2.2.2 ∧ (∀ v, v < 7 → v ≠ p → z.2.2.2.1 v = 0 → hx_rel (hx_A a_arcThere a_arcFrom a_arcTo a_arcWeight) s z.2.1 v) ∧ (z.2.2.2.1 p = 0 → ∀ j y x, j < i → (hx_K a_arcThere a_arcFrom a_arcTo a_arcWeight) j p y x → (z.2.1 (7 * s + p)).toInt ≠ 1000000 → (z.2.1 (7 * s + y)).toInt ≤ gr_j (z.2.1 (7 * s + p)).toInt x) ∧ hx_S3 s z.2.1 + z.1 ≤ hx_S3 s a_table + ln) 20 (ln, a_table, a_queue, a_queued, a_arcsUsed) ?_ ?_ ?_
  · exact ⟨fun j _ => rfl, hQ, hC, hrel, fun _ j y x hj => absurd hj (by omega), Int.le_refl _⟩
  · rintro n ⟨ln', b, q, qd, us⟩ ⟨r1, r2, r3, r4, r5, r6⟩
    refine br_t (nI_le (Nat.le_refl 20) (by decide)) (h ln' b us q qd r1 r2 r3 (fun v hv hq => ?_) r6)
    by_cases e : v = p
    · subst e
      rintro y x ⟨j, hj, hk⟩ hF
      exact r5 hq j y x hj hk hF
    · exact r4 v hv e hq
  · rintro n i ⟨ln', b, q, qd, us⟩ hi ⟨r1, r2, r3, r4, r5, r6⟩ hn
    dsimp only at r1 r2 r3 r4 r5 r6
    obtain ⟨u, v, x, hu, hv, eu, ev, ew, hx1, hx2, hk0, hk1⟩ := hx_arc ok hi
    have ck : (nI i).toNatClampNeg = i := nI_clamp (by omega)
    have cp : (nI p).toNatClampNeg = p := nI_clamp (by omega)
    have cq : (nI v).toNatClampNeg = v := nI_clamp (by omega)
    have cu : (nI (7 * s + p)).toNatClampNeg = 7 * s + p := nI_clamp (by omega)
    have cv : (nI (7 * s + v)).toNatClampNeg = 7 * s + v := nI_clamp (by omega)
    have vi : vp_in (nI i) 20 := vp_in_nI hi (by decide)
    have vp : vp_in (nI p) 7 := vp_in_nI hp (by decide)
    have vq : vp_in (nI v) 7 := vp_in_nI hv (by decide)
    have vu : vp_in (nI (7 * s + p)) 49 := vp_in_nI (by omega) (by decide)
    have vv : vp_in (nI (7 * s + v)) 49 := vp_in_nI (by omega) (by decide)
    have keep : (∀ y x, (hx_K a_arcThere a_arcFrom a_arcTo a_arcWeight) i p y x → (b (7 * s + p)).toInt ≠ 1000000 → (b (7 * s + y)).toInt ≤ gr_j (b (7 * s + p)).toInt x) → wX_leave__table_3 post (nI (7 * s)) (nI p) n (nI (i + 1)) (nI st) (nI ln') f_leastTop f_leastBottom a_arcThere a_arcFrom a_arcTo a_arcWeight b a_otherTable a_squared a_levels a_setCells a_onRingBelowZero q qd us := by
      intro hh
      refine hn (ln', b, q, qd, us) ⟨r1, r2, r3, r4, fun hq j y x' hj hk hF => ?_, r6⟩
      by_cases e : j = i
      · subst e
        exact hh y x' hk hF
      · exact r5 hq j y x' (by omega) hk hF
    refine br_f (nI_ge (b := 20) hi (by decide)) ?_
    simp only [ck, eu, ev, nI_1, nI_add, cu, cp]
    refine ⟨vi, br_c (fun t0 => nm_e (keep fun y x' hk => absurd hk (hk0 t0 _ _ _))) (fun t0 => ⟨vi, ?_⟩)⟩
    obtain ⟨kk, ha⟩ := hk1 t0
    refine br_c (fun c => ?_) (fun c => nm_e (keep fun y x' hk => ?_))
    · rw [nI_eq (by omega) (by omega)] at c
      subst c
      have rp := gr_Cr gok (by decide) (gr_IC (r3.1 u hu))
      refine ⟨vi, nm_e ⟨vu, vi, ?_⟩⟩
      simp only [nI_add, cv, cq]
      refine hx_jE rfl ew (gr_rgr rp) (by omega) fun r hr => ⟨vv, br_c (fun c => nm_e (keep fun y x' hk hF => ?_)) (fun c => ⟨vp, vq, nm_e ⟨vq, ?_⟩⟩)⟩
      · obtain ⟨_, rfl, rfl⟩ := (kk _ _ _).mp hk
        rw [hp_le, hr] at c
        exact c
      · rw [hp_le, hr] at c
        have go : ∀ z0 : Int32, z0.toInt = (if (us u).toInt + 1 < 7 then gr_j (b (7 * s + u)).toInt x else -1000000) → wX_leave__table_107 post (wX_leave__table_3 post (nI (7 * s)) (nI u) n) (nI (7 * s)) (nI u) (nI i) (nI v) z0 (nI (7 * s + v)) (nI st) (nI ln') f_leastTop f_leastBottom a_arcThere a_arcFrom a_arcTo a_arcWeight b a_otherTable a_squared a_levels a_setCells a_onRingBelowZero q qd (upd us v (us u + 1)) := by
          intro z0 hz
          obtain ⟨k1, k2, k3, k4, k5⟩ := hx_sink3 gok hs hp hv r3 ha (by omega) hz
          have r1' : ∀ j, (∀ v, v < 7 → j ≠ 7 * s + v) → upd b (7 * s + v) z0 j = a_table j := by
            intro j hj
            rw [pk_un (hj v hv)]
            exact r1 j hj
          have relm : ∀ w, w ≠ v → hx_rel (hx_A a_arcThere a_arcFrom a_arcTo a_arcWeight) s b w → hx_rel (hx_A a_arcThere a_arcFrom a_arcTo a_arcWeight) s (upd b (7 * s + v) z0) w := by
            intro w hw hr' y x' a' hF
            have e : upd b (7 * s + v) z0 (7 * s + w) = b (7 * s + w) := pk_un (by omega)
            rw [e] at hF ⊢
            exact Int.le_trans (k4 y) (hr' y x' a' hF)
          have part : u ≠ v → qd u = 0 → ∀ j y x', j < i + 1 → (hx_K a_arcThere a_arcFrom a_arcTo a_arcWeight) j u y x' → (upd b (7 * s + v) z0 (7 * s + u)).toInt ≠ 1000000 → (upd b (7 * s + v) z0 (7 * s + y)).toInt ≤ gr_j (upd b (7 * s + v) z0 (7 * s + u)).toInt x' := by
            intro hne hq j y x' hj hk hF
            have e : upd b (7 * s + v) z0 (7 * s + u) = b (7 * s + u) := pk_un (by omega)
            rw [e] at hF ⊢
            by_cases ej : j = i
            · subst ej
              obtain ⟨_, rfl, rfl⟩ := (kk _ _ _).mp hk
              rw [pk_us]
              exact k3
            · exact Int.le_trans (k4 y) (r5 hq j y x' (by omega) hk hF)
          unfold wX_leave__table_107
          rw [cv]
          refine ⟨vv, nm_e (hx_enqueue hv r2 (fun c2 => ?_) (fun c2 q' hQ' => ?_))⟩
          · dsimp only
            rw [nI_1]
            refine nm_e (hn (ln', upd b (7 * s + v) z0, q, qd, upd us v (us u + 1)) ⟨r1', r2, k1, fun w hw hne hq => relm w (fun e => c2 (e ▸ hq)) (r4 w hw hne hq), fun hq => part (fun e => c2 (e ▸ hq)) hq, ?_⟩)
            dsimp only
            omega
          · dsimp only
            rw [nI_1]
            refine nm_e (hn (ln' + 1, upd b (7 * s + v) z0, q', upd qd v 1, upd us v (us u + 1)) ⟨r1', hQ', k1, fun w hw hne hq => ?_, fun hq => ?_, ?_⟩)
            · dsimp only at hq
              by_cases e : w = v
              · subst e
                rw [pk_us] at hq
                exact absurd hq (by decide)
              · rw [pk_un e] at hq
                exact relm w e (r4 w hw hne hq)
            · dsimp only at hq
              by_cases e : u = v
              · subst e
                rw [pk_us] at hq
                exact absurd hq (by decide)
              · rw [pk_un e] at hq
                exact part e hq
            · dsimp only
              omega
        have k5 : (us u + 1).toInt = (us u).toInt + 1 := (hx_sink3 gok (z0 := if (us u).toInt + 1 < 7 then r else (-1000000)) hs hp hv r3 ha (by omega) (by split <;> first | exact hr | exact hp_D)).2.2.2.2
        rw [pk_us]
        refine br_c (fun c2 => go (-1000000) ?_) (fun c2 => go r ?_)
        · rw [hp_le, hp_7, k5] at c2
          rw [if_neg (by omega), hp_D]
        · rw [hp_le, hp_7, k5] at c2
          rw [if_pos (by omega), hr]
    · obtain ⟨e, _, _⟩ := (kk _ _ _).mp hk
      exact absurd (by rw [e]) c
theorem hx_fillByQueue_table {post : SX → Prop} {f_queueStart f_queueLength f_leastTop f_leastBottom : Int32} {a_arcThere a_arcFrom a_arcTo a_arcWeight a_table a_otherTable a_squared a_levels a_setCells a_onRingBelowZero a_queue a_queued a_arcsUsed : Nat → Int32} (ok : hx_ok a_arcThere a_arcFrom a_arcTo a_arcWeight) (hq0 : ∀ v, v < 7 → a_queued v = 0) (h : ∀ (st ln : Int32) (b q qd us : Nat → Int32), (∀ v, v < 7 → qd v = 0) → (∀ s t, s < 7 → t < 7 → gr_Ans (hx_A a_arcThere a_arcFrom a_arcTo a_arcWeight) s t (gr_cv (b (7 * s + t)).toInt)) → post (st, ln, f_leastTop, f_leastBottom, a_arcThere, a_arcFrom, a_arcTo, a_arcWeight, b, a_otherTable, a_squared, a_levels, a_setCells, a_onRingBelowZero, q, qd, us)) : wpX_fillByQueue__table post (f_queueStart, f_queueLength, f_leastTop, f_leastBottom, a_arcThere, a_arcFrom, a_arcTo, a_arcWeight, a_table, a_otherTable, a_squared, a_levels, a_setCells, a_onRingBelowZero, a_queue, a_queued, a_arcsUsed) := by
  have gok := hx_grok ok
  unfold wpX_fillByQueue__table
  refine hx_startEmpty_table fun b0 h0 => ?_
  refine loop_0 (fun n i (z : Int32 × Int32 × (Nat → Int32) × (Nat → Int32) × (Nat → Int32) × (Nat → Int32)) => wX_fillByQueue__table_6 post n (nI i) z.1 z.2.1 f_leastTop f_leastBottom a_arcThere a_arcFrom a_arcTo a_arcWeight z.2.2.1 a_otherTable a_squared a_levels a_setCells a_onRingBelowZero z.2.2.2.1 z.2.2.2.2.1 z.2.2.2.2.2) (fun i z => (∀ v, v < 7 → z.2.2.2.2.1 v = 0) ∧ (∀ s t, s < i → t < 7 → gr_Ans (hx_A a_arcThere a_arcFrom a_arcTo a_arcWeight) s t (gr_cv (z.2.2.1 (7 * s + t)).toInt)) ∧ ∀ s t, i ≤ s → s < 7 → t < 7 → (z.2.2.1 (7 * s + t)).toInt = if s = t then 0 else 1000000) 7 (f_queueStart, f_queueLength, b0, a_queue, a_queued, a_arcsUsed) ?_ ?_ ?_
  · exact ⟨hq0, fun s t hs => absurd hs (by omega), fun s t _ hs ht => h0 s t hs ht⟩
  · rintro n ⟨st, ln, b, q, qd, us⟩ ⟨g1, g2, g3⟩
    exact br_t (nI_le (Nat.le_refl 7) (by decide)) (h st ln b q qd us g1 fun s t hs ht => g2 s t hs ht)
  · rintro n s ⟨st, ln, b, q, qd, us⟩ hs ⟨g1, g2, g3⟩ hn
    dsimp only at g1 g2 g3
    have ck : (nI s).toNatClampNeg = s := nI_clamp (by omega)
    refine br_f (nI_ge (b := 7) hs (by decide)) ?_
    dsimp only
    rw [ck]
    refine ⟨vp_in_nI hs (by decide), nm_e (hx_enqueue (st := 0) (ln := 0) hs (hx_Q0 (by decide) g1) (fun c => absurd (g1 s hs) c) (fun c q' hQ' => ?_))⟩
    have row : ∀ v, v < 7 → (b (7 * s + v)).toInt = if s = v then 0 else 1000000 := fun v hv => g3 s v (Nat.le_refl s) hs hv
    have C0 : hx_C3 (hx_A a_arcThere a_arcFrom a_arcTo a_arcWeight) s b (upd us s 0) := by
      have k0 : ∀ v, v < 7 → gr_I (hx_A a_arcThere a_arcFrom a_arcTo a_arcWeight) s (fun y => (b (7 * s + y)).toInt) v (b (7 * s + v)).toInt ((upd us s 0) v).toInt := by
        intro v hv
        rw [row v hv]
        by_cases e : s = v
        · subst e
          rw [if_pos rfl, pk_us, hp_0]
          refine Or.inr (Or.inr ⟨0, by omega, rfl, gr_W0 s, Or.inr ⟨2 ^ s, rfl, rfl, rfl, ?_⟩⟩)
          show (b (7 * s + s)).toInt ≤ 0
          rw [row s hs, if_pos rfl]
          omega
        · rw [if_neg e]
          exact Or.inl rfl
      refine ⟨k0, ?_, fun v hv hF => ?_⟩
      · rw [row s hs, if_pos rfl]
        omega
      · have e : s = v := by
          refine Classical.byContradiction fun e => hF ?_
          rw [row v hv, if_neg e]
        subst e
        rw [pk_us, hp_0]
        have := hx_sumB (f := fun v => hx_rk (b (7 * s + v)).toInt) (a := 0) (b := 242) (fun v hv => hx_rkB gok (gr_IC (k0 v hv)))
        unfold hx_S3
        omega
    have fin : ∀ (n' st ln : Nat) (b' q' qd' us' : Nat → Int32), (∀ j, (∀ v, v < 7 → j ≠ 7 * s + v) → b' j = b j) → hx_Q st 0 q' qd' → hx_C3 (hx_A a_arcThere a_arcFrom a_arcTo a_arcWeight) s b' us' → (∀ v, v < 7 → qd' v = 0 → hx_rel (hx_A a_arcThere a_arcFrom a_arcTo a_arcWeight) s b' v) → wX_fillByQueue__table_6 post n (nI (s + 1)) (nI st) (nI 0) f_leastTop f_leastBottom a_arcThere a_arcFrom a_arcTo a_arcWeight b' a_otherTable a_squared a_levels a_setCells a_onRingBelowZero q' qd' us' := by
      intro n' st ln b' q' qd' us' r1 r2 r3 r4
      have z := hx_Qz r2
      have rest := gr_rest gok (s := s) (C := fun v => (b' (7 * s + v)).toInt) hs r3.2.1 (fun v hv => gr_Cr gok (by decide) (gr_IC (r3.1 v hv))) (fun u v x a hF => r4 u (gok _ _ _ a).1 (z u (gok _ _ _ a).1) v x a hF)
      refine hn (nI st, nI 0, b', q', qd', us') ⟨z, fun s' t hs' ht => ?_, fun s' t h1 h2 h3 => ?_⟩
      · dsimp only
        by_cases e : s' = s
        · subst e
          refine gr_finD gok hs (by decide : 6 ≤ 10000) (gr_IC (r3.1 t ht)) ?_
          by_cases c : (b' (7 * s' + t)).toInt = -1000000
          · exact Or.inl c
          · exact Or.inr fun m c' g => ((rest m t c' g).resolve_left c).1
        · rw [r1 _ (fun v hv => by omega)]
          exact g2 s' t (by omega) ht
      · dsimp only
        rw [r1 _ (fun v hv => by omega)]
        exact g3 s' t (by omega) h2 h3
    refine loop_0 (fun n' i (z : Nat × Nat × (Nat → Int32) × (Nat → Int32) × (Nat → Int32) × (Nat → Int32)) => wX_fillByQueue__table_36 post (wX_fillByQueue__table_6 post n) (nI s) n' (nI i) (nI z.1) (nI z.2.1) f_leastTop f_leastBottom a_arcThere a_arcFrom a_arcTo a_arcWeight z.2.2.1 a_otherTable a_squared a_levels a_setCells a_onRingBelowZero z.2.2.2.1 z.2.2.2.2.1 z.2.2.2.2.2) (fun i z => (∀ j, (∀ v, v < 7 → j ≠ 7 * s + v) → z.2.2.1 j = b j) ∧ hx_Q z.1 z.2.1 z.2.2.2.1 z.2.2.2.2.1 ∧ hx_C3 (hx_A a_arcThere a_arcFrom a_arcTo a_arcWeight) s z.2.2.1 z.2.2.2.2.2 ∧ (∀ v, v < 7 → z.2.2.2.2.1 v = 0 → hx_rel (hx_A a_arcThere a_arcFrom a_arcTo a_arcWeight) s z.2.2.1 v) ∧ (i : Int) + hx_S3 s z.2.2.1 + z.2.1 ≤ 1695) 1696 (0, 1, b, q', upd qd s 1, upd us s 0) ?_ ?_ ?_
    · refine ⟨fun j _ => rfl, hQ', C0, fun v hv hq y x a hF => ?_, ?_⟩
      · dsimp only at hq hF
        by_cases e : v = s
        · subst e
          rw [pk_us] at hq
          exact absurd hq (by decide)
        · rw [row v hv, if_neg (fun z => e z.symm)] at hF
          exact absurd rfl hF
      · have := hx_S3B gok C0
        dsimp only
        omega
    · rintro n' ⟨st, ln, b', q', qd', us'⟩ ⟨r1, r2, r3, r4, r5⟩
      have := hx_S3B gok r3
      dsimp only at this r5
      omega
    · rintro n' i ⟨st, ln, b', q', qd', us'⟩ hi ⟨r1, r2, r3, r4, r5⟩ hn'
      dsimp only at r1 r2 r3 r4 r5
      refine br_f (nI_ge (b := 10000) (by omega) (by decide)) ?_
      have S := hx_S3B gok r3
      cases ln with
      | zero =>
        refine br_t (by decide : nI 0 ≤ 0) ?_
        dsimp only
        rw [nI_1]
        exact nm_e (fin n' st 0 b' q' qd' us' r1 r2 r3 r4)
      | succ ln =>
        refine br_f (nI_nle (n := ln + 1) (by omega) (by omega)) ?_
        refine hx_dequeue r2 fun p st' hp qp hQ2 => ?_
        dsimp only
        rw [hp_m7]
        refine hx_leave_table ok hs hp hQ2 r3 (fun v hv hne hq => ?_) fun ln' b2 us2 q2 qd2 k1 k2 k3 k4 k5 => ?_
        · rw [pk_un hne] at hq
          exact r4 v hv hq
        · dsimp only
          rw [nI_1]
          refine nm_e (hn' (st', ln', b2, q2, qd2, us2) ⟨fun j hj => (k1 j hj).trans (r1 j hj), k2, k3, k4, ?_⟩)
          dsimp only
          omega
theorem hx_leave_otherTable {post : SX → Prop} {f_leastTop f_leastBottom : Int32} {a_arcThere a_arcFrom a_arcTo a_arcWeight a_table a_otherTable a_squared a_levels a_setCells a_onRingBelowZero a_queue a_queued a_arcsUsed : Nat → Int32} (ok : hx_ok a_arcThere a_arcFrom a_arcTo a_arcWeight) {s p st ln : Nat} (hs : s < 7) (hp : p < 7) (hQ : hx_Q st ln a_queue a_queued) (hC : hx_C3 (hx_A a_arcThere a_arcFrom a_arcTo a_arcWeight) s a_otherTable a_arcsUsed) (hrel : ∀ v, v < 7 → v ≠ p → a_queued v = 0 → hx_rel (hx_A a_arcThere a_arcFrom a_arcTo a_arcWeight) s a_otherTable v) (h : ∀ (ln' : Nat) (b us q qd : Nat → Int32), (∀ j, (∀ v, v < 7 → j ≠ 7 * s + v) → b j = a_otherTable j) → hx_Q st ln' q qd → hx_C3 (hx_A a_arcThere a_arcFrom a_arcTo a_arcWeight) s b us → (∀ v, v < 7 → qd v = 0 → hx_rel (hx_A a_arcThere a_arcFrom a_arcTo a_arcWeight) s b v) → hx_S3 s b + ln' ≤ hx_S3 s a_otherTable + ln → post ((nI st), (nI ln'), f_leastTop, f_leastBottom, a_arcThere, a_arcFrom, a_arcTo, a_arcWeight, a_table, b, a_squared, a_levels, a_setCells, a_onRingBelowZero, q, qd, us)) : wpX_leave__otherTable post ((nI st), (nI ln), f_leastTop, f_leastBottom, a_arcThere, a_arcFrom, a_arcTo, a_arcWeight, a_table, a_otherTable, a_squared, a_levels, a_setCells, a_onRingBelowZero, a_queue, a_queued, a_arcsUsed) (nI (7 * s)) (nI p) := by
  have gok := hx_grok ok
  refine loop_0 (fun n i (z : Nat × (Nat → Int32) × (Nat → Int32) × (Nat → Int32) × (Nat → Int32)) => wX_leave__otherTable_3 post (nI (7 * s)) (nI p) n (nI i) (nI st) (nI z.1) f_leastTop f_leastBottom a_arcThere a_arcFrom a_arcTo a_arcWeight a_table z.2.1 a_squared a_levels a_setCells a_onRingBelowZero z.2.2.1 z.2.2.2.1 z.2.2.2.2) (fun i z => (∀ j, (∀ v, v < 7 → j ≠ 7 * s + v) → z.2.1 j = a_otherTable j) ∧ hx_Q st z.1 z.2.2.1 z.2.2.2.1 ∧ hx_C3 (hx_A a_arcThere a_arcFrom a_arcTo a_arcWeight) s z.2.1 z.2.2.2.2 ∧ (∀ v, v < 7 → v ≠ p → z.2.2.2.1 v = 0 → hx_rel (hx_A a_arcThere a_arcFrom a_arcTo a_arcWeight) s z.2.1 v) ∧ (z.2.2.2.1 p = 0 → ∀ j y x, j < i → (hx_K a_arcThere a_arcFrom a_arcTo a_arcWeight) j p y x → (z.2.1 (7 * s + p)).toInt ≠ 1000000 → (z.2.1 (7 * s + y)).toInt ≤ gr_j (z.2.1 (7 * s + p)).toInt x) ∧ hx_S3 s z.2.1 + z.1 ≤ hx_S3 s a_otherTable + ln) 20 (ln, a_otherTable, a_queue, a_queued, a_arcsUsed) ?_ ?_ ?_
  · exact ⟨fun j _ => rfl, hQ, hC, hrel, fun _ j y x hj => absurd hj (by omega), Int.le_refl _⟩
  · rintro n ⟨ln', b, q, qd, us⟩ ⟨r1, r2, r3, r4, r5, r6⟩
    refine br_t (nI_le (Nat.le_refl 20) (by decide)) (h ln' b us q qd r1 r2 r3 (fun v hv hq => ?_) r6)
    by_cases e : v = p
    · subst e
      rintro y x ⟨j, hj, hk⟩ hF
      exact r5 hq j y x hj hk hF
    · exact r4 v hv e hq
  · rintro n i ⟨ln', b, q, qd, us⟩ hi ⟨r1, r2, r3, r4, r5, r6⟩ hn
    dsimp only at r1 r2 r3 r4 r5 r6
    obtain ⟨u, v, x, hu, hv, eu, ev, ew, hx1, hx2, hk0, hk1⟩ := hx_arc ok hi
    have ck : (nI i).toNatClampNeg = i := nI_clamp (by omega)
    have cp : (nI p).toNatClampNeg = p := nI_clamp (by omega)
    have cq : (nI v).toNatClampNeg = v := nI_clamp (by omega)
    have cu : (nI (7 * s + p)).toNatClampNeg = 7 * s + p := nI_clamp (by omega)
    have cv : (nI (7 * s + v)).toNatClampNeg = 7 * s + v := nI_clamp (by omega)
    have vi : vp_in (nI i) 20 := vp_in_nI hi (by decide)
    have vp : vp_in (nI p) 7 := vp_in_nI hp (by decide)
    have vq : vp_in (nI v) 7 := vp_in_nI hv (by decide)
    have vu : vp_in (nI (7 * s + p)) 49 := vp_in_nI (by omega) (by decide)
    have vv : vp_in (nI (7 * s + v)) 49 := vp_in_nI (by omega) (by decide)
    have keep : (∀ y x, (hx_K a_arcThere a_arcFrom a_arcTo a_arcWeight) i p y x → (b (7 * s + p)).toInt ≠ 1000000 → (b (7 * s + y)).toInt ≤ gr_j (b (7 * s + p)).toInt x) → wX_leave__otherTable_3 post (nI (7 * s)) (nI p) n (nI (i + 1)) (nI st) (nI ln') f_leastTop f_leastBottom a_arcThere a_arcFrom a_arcTo a_arcWeight a_table b a_squared a_levels a_setCells a_onRingBelowZero q qd us := by
      intro hh
      refine hn (ln', b, q, qd, us) ⟨r1, r2, r3, r4, fun hq j y x' hj hk hF => ?_, r6⟩
      by_cases e : j = i
      · subst e
        exact hh y x' hk hF
      · exact r5 hq j y x' (by omega) hk hF
    refine br_f (nI_ge (b := 20) hi (by decide)) ?_
    simp only [ck, eu, ev, nI_1, nI_add, cu, cp]
    refine ⟨vi, br_c (fun t0 => nm_e (keep fun y x' hk => absurd hk (hk0 t0 _ _ _))) (fun t0 => ⟨vi, ?_⟩)⟩
    obtain ⟨kk, ha⟩ := hk1 t0
    refine br_c (fun c => ?_) (fun c => nm_e (keep fun y x' hk => ?_))
    · rw [nI_eq (by omega) (by omega)] at c
      subst c
      have rp := gr_Cr gok (by decide) (gr_IC (r3.1 u hu))
      refine ⟨vi, nm_e ⟨vu, vi, ?_⟩⟩
      simp only [nI_add, cv, cq]
      refine hx_jE rfl ew (gr_rgr rp) (by omega) fun r hr => ⟨vv, br_c (fun c => nm_e (keep fun y x' hk hF => ?_)) (fun c => ⟨vp, vq, nm_e ⟨vq, ?_⟩⟩)⟩
      · obtain ⟨_, rfl, rfl⟩ := (kk _ _ _).mp hk
        rw [hp_le, hr] at c
        exact c
      · rw [hp_le, hr] at c
        have go : ∀ z0 : Int32, z0.toInt = (if (us u).toInt + 1 < 7 then gr_j (b (7 * s + u)).toInt x else -1000000) → wX_leave__otherTable_107 post (wX_leave__otherTable_3 post (nI (7 * s)) (nI u) n) (nI (7 * s)) (nI u) (nI i) (nI v) z0 (nI (7 * s + v)) (nI st) (nI ln') f_leastTop f_leastBottom a_arcThere a_arcFrom a_arcTo a_arcWeight a_table b a_squared a_levels a_setCells a_onRingBelowZero q qd (upd us v (us u + 1)) := by
          intro z0 hz
          obtain ⟨k1, k2, k3, k4, k5⟩ := hx_sink3 gok hs hp hv r3 ha (by omega) hz
          have r1' : ∀ j, (∀ v, v < 7 → j ≠ 7 * s + v) → upd b (7 * s + v) z0 j = a_otherTable j := by
            intro j hj
            rw [pk_un (hj v hv)]
            exact r1 j hj
          have relm : ∀ w, w ≠ v → hx_rel (hx_A a_arcThere a_arcFrom a_arcTo a_arcWeight) s b w → hx_rel (hx_A a_arcThere a_arcFrom a_arcTo a_arcWeight) s (upd b (7 * s + v) z0) w := by
            intro w hw hr' y x' a' hF
            have e : upd b (7 * s + v) z0 (7 * s + w) = b (7 * s + w) := pk_un (by omega)
            rw [e] at hF ⊢
            exact Int.le_trans (k4 y) (hr' y x' a' hF)
          have part : u ≠ v → qd u = 0 → ∀ j y x', j < i + 1 → (hx_K a_arcThere a_arcFrom a_arcTo a_arcWeight) j u y x' → (upd b (7 * s + v) z0 (7 * s + u)).toInt ≠ 1000000 → (upd b (7 * s + v) z0 (7 * s + y)).toInt ≤ gr_j (upd b (7 * s + v) z0 (7 * s + u)).toInt x' := by
            intro hne hq j y x' hj hk hF
            have e : upd b (7 * s + v) z0 (7 * s + u) = b (7 * s + u) := pk_un (by omega)
            rw [e] at hF ⊢
            by_cases ej : j = i
            · subst ej
              obtain ⟨_, rfl, rfl⟩ := (kk _ _ _).mp hk
              rw [pk_us]
              exact k3
            · exact Int.le_trans (k4 y) (r5 hq j y x' (by omega) hk hF)
          unfold wX_leave__otherTable_107
          rw [cv]
          refine ⟨vv, nm_e (hx_enqueue hv r2 (fun c2 => ?_) (fun c2 q' hQ' => ?_))⟩
          · dsimp only
            rw [nI_1]
            refine nm_e (hn (ln', upd b (7 * s + v) z0, q, qd, upd us v (us u + 1)) ⟨r1', r2, k1, fun w hw hne hq => relm w (fun e => c2 (e ▸ hq)) (r4 w hw hne hq), fun hq => part (fun e => c2 (e ▸ hq)) hq, ?_⟩)
            dsimp only
            omega
          · dsimp only
            rw [nI_1]
            refine nm_e (hn (ln' + 1, upd b (7 * s + v) z0, q', upd qd v 1, upd us v (us u + 1)) ⟨r1', hQ', k1, fun w hw hne hq => ?_, fun hq => ?_, ?_⟩)
            · dsimp only at hq
              by_cases e : w = v
              · subst e
                rw [pk_us] at hq
                exact absurd hq (by decide)
              · rw [pk_un e] at hq
                exact relm w e (r4 w hw hne hq)
            · dsimp only at hq
              by_cases e : u = v
              · subst e
                rw [pk_us] at hq
                exact absurd hq (by decide)
              · rw [pk_un e] at hq
                exact part e hq
            · dsimp only
              omega
        have k5 : (us u + 1).toInt = (us u).toInt + 1 := (hx_sink3 gok (z0 := if (us u).toInt + 1 < 7 then r else (-1000000)) hs hp hv r3 ha (by omega) (by split <;> first | exact hr | exact hp_D)).2.2.2.2
        rw [pk_us]
        refine br_c (fun c2 => go (-1000000) ?_) (fun c2 => go r ?_)
        · rw [hp_le, hp_7, k5] at c2
          rw [if_neg (by omega), hp_D]
        · rw [hp_le, hp_7, k5] at c2
          rw [if_pos (by omega), hr]
    · obtain ⟨e, _, _⟩ := (kk _ _ _).mp hk
      exact absurd (by rw [e]) c
theorem hx_fillByQueue_otherTable {post : SX → Prop} {f_queueStart f_queueLength f_leastTop f_leastBottom : Int32} {a_arcThere a_arcFrom a_arcTo a_arcWeight a_table a_otherTable a_squared a_levels a_setCells a_onRingBelowZero a_queue a_queued a_arcsUsed : Nat → Int32} (ok : hx_ok a_arcThere a_arcFrom a_arcTo a_arcWeight) (hq0 : ∀ v, v < 7 → a_queued v = 0) (h : ∀ (st ln : Int32) (b q qd us : Nat → Int32), (∀ v, v < 7 → qd v = 0) → (∀ s t, s < 7 → t < 7 → gr_Ans (hx_A a_arcThere a_arcFrom a_arcTo a_arcWeight) s t (gr_cv (b (7 * s + t)).toInt)) → post (st, ln, f_leastTop, f_leastBottom, a_arcThere, a_arcFrom, a_arcTo, a_arcWeight, a_table, b, a_squared, a_levels, a_setCells, a_onRingBelowZero, q, qd, us)) : wpX_fillByQueue__otherTable post (f_queueStart, f_queueLength, f_leastTop, f_leastBottom, a_arcThere, a_arcFrom, a_arcTo, a_arcWeight, a_table, a_otherTable, a_squared, a_levels, a_setCells, a_onRingBelowZero, a_queue, a_queued, a_arcsUsed) := by
  have gok := hx_grok ok
  unfold wpX_fillByQueue__otherTable
  refine hx_startEmpty_otherTable fun b0 h0 => ?_
  refine loop_0 (fun n i (z : Int32 × Int32 × (Nat → Int32) × (Nat → Int32) × (Nat → Int32) × (Nat → Int32)) => wX_fillByQueue__otherTable_6 post n (nI i) z.1 z.2.1 f_leastTop f_leastBottom a_arcThere a_arcFrom a_arcTo a_arcWeight a_table z.2.2.1 a_squared a_levels a_setCells a_onRingBelowZero z.2.2.2.1 z.2.2.2.2.1 z.2.2.2.2.2) (fun i z => (∀ v, v < 7 → z.2.2.2.2.1 v = 0) ∧ (∀ s t, s < i → t < 7 → gr_Ans (hx_A a_arcThere a_arcFrom a_arcTo a_arcWeight) s t (gr_cv (z.2.2.1 (7 * s + t)).toInt)) ∧ ∀ s t, i ≤ s → s < 7 → t < 7 → (z.2.2.1 (7 * s + t)).toInt = if s = t then 0 else 1000000) 7 (f_queueStart, f_queueLength, b0, a_queue, a_queued, a_arcsUsed) ?_ ?_ ?_
  · exact ⟨hq0, fun s t hs => absurd hs (by omega), fun s t _ hs ht => h0 s t hs ht⟩
  · rintro n ⟨st, ln, b, q, qd, us⟩ ⟨g1, g2, g3⟩
    exact br_t (nI_le (Nat.le_refl 7) (by decide)) (h st ln b q qd us g1 fun s t hs ht => g2 s t hs ht)
  · rintro n s ⟨st, ln, b, q, qd, us⟩ hs ⟨g1, g2, g3⟩ hn
    dsimp only at g1 g2 g3
    have ck : (nI s).toNatClampNeg = s := nI_clamp (by omega)
    refine br_f (nI_ge (b := 7) hs (by decide)) ?_
    dsimp only
    rw [ck]
    refine ⟨vp_in_nI hs (by decide), nm_e (hx_enqueue (st := 0) (ln := 0) hs (hx_Q0 (by decide) g1) (fun c => absurd (g1 s hs) c) (fun c q' hQ' => ?_))⟩
    have row : ∀ v, v < 7 → (b (7 * s + v)).toInt = if s = v then 0 else 1000000 := fun v hv => g3 s v (Nat.le_refl s) hs hv
    have C0 : hx_C3 (hx_A a_arcThere a_arcFrom a_arcTo a_arcWeight) s b (upd us s 0) := by
      have k0 : ∀ v, v < 7 → gr_I (hx_A a_arcThere a_arcFrom a_arcTo a_arcWeight) s (fun y => (b (7 * s + y)).toInt) v (b (7 * s + v)).toInt ((upd us s 0) v).toInt := by
        intro v hv
        rw [row v hv]
        by_cases e : s = v
        · subst e
          rw [if_pos rfl, pk_us, hp_0]
          refine Or.inr (Or.inr ⟨0, by omega, rfl, gr_W0 s, Or.inr ⟨2 ^ s, rfl, rfl, rfl, ?_⟩⟩)
          show (b (7 * s + s)).toInt ≤ 0
          rw [row s hs, if_pos rfl]
          omega
        · rw [if_neg e]
          exact Or.inl rfl
      refine ⟨k0, ?_, fun v hv hF => ?_⟩
      · rw [row s hs, if_pos rfl]
        omega
      · have e : s = v := by
          refine Classical.byContradiction fun e => hF ?_
          rw [row v hv, if_neg e]
        subst e
        rw [pk_us, hp_0]
        have := hx_sumB (f := fun v => hx_rk (b (7 * s + v)).toInt) (a := 0) (b := 242) (fun v hv => hx_rkB gok (gr_IC (k0 v hv)))
        unfold hx_S3
        omega
    have fin : ∀ (n' st ln : Nat) (b' q' qd' us' : Nat → Int32), (∀ j, (∀ v, v < 7 → j ≠ 7 * s + v) → b' j = b j) → hx_Q st 0 q' qd' → hx_C3 (hx_A a_arcThere a_arcFrom a_arcTo a_arcWeight) s b' us' → (∀ v, v < 7 → qd' v = 0 → hx_rel (hx_A a_arcThere a_arcFrom a_arcTo a_arcWeight) s b' v) → wX_fillByQueue__otherTable_6 post n (nI (s + 1)) (nI st) (nI 0) f_leastTop f_leastBottom a_arcThere a_arcFrom a_arcTo a_arcWeight a_table b' a_squared a_levels a_setCells a_onRingBelowZero q' qd' us' := by
      intro n' st ln b' q' qd' us' r1 r2 r3 r4
      have z := hx_Qz r2
      have rest := gr_rest gok (s := s) (C := fun v => (b' (7 * s + v)).toInt) hs r3.2.1 (fun v hv => gr_Cr gok (by decide) (gr_IC (r3.1 v hv))) (fun u v x a hF => r4 u (gok _ _ _ a).1 (z u (gok _ _ _ a).1) v x a hF)
      refine hn (nI st, nI 0, b', q', qd', us') ⟨z, fun s' t hs' ht => ?_, fun s' t h1 h2 h3 => ?_⟩
      · dsimp only
        by_cases e : s' = s
        · subst e
          refine gr_finD gok hs (by decide : 6 ≤ 10000) (gr_IC (r3.1 t ht)) ?_
          by_cases c : (b' (7 * s' + t)).toInt = -1000000
          · exact Or.inl c
          · exact Or.inr fun m c' g => ((rest m t c' g).resolve_left c).1
        · rw [r1 _ (fun v hv => by omega)]
          exact g2 s' t (by omega) ht
      · dsimp only
        rw [r1 _ (fun v hv => by omega)]
        exact g3 s' t (by omega) h2 h3
    refine loop_0 (fun n' i (z : Nat × Nat × (Nat → Int32) × (Nat → Int32) × (Nat → Int32) × (Nat → Int32)) => wX_fillByQueue__otherTable_36 post (wX_fillByQueue__otherTable_6 post n) (nI s) n' (nI i) (nI z.1) (nI z.2.1) f_leastTop f_leastBottom a_arcThere a_arcFrom a_arcTo a_arcWeight a_table z.2.2.1 a_squared a_levels a_setCells a_onRingBelowZero z.2.2.2.1 z.2.2.2.2.1 z.2.2.2.2.2) (fun i z => (∀ j, (∀ v, v < 7 → j ≠ 7 * s + v) → z.2.2.1 j = b j) ∧ hx_Q z.1 z.2.1 z.2.2.2.1 z.2.2.2.2.1 ∧ hx_C3 (hx_A a_arcThere a_arcFrom a_arcTo a_arcWeight) s z.2.2.1 z.2.2.2.2.2 ∧ (∀ v, v < 7 → z.2.2.2.2.1 v = 0 → hx_rel (hx_A a_arcThere a_arcFrom a_arcTo a_arcWeight) s z.2.2.1 v) ∧ (i : Int) + hx_S3 s z.2.2.1 + z.2.1 ≤ 1695) 1696 (0, 1, b, q', upd qd s 1, upd us s 0) ?_ ?_ ?_
    · refine ⟨fun j _ => rfl, hQ', C0, fun v hv hq y x a hF => ?_, ?_⟩
      · dsimp only at hq hF
        by_cases e : v = s
        · subst e
          rw [pk_us] at hq
          exact absurd hq (by decide)
        · rw [row v hv, if_neg (fun z => e z.symm)] at hF
          exact absurd rfl hF
      · have := hx_S3B gok C0
        dsimp only
        omega
    · rintro n' ⟨st, ln, b', q', qd', us'⟩ ⟨r1, r2, r3, r4, r5⟩
      have := hx_S3B gok r3
      dsimp only at this r5
      omega
    · rintro n' i ⟨st, ln, b', q', qd', us'⟩ hi ⟨r1, r2, r3, r4, r5⟩ hn'
      dsimp only at r1 r2 r3 r4 r5
      refine br_f (nI_ge (b := 10000) (by omega) (by decide)) ?_
      have S := hx_S3B gok r3
      cases ln with
      | zero =>
        refine br_t (by decide : nI 0 ≤ 0) ?_
        dsimp only
        rw [nI_1]
        exact nm_e (fin n' st 0 b' q' qd' us' r1 r2 r3 r4)
      | succ ln =>
        refine br_f (nI_nle (n := ln + 1) (by omega) (by omega)) ?_
        refine hx_dequeue r2 fun p st' hp qp hQ2 => ?_
        dsimp only
        rw [hp_m7]
        refine hx_leave_otherTable ok hs hp hQ2 r3 (fun v hv hne hq => ?_) fun ln' b2 us2 q2 qd2 k1 k2 k3 k4 k5 => ?_
        · rw [pk_un hne] at hq
          exact r4 v hv hq
        · dsimp only
          rw [nI_1]
          refine nm_e (hn' (st', ln', b2, q2, qd2, us2) ⟨fun j hj => (k1 j hj).trans (r1 j hj), k2, k3, k4, ?_⟩)
          dsimp only
          omega
end
section
/-! the component: engine 4, and fill -/
theorem hx_orb {M v : Nat} : M ||| 2 ^ v = M ↔ M.testBit v = true := by
  constructor
  · intro e
    rw [← e, Nat.testBit_or, Nat.testBit_two_pow_self, Bool.or_true]
  · intro h
    apply Nat.eq_of_testBit_eq
    intro i
    rw [Nat.testBit_or, Nat.testBit_two_pow]
    by_cases e : v = i
    · subst e
      rw [h, Bool.true_or]
    · rw [decide_eq_false e, Bool.or_false]
theorem hx_growSet {post : SX → Prop} {f_queueStart f_queueLength f_leastTop f_leastBottom : Int32} {a_arcThere a_arcFrom a_arcTo a_arcWeight a_table a_otherTable a_squared a_levels a_setCells a_onRingBelowZero a_queue a_queued a_arcsUsed : Nat → Int32} (ok : hx_ok a_arcThere a_arcFrom a_arcTo a_arcWeight) {s M : Nat} (hs : s < 7) (hM : M < 128) (h4 : gr_E4 (hx_A a_arcThere a_arcFrom a_arcTo a_arcWeight) s M (fun m v => (a_setCells (7 * m + v)).toInt)) (h : ∀ c : Nat → Int32, gr_E4 (hx_A a_arcThere a_arcFrom a_arcTo a_arcWeight) s (M + 1) (fun m v => (c (7 * m + v)).toInt) → post (f_queueStart, f_queueLength, f_leastTop, f_leastBottom, a_arcThere, a_arcFrom, a_arcTo, a_arcWeight, a_table, a_otherTable, a_squared, a_levels, c, a_onRingBelowZero, a_queue, a_queued, a_arcsUsed)) : wpX_growSet post (f_queueStart, f_queueLength, f_leastTop, f_leastBottom, a_arcThere, a_arcFrom, a_arcTo, a_arcWeight, a_table, a_otherTable, a_squared, a_levels, a_setCells, a_onRingBelowZero, a_queue, a_queued, a_arcsUsed) (nI M) := by
  have gok := hx_grok ok
  refine loop_0 (fun n i (c : Nat → Int32) => wX_growSet_2 post (nI M) f_queueStart f_queueLength f_leastTop f_leastBottom n (nI i) a_arcThere a_arcFrom a_arcTo a_arcWeight a_table a_otherTable a_squared a_levels c a_onRingBelowZero a_queue a_queued a_arcsUsed) (fun i c => (∀ m v, m < 128 → v < 7 → (c (7 * m + v)).toInt = 1000000 ∨ ∃ n, gr_S (hx_A a_arcThere a_arcFrom a_arcTo a_arcWeight) gr_T s n v m (c (7 * m + v)).toInt) ∧ (∀ m v, v < 7 → (c (7 * m + v)).toInt ≤ (a_setCells (7 * m + v)).toInt) ∧ (∀ v, v < 7 → c (7 * M + v) = a_setCells (7 * M + v)) ∧ ∀ j u v x, j < i → (hx_K a_arcThere a_arcFrom a_arcTo a_arcWeight) j u v x → M.testBit v = false → (a_setCells (7 * M + u)).toInt ≠ 1000000 → (c (7 * (M ||| 2 ^ v) + v)).toInt ≤ (a_setCells (7 * M + u)).toInt + x) 20 a_setCells ?_ ?_ ?_
  · exact ⟨h4.1, fun m v _ => Int.le_refl _, fun v _ => rfl, fun j u v x hj => absurd hj (by omega)⟩
  · rintro n c ⟨r1, r2, r3, r4⟩
    refine br_t (nI_le (Nat.le_refl 20) (by decide)) (h c ⟨r1, Int.le_trans (r2 _ s hs) h4.2.1, fun n' u m d v x g a b hm => ?_⟩)
    have hv := (gok _ _ _ a).2.1
    by_cases e : m = M
    · subst e
      have k1 := gr_E4le h4 g (Nat.le_refl m)
      have k2 := gr_Sn6 (gr_oki gok) hs g
      have k3 := gr_Wb gok (gr_SW g)
      obtain ⟨j, hj, hk⟩ := a
      have k4 := r4 j u v x hj hk b (by omega)
      dsimp only
      omega
    · have k1 := h4.2.2 n' u m d v x g a b (by omega)
      exact Int.le_trans (r2 _ v hv) k1
  · rintro n i c hi ⟨r1, r2, r3, r4⟩ hn
    obtain ⟨u, v, x, hu, hv, eu, ev, ew, hx1, hx2, hk0, hk1⟩ := hx_arc ok hi
    have G128 : M ||| 2 ^ v < 128 := Nat.or_lt_two_pow (n := 7) hM (gr_pc_pow v hv).2
    have ck : (nI i).toNatClampNeg = i := nI_clamp (by omega)
    have vi : vp_in (nI i) 20 := vp_in_nI hi (by decide)
    have cu : (nI (7 * M + u)).toNatClampNeg = 7 * M + u := nI_clamp (by omega)
    have cv : (nI (7 * (M ||| 2 ^ v) + v)).toNatClampNeg = 7 * (M ||| 2 ^ v) + v := nI_clamp (by omega)
    have vu : vp_in (nI (7 * M + u)) 896 := vp_in_nI (by omega) (by decide)
    have vv : vp_in (nI (7 * (M ||| 2 ^ v) + v)) 896 := vp_in_nI (by omega) (by decide)
    have keep : (∀ u v x, (hx_K a_arcThere a_arcFrom a_arcTo a_arcWeight) i u v x → M.testBit v = false → (a_setCells (7 * M + u)).toInt ≠ 1000000 → (c (7 * (M ||| 2 ^ v) + v)).toInt ≤ (a_setCells (7 * M + u)).toInt + x) → wX_growSet_2 post (nI M) f_queueStart f_queueLength f_leastTop f_leastBottom n (nI (i + 1)) a_arcThere a_arcFrom a_arcTo a_arcWeight a_table a_otherTable a_squared a_levels c a_onRingBelowZero a_queue a_queued a_arcsUsed := by
      intro hh
      refine hn c ⟨r1, r2, r3, fun j u' v' x' hj hk => ?_⟩
      by_cases e : j = i
      · subst e
        exact hh u' v' x' hk
      · exact r4 j u' v' x' (by omega) hk
    refine br_f (nI_ge (b := 20) hi (by decide)) ?_
    simp only [ck, eu, ev, hp_shl v (by omega), hp_or, nI_1]
    refine ⟨vi, nm_e ⟨vi, br_c (fun t0 => nm_e (keep fun u' v' x' hk => absurd hk (hk0 t0 _ _ _))) (fun t0 => ?_)⟩⟩
    obtain ⟨kk, ha⟩ := hk1 t0
    refine br_c (fun c1 => nm_e (keep fun u' v' x' hk b => ?_)) (fun c1 => ⟨vi, ?_⟩)
    · obtain ⟨_, rfl, _⟩ := (kk _ _ _).mp hk
      rw [nI_eq (by omega) (by omega), hx_orb, b] at c1
      exact absurd c1 (by decide)
    have hb : M.testBit v = false := by
      rw [nI_eq (by omega) (by omega), hx_orb] at c1
      cases z : M.testBit v with
      | false => rfl
      | true => exact absurd z c1
    have hne : M ||| 2 ^ v ≠ M := by
      rw [Ne, hx_orb, hb]
      decide
    simp only [hp_ix, cu, r3 u hu]
    refine ⟨vu, nm_e ⟨vi, nm_e ?_⟩⟩
    simp only [cv]
    refine br_c (fun c2 => nm_e (keep fun u' v' x' hk b hF => ?_)) (fun c2 => ⟨vi, vv, ?_⟩)
    · obtain ⟨rfl, _, _⟩ := (kk _ _ _).mp hk
      rw [hp_eq, hp_F] at c2
      exact absurd c2 hF
    rw [hp_eq, hp_F] at c2
    have hS : ∃ n, gr_S (hx_A a_arcThere a_arcFrom a_arcTo a_arcWeight) gr_T s n u M (a_setCells (7 * M + u)).toInt := (h4.1 M u hM hu).resolve_left c2
    obtain ⟨nn, hS⟩ := hS
    have n6 := gr_Sn6 (gr_oki gok) hs hS
    have bS := gr_Wb gok (gr_SW hS)
    have es : (a_setCells (7 * M + u) + a_arcWeight i).toInt = (a_setCells (7 * M + u)).toInt + x := hp_add rfl ew (by omega) (by omega)
    refine br_c (fun c3 => nm_e (keep fun u' v' x' hk b hF => ?_)) (fun c3 => ⟨vi, vv, nm_e (nm_e (hn _ ⟨fun m y hm hy => ?_, fun m y hy => ?_, fun y hy => ?_, fun j u' v' x' hj hk b hF => ?_⟩))⟩)
    · obtain ⟨rfl, rfl, rfl⟩ := (kk _ _ _).mp hk
      rw [hp_le, es] at c3
      exact c3
    · rw [hp_le, es] at c3
      rw [hx_ut]
      by_cases e : 7 * m + y = 7 * (M ||| 2 ^ v) + v
      · have e1 : m = M ||| 2 ^ v := by omega
        have e2 : y = v := by omega
        rw [if_pos e, es, e1, e2]
        exact Or.inr ⟨nn + 1, u, M, _, x, hS, ha, rfl, hb, rfl, trivial⟩
      · rw [if_neg e]
        exact r1 m y hm hy
    · rw [hp_le, es] at c3
      rw [hx_ut]
      by_cases e : 7 * m + y = 7 * (M ||| 2 ^ v) + v
      · have e1 : m = M ||| 2 ^ v := by omega
        have e2 : y = v := by omega
        have := r2 m y hy
        rw [if_pos e, es]
        rw [e1, e2] at this ⊢
        omega
      · rw [if_neg e]
        exact r2 m y hy
    · rw [pk_un (by omega)]
      exact r3 y hy
    · rw [hp_le, es] at c3
      rw [hx_ut]
      by_cases e : j = i
      · subst e
        obtain ⟨rfl, rfl, rfl⟩ := (kk _ _ _).mp hk
        rw [if_pos rfl, es]
        omega
      · have := r4 j u' v' x' (by omega) hk b hF
        by_cases e2 : 7 * (M ||| 2 ^ v') + v' = 7 * (M ||| 2 ^ v) + v
        · rw [if_pos e2, es]
          rw [e2] at this
          omega
        · rw [if_neg e2]
          exact this
theorem hx_fillSetsFrom {post : SX → Prop} {f_queueStart f_queueLength f_leastTop f_leastBottom : Int32} {a_arcThere a_arcFrom a_arcTo a_arcWeight a_table a_otherTable a_squared a_levels a_setCells a_onRingBelowZero a_queue a_queued a_arcsUsed : Nat → Int32} (ok : hx_ok a_arcThere a_arcFrom a_arcTo a_arcWeight) {s : Nat} (hs : s < 7) (h : ∀ c : Nat → Int32, gr_E4 (hx_A a_arcThere a_arcFrom a_arcTo a_arcWeight) s 128 (fun m v => (c (7 * m + v)).toInt) → post (f_queueStart, f_queueLength, f_leastTop, f_leastBottom, a_arcThere, a_arcFrom, a_arcTo, a_arcWeight, a_table, a_otherTable, a_squared, a_levels, c, a_onRingBelowZero, a_queue, a_queued, a_arcsUsed)) : wpX_fillSetsFrom post (f_queueStart, f_queueLength, f_leastTop, f_leastBottom, a_arcThere, a_arcFrom, a_arcTo, a_arcWeight, a_table, a_otherTable, a_squared, a_levels, a_setCells, a_onRingBelowZero, a_queue, a_queued, a_arcsUsed) (nI s) := by
  have gok := hx_grok ok
  have p128 := (gr_pc_pow s hs).2
  have second : ∀ c0 : Nat → Int32, gr_E4 (hx_A a_arcThere a_arcFrom a_arcTo a_arcWeight) s 1 (fun m v => (c0 (7 * m + v)).toInt) → ∃ n, wX_fillSetsFrom_39 post n 1 f_queueStart f_queueLength f_leastTop f_leastBottom a_arcThere a_arcFrom a_arcTo a_arcWeight a_table a_otherTable a_squared a_levels c0 a_onRingBelowZero a_queue a_queued a_arcsUsed := by
    intro c0 h0
    refine pk_loop (fun n i (c : Nat → Int32) => wX_fillSetsFrom_39 post n (nI i) f_queueStart f_queueLength f_leastTop f_leastBottom a_arcThere a_arcFrom a_arcTo a_arcWeight a_table a_otherTable a_squared a_levels c a_onRingBelowZero a_queue a_queued a_arcsUsed) (fun i c => gr_E4 (hx_A a_arcThere a_arcFrom a_arcTo a_arcWeight) s i (fun m v => (c (7 * m + v)).toInt)) 128 1 c0 (by decide) h0 ?_ ?_
    · intro n c hc
      exact br_t (nI_le (Nat.le_refl 128) (by decide)) (h c hc)
    · intro n i c hi hc hn
      refine br_f (nI_ge (b := 128) hi (by decide)) ?_
      refine hx_growSet ok hs hi hc fun c' hc' => ?_
      dsimp only
      rw [nI_1]
      exact nm_e (hn c' hc')
  refine loop_0 (fun n i (c : Nat → Int32) => wX_fillSetsFrom_2 post (nI s) f_queueStart f_queueLength f_leastTop f_leastBottom n (nI i) a_arcThere a_arcFrom a_arcTo a_arcWeight a_table a_otherTable a_squared a_levels c a_onRingBelowZero a_queue a_queued a_arcsUsed) (fun i c => ∀ j, j < i → (c j).toInt = 1000000) 896 a_setCells (fun j hj => absurd hj (by omega)) ?_ ?_
  · intro n c hc
    have cs : (nI (7 * 2 ^ s + s)).toNatClampNeg = 7 * 2 ^ s + s := nI_clamp (by omega)
    refine br_t (nI_le (Nat.le_refl 896) (by decide)) ?_
    rw [hp_shl s (by omega), hp_ix, cs]
    refine ⟨vp_in_nI (by omega) (by decide), nm_e (second _ ⟨fun m v hm hv => ?_, ?_, fun n' u m d v x g a b hm => ?_⟩)⟩
    · dsimp only
      rw [hx_ut, hp_0]
      by_cases e : 7 * m + v = 7 * 2 ^ s + s
      · have e1 : m = 2 ^ s := by omega
        have e2 : v = s := by omega
        rw [if_pos e]
        exact Or.inr ⟨0, e2, e1, rfl, trivial⟩
      · rw [if_neg e]
        exact Or.inl (hc _ (by omega))
    · show (upd c (7 * 2 ^ s + s) 0 (7 * 2 ^ s + s)).toInt ≤ 0
      rw [pk_us, hp_0]
      omega
    · have m0 : m = 0 := by omega
      subst m0
      have := gr_Sv g
      rw [Nat.zero_testBit] at this
      exact absurd this (by decide)
  · intro n i c hi hc hn
    have ck : (nI i).toNatClampNeg = i := nI_clamp (by omega)
    refine br_f (nI_ge (b := 896) hi (by decide)) ?_
    rw [ck, nI_1]
    refine ⟨vp_in_nI hi (by decide), nm_e (nm_e (hn _ fun j hj => ?_))⟩
    rw [hx_ut, hp_F]
    by_cases e : j = i
    · rw [if_pos e]
    · rw [if_neg e]
      exact hc j (by omega)
/-- a cell of least simple walks -/
def hx_sm (A : Nat → Nat → Int → Prop) (s t : Nat) (z : Int) : Prop := (z = 1000000 ∨ ∃ n m, gr_S A gr_T s n t m z) ∧ ∀ n m c, gr_S A gr_T s n t m c → z ≤ c
theorem hx_smallest {post : Int32 → Prop} {f_queueStart f_queueLength f_leastTop f_leastBottom : Int32} {a_arcThere a_arcFrom a_arcTo a_arcWeight a_table a_otherTable a_squared a_levels a_setCells a_onRingBelowZero a_queue a_queued a_arcsUsed : Nat → Int32} (ok : hx_ok a_arcThere a_arcFrom a_arcTo a_arcWeight) {s t : Nat} (hs : s < 7) (ht : t < 7) (h4 : gr_E4 (hx_A a_arcThere a_arcFrom a_arcTo a_arcWeight) s 128 (fun m v => (a_setCells (7 * m + v)).toInt)) (h : ∀ r : Int32, hx_sm (hx_A a_arcThere a_arcFrom a_arcTo a_arcWeight) s t r.toInt → post r) : wpX_smallestOfSets post (f_queueStart, f_queueLength, f_leastTop, f_leastBottom, a_arcThere, a_arcFrom, a_arcTo, a_arcWeight, a_table, a_otherTable, a_squared, a_levels, a_setCells, a_onRingBelowZero, a_queue, a_queued, a_arcsUsed) (nI t) := by
  have gok := hx_grok ok
  refine pk_loop (fun n i (r : Int32) => wX_smallestOfSets_5 post (nI t) f_queueStart f_queueLength f_leastTop f_leastBottom a_arcThere a_arcFrom a_arcTo a_arcWeight a_table a_otherTable a_squared a_levels a_setCells a_onRingBelowZero a_queue a_queued a_arcsUsed n r (nI i)) (fun i r => (r.toInt = 1000000 ∨ ∃ n m, gr_S (hx_A a_arcThere a_arcFrom a_arcTo a_arcWeight) gr_T s n t m r.toInt) ∧ ∀ m, 1 ≤ m → m < i → r.toInt ≤ (a_setCells (7 * m + t)).toInt) 128 1 1000000 (by decide) ⟨Or.inl hp_F, fun m h1 h2 => absurd h2 (by omega)⟩ ?_ ?_
  · rintro n r ⟨r1, r2⟩
    refine br_t (nI_le (Nat.le_refl 128) (by decide)) (h r ⟨r1, fun n' m c g => ?_⟩)
    have k1 := gr_Spc (gr_oki gok) hs g
    have k2 := gr_E4le h4 g (by omega)
    have k3 : 1 ≤ m := by
      refine Classical.byContradiction fun hn => ?_
      have m0 : m = 0 := by omega
      subst m0
      have := gr_Sv g
      rw [Nat.zero_testBit] at this
      exact absurd this (by decide)
    exact Int.le_trans (r2 m k3 k1.1) k2
  · rintro n i r hi ⟨r1, r2⟩ hn
    have ck : (nI (7 * i + t)).toNatClampNeg = 7 * i + t := nI_clamp (by omega)
    have vi : vp_in (nI (7 * i + t)) 896 := vp_in_nI (by omega) (by decide)
    refine br_f (nI_ge (b := 128) hi (by decide)) ?_
    rw [hp_ix, ck, nI_1]
    refine ⟨vi, br_c (fun c => nm_e (hn r ⟨r1, fun m h1 h2 => ?_⟩)) (fun c => ⟨vi, nm_e (nm_e (hn _ ⟨?_, fun m h1 h2 => ?_⟩))⟩)⟩
    · rw [hp_le] at c
      by_cases e : m = i
      · subst e
        exact c
      · exact r2 m h1 (by omega)
    · rcases h4.1 i t hi ht with e | ⟨k, g⟩
      · exact Or.inl e
      · exact Or.inr ⟨k, i, g⟩
    · rw [hp_le] at c
      by_cases e : m = i
      · subst e
        exact Int.le_refl _
      · have := r2 m h1 (by omega)
        omega
theorem hx_smC {A : Nat → Nat → Int → Prop} (ok : gr_ok A) {s t : Nat} {z : Int} (hs : s < 7) (h : hx_sm A s t z) : gr_C A 6 s t z ∧ (z = 1000000 ↔ ¬ gr_R A s t) := by
  rcases h with ⟨e | ⟨n, m, g⟩, h2⟩
  · refine ⟨Or.inl e, fun _ hR => ?_, fun _ => e⟩
    obtain ⟨n, m, c, g⟩ := gr_RS hR
    have k1 := h2 n m c g
    have k2 := gr_Sn6 (gr_oki ok) hs g
    have k3 := gr_Wb ok (gr_SW g)
    omega
  · have k2 := gr_Sn6 (gr_oki ok) hs g
    have k3 := gr_Wb ok (gr_SW g)
    refine ⟨Or.inr (Or.inr ⟨n, k2, gr_SW g⟩), fun e => ?_, fun hR => absurd ⟨n, z, gr_SW g⟩ hR⟩
    omega
theorem hx_closes_table {post : Int32 → Prop} {f_queueStart f_queueLength f_leastTop f_leastBottom : Int32} {a_arcThere a_arcFrom a_arcTo a_arcWeight a_table a_otherTable a_squared a_levels a_setCells a_onRingBelowZero a_queue a_queued a_arcsUsed : Nat → Int32} (ok : hx_ok a_arcThere a_arcFrom a_arcTo a_arcWeight) {s : Nat} (hs : s < 7) (hb : ∀ t, t < 7 → hx_sm (hx_A a_arcThere a_arcFrom a_arcTo a_arcWeight) s t (a_table (7 * s + t)).toInt) (h1 : gr_L (hx_A a_arcThere a_arcFrom a_arcTo a_arcWeight) s s → post 1) (h0 : ¬ gr_NR (hx_A a_arcThere a_arcFrom a_arcTo a_arcWeight) s → post 0) : wpX_closesBelowZero__table post (f_queueStart, f_queueLength, f_leastTop, f_leastBottom, a_arcThere, a_arcFrom, a_arcTo, a_arcWeight, a_table, a_otherTable, a_squared, a_levels, a_setCells, a_onRingBelowZero, a_queue, a_queued, a_arcsUsed) (nI s) := by
  have gok := hx_grok ok
  refine loop_0 (fun n i (_ : Unit) => wX_closesBelowZero__table_2 post (nI s) f_queueStart f_queueLength f_leastTop f_leastBottom a_arcThere a_arcFrom a_arcTo a_arcWeight a_table a_otherTable a_squared a_levels a_setCells a_onRingBelowZero a_queue a_queued a_arcsUsed n (nI i)) (fun i _ => ∀ j u x, j < i → (hx_K a_arcThere a_arcFrom a_arcTo a_arcWeight) j u s x → 0 ≤ gr_j (a_table (7 * s + u)).toInt x) 20 () (fun j u x hj => absurd hj (by omega)) ?_ ?_
  · intro n _ hI
    refine br_t (nI_le (Nat.le_refl 20) (by decide)) (h0 ?_)
    rintro ⟨n', u, m, c, x, g, ⟨j, hj, hk⟩, hl⟩
    have k1 := hI j u x hj hk
    have k0 := hk
    have hu : u < 7 := hk.2.2.2.1
    have k2 := (hb u hu).2 n' m c g
    have k3 := gr_Sn6 (gr_oki gok) hs g
    have k4 := gr_Wb gok (gr_SW g)
    have k5 := @gr_jc (a_table (7 * s + u)).toInt x
    have k6 := gok _ _ _ ⟨j, hj, hk⟩
    omega
  · intro n i _ hi hI hn
    obtain ⟨u, v, x, hu, hv, eu, ev, ew, hx1, hx2, hk0, hk1⟩ := hx_arc ok hi
    have ck : (nI i).toNatClampNeg = i := nI_clamp (by omega)
    have cu : (nI (7 * s + u)).toNatClampNeg = 7 * s + u := nI_clamp (by omega)
    have vi : vp_in (nI i) 20 := vp_in_nI hi (by decide)
    have keep : (∀ u x, (hx_K a_arcThere a_arcFrom a_arcTo a_arcWeight) i u s x → 0 ≤ gr_j (a_table (7 * s + u)).toInt x) → wX_closesBelowZero__table_2 post (nI s) f_queueStart f_queueLength f_leastTop f_leastBottom a_arcThere a_arcFrom a_arcTo a_arcWeight a_table a_otherTable a_squared a_levels a_setCells a_onRingBelowZero a_queue a_queued a_arcsUsed n (nI (i + 1)) := by
      intro hh
      refine hn () fun j u' x' hj hk => ?_
      by_cases e : j = i
      · subst e
        exact hh u' x' hk
      · exact hI j u' x' (by omega) hk
    refine br_f (nI_ge (b := 20) hi (by decide)) ?_
    simp only [ck, eu, ev, hp_ix, cu, nI_1]
    refine ⟨vi, br_c (fun t0 => nm_e (keep fun u' x' hk => absurd hk (hk0 t0 _ _ _))) (fun t0 => ⟨vi, ?_⟩)⟩
    obtain ⟨kk, ha⟩ := hk1 t0
    refine br_c (fun c => ⟨vi, vp_in_nI (by omega) (by decide), vi, ?_⟩) (fun c => nm_e (keep fun u' x' hk => ?_))
    · rw [nI_eq (by omega) (by omega)] at c
      subst c
      have gC := (hx_smC gok hs (hb u hu)).1
      have rC := gr_Cr gok (by decide) gC
      refine hx_jE rfl ew (gr_rgr rC) (by omega) fun r hr => br_c (fun c2 => nm_e (keep fun u' x' hk => ?_)) (fun c2 => h1 ?_)
      · obtain ⟨rfl, _, rfl⟩ := (kk _ _ _).mp hk
        rw [hp_le, hp_0, hr] at c2
        exact c2
      · rw [hp_le, hp_0, hr] at c2
        exact gr_CLn (gr_jC gok (by decide) gC ha) (by omega)
    · obtain ⟨_, e, _⟩ := (kk _ _ _).mp hk
      exact absurd (by rw [e]) c
theorem hx_fillBySets_table {post : SX → Prop} {f_queueStart f_queueLength f_leastTop f_leastBottom : Int32} {a_arcThere a_arcFrom a_arcTo a_arcWeight a_table a_otherTable a_squared a_levels a_setCells a_onRingBelowZero a_queue a_queued a_arcsUsed : Nat → Int32} (ok : hx_ok a_arcThere a_arcFrom a_arcTo a_arcWeight) (h : ∀ b sc rb : Nat → Int32, (∀ s t, s < 7 → t < 7 → gr_Ans (hx_A a_arcThere a_arcFrom a_arcTo a_arcWeight) s t (gr_cv (b (7 * s + t)).toInt)) → post (f_queueStart, f_queueLength, f_leastTop, f_leastBottom, a_arcThere, a_arcFrom, a_arcTo, a_arcWeight, b, a_otherTable, a_squared, a_levels, sc, rb, a_queue, a_queued, a_arcsUsed)) : wpX_fillBySets__table post (f_queueStart, f_queueLength, f_leastTop, f_leastBottom, a_arcThere, a_arcFrom, a_arcTo, a_arcWeight, a_table, a_otherTable, a_squared, a_levels, a_setCells, a_onRingBelowZero, a_queue, a_queued, a_arcsUsed) := by
  have gok := hx_grok ok
  have second : ∀ b0 sc rb : Nat → Int32, (∀ s t, s < 7 → t < 7 → hx_sm (hx_A a_arcThere a_arcFrom a_arcTo a_arcWeight) s t (b0 (7 * s + t)).toInt) → (∀ p, p < 7 → (¬ rb p = 0 → gr_L (hx_A a_arcThere a_arcFrom a_arcTo a_arcWeight) p p) ∧ (rb p = 0 → ¬ gr_NR (hx_A a_arcThere a_arcFrom a_arcTo a_arcWeight) p)) → ∃ n, wX_fillBySets__table_60 post n 0 f_queueStart f_queueLength f_leastTop f_leastBottom a_arcThere a_arcFrom a_arcTo a_arcWeight b0 a_otherTable a_squared a_levels sc rb a_queue a_queued a_arcsUsed := by
    intro b0 sc rb h0 hrb
    refine loop_0 (fun n i (b : Nat → Int32) => wX_fillBySets__table_60 post n (nI i) f_queueStart f_queueLength f_leastTop f_leastBottom a_arcThere a_arcFrom a_arcTo a_arcWeight b a_otherTable a_squared a_levels sc rb a_queue a_queued a_arcsUsed) (fun i b => (∀ s t, s < 7 → t < 7 → gr_C (hx_A a_arcThere a_arcFrom a_arcTo a_arcWeight) 6 s t (b (7 * s + t)).toInt ∧ ((b (7 * s + t)).toInt = 1000000 ↔ ¬ gr_R (hx_A a_arcThere a_arcFrom a_arcTo a_arcWeight) s t) ∧ (∀ n m c, gr_S (hx_A a_arcThere a_arcFrom a_arcTo a_arcWeight) gr_T s n t m c → (b (7 * s + t)).toInt ≤ c)) ∧ ∀ s t p, s < 7 → t < 7 → p < i → gr_NR (hx_A a_arcThere a_arcFrom a_arcTo a_arcWeight) p → gr_R (hx_A a_arcThere a_arcFrom a_arcTo a_arcWeight) s p → gr_R (hx_A a_arcThere a_arcFrom a_arcTo a_arcWeight) p t → (b (7 * s + t)).toInt = -1000000) 7 b0 ?_ ?_ ?_
    · exact ⟨fun s t hs ht => ⟨(hx_smC gok hs (h0 s t hs ht)).1, (hx_smC gok hs (h0 s t hs ht)).2, (h0 s t hs ht).2⟩, fun s t p _ _ hp => absurd hp (by omega)⟩
    · rintro n b ⟨r1, r2⟩
      exact br_t (nI_le (Nat.le_refl 7) (by decide)) (h b sc rb (gr_E4f gok (Z' := fun s t => (b (7 * s + t)).toInt) (fun s t hs ht => (r1 s t hs ht).1) (fun s t n m c hs ht g => (r1 s t hs ht).2.2 n m c g) (fun s t p hs ht hp => r2 s t p hs ht hp)))
    · rintro n i b hi ⟨r1, r2⟩ hn
      have ck : (nI i).toNatClampNeg = i := nI_clamp (by omega)
      refine br_f (nI_ge (b := 7) hi (by decide)) ?_
      rw [ck, nI_1]
      refine ⟨vp_in_nI hi (by decide), br_c (fun c => nm_e (hn b ⟨r1, fun s t p hs ht hp hN => ?_⟩)) (fun c => ?_)⟩
      · by_cases e : p = i
        · subst e
          exact absurd hN ((hrb p hi).2 c)
        · exact r2 s t p hs ht (by omega) hN
      · have hl := (hrb i hi).1 c
        refine hx_pass_table hi (fun s t hs ht => gr_Cr gok (by decide) (r1 s t hs ht).1) (Or.inl hp_D) fun b' hb' => ?_
        dsimp only
        refine nm_e (hn b' ?_)
        have val : ∀ s t, s < 7 → t < 7 → ((b' (7 * s + t)).toInt = (b (7 * s + t)).toInt ∧ ¬ (gr_R (hx_A a_arcThere a_arcFrom a_arcTo a_arcWeight) s i ∧ gr_R (hx_A a_arcThere a_arcFrom a_arcTo a_arcWeight) i t)) ∨ ((b' (7 * s + t)).toInt = -1000000 ∧ gr_R (hx_A a_arcThere a_arcFrom a_arcTo a_arcWeight) s i ∧ gr_R (hx_A a_arcThere a_arcFrom a_arcTo a_arcWeight) i t) := by
          intro s t hs ht
          have k1 := (r1 s i hs hi).2.1
          have k2 := (r1 i t hi ht).2.1
          have g1 := gr_Cr gok (by decide) (r1 s i hs hi).1
          have g2 := gr_Cr gok (by decide) (r1 i t hi ht).1
          have g3 := gr_Cr gok (by decide) (r1 s t hs ht).1
          have p1 := @gr_psle (fun s t => (b (7 * s + t)).toInt) i s t (-1000000)
          rw [hb' s t hs ht, hp_D]
          by_cases e1 : (b (7 * s + i)).toInt = 1000000
          · rw [e1, gr_j_F, gr_j_F] at p1
            refine Or.inl ⟨?_, fun z => (k1.mp e1) z.1⟩
            unfold gr_rg at g3
            omega
          · by_cases e2 : (b (7 * i + t)).toInt = 1000000
            · rw [e2, gr_j_F'] at p1
              refine Or.inl ⟨?_, fun z => (k2.mp e2) z.2⟩
              unfold gr_rg at g3
              omega
            · rw [gr_j_D' e1, gr_j_D e2] at p1
              refine Or.inr ⟨?_, Classical.byContradiction fun z => e1 (k1.mpr z), Classical.byContradiction fun z => e2 (k2.mpr z)⟩
              unfold gr_rg at g3
              omega
        refine ⟨fun s t hs ht => ?_, fun s t p hs ht hp hN hR1 hR2 => ?_⟩
        · have k := r1 s t hs ht
          rcases val s t hs ht with ⟨e, _⟩ | ⟨e, q1, q2⟩
          · rw [e]
            exact k
          · rw [e]
            refine ⟨gr_CL (gr_LR (gr_RL q1 hl) q2), ⟨fun z => absurd z (by decide), fun z => absurd (gr_Rt q1 q2) z⟩, fun n m c g => ?_⟩
            have := gr_Sn6 (gr_oki gok) hs g
            have := gr_Wb gok (gr_SW g)
            omega
        · rcases val s t hs ht with ⟨e, q⟩ | ⟨e, _⟩
          · by_cases ep : p = i
            · subst ep
              exact absurd ⟨hR1, hR2⟩ q
            · rw [e]
              exact r2 s t p hs ht (by omega) hN hR1 hR2
          · exact e
  refine loop_0 (fun n i (z : (Nat → Int32) × (Nat → Int32) × (Nat → Int32)) => wX_fillBySets__table_2 post n (nI i) f_queueStart f_queueLength f_leastTop f_leastBottom a_arcThere a_arcFrom a_arcTo a_arcWeight z.1 a_otherTable a_squared a_levels z.2.1 z.2.2 a_queue a_queued a_arcsUsed) (fun i z => (∀ s t, s < i → t < 7 → hx_sm (hx_A a_arcThere a_arcFrom a_arcTo a_arcWeight) s t (z.1 (7 * s + t)).toInt) ∧ ∀ p, p < i → (¬ z.2.2 p = 0 → gr_L (hx_A a_arcThere a_arcFrom a_arcTo a_arcWeight) p p) ∧ (z.2.2 p = 0 → ¬ gr_NR (hx_A a_arcThere a_arcFrom a_arcTo a_arcWeight) p)) 7 (a_table, a_setCells, a_onRingBelowZero) ⟨fun s t hs => absurd hs (by omega), fun p hp => absurd hp (by omega)⟩ ?_ ?_
  · rintro n ⟨b, sc, rb⟩ ⟨r1, r2⟩
    exact br_t (nI_le (Nat.le_refl 7) (by decide)) (second b sc rb (fun s t hs ht => r1 s t hs ht) r2)
  · rintro n s ⟨b, sc, rb⟩ hs ⟨r1, r2⟩ hn
    dsimp only at r1 r2
    refine br_f (nI_ge (b := 7) hs (by decide)) ?_
    refine hx_fillSetsFrom ok hs fun c hc => ?_
    refine loop_0 (fun n' i (b' : Nat → Int32) => wX_fillBySets__table_15 post (wX_fillBySets__table_2 post n) (nI s) f_queueStart f_queueLength f_leastTop f_leastBottom n' (nI i) a_arcThere a_arcFrom a_arcTo a_arcWeight b' a_otherTable a_squared a_levels c rb a_queue a_queued a_arcsUsed) (fun i b' => ∀ s' t, (s' < s ∨ (s' = s ∧ t < i)) → t < 7 → hx_sm (hx_A a_arcThere a_arcFrom a_arcTo a_arcWeight) s' t (b' (7 * s' + t)).toInt) 7 b (fun s' t hs' ht => r1 s' t (by omega) ht) ?_ ?_
    · intro n' b' hb'
      have ck : (nI s).toNatClampNeg = s := nI_clamp (by omega)
      have vs : vp_in (nI s) 7 := vp_in_nI hs (by decide)
      refine br_t (nI_le (Nat.le_refl 7) (by decide)) ?_
      rw [ck, nI_1]
      refine hx_closes_table ok hs (fun t ht => hb' s t (by omega) ht) (fun hl => ⟨vs, ?_⟩) (fun hl => ⟨vs, ?_⟩)
      · rw [hp_nb1]
        refine nm_e (nm_e (hn (b', c, upd rb s 1) ⟨fun s' t hs' ht => hb' s' t (by omega) ht, fun p hp => ?_⟩))
        dsimp only
        by_cases e : p = s
        · subst e
          rw [pk_us]
          exact ⟨fun _ => hl, fun z => absurd z (by decide)⟩
        · rw [pk_un e]
          exact r2 p (by omega)
      · rw [hp_nb0]
        refine nm_e (nm_e (hn (b', c, upd rb s 0) ⟨fun s' t hs' ht => hb' s' t (by omega) ht, fun p hp => ?_⟩))
        dsimp only
        by_cases e : p = s
        · subst e
          rw [pk_us]
          exact ⟨fun z => absurd rfl z, fun _ => hl⟩
        · rw [pk_un e]
          exact r2 p (by omega)
    · intro n' t b' ht hb' hn'
      have ck : (nI (7 * s + t)).toNatClampNeg = 7 * s + t := nI_clamp (by omega)
      refine br_f (nI_ge (b := 7) ht (by decide)) ?_
      rw [hp_ix, ck, nI_1]
      refine hx_smallest ok hs ht hc fun r hr => ⟨vp_in_nI (by omega) (by decide), nm_e (nm_e (hn' _ fun s' t' hs' ht' => ?_))⟩
      by_cases e : 7 * s' + t' = 7 * s + t
      · have e1 : s' = s := by omega
        have e2 : t' = t := by omega
        subst e1 e2
        rw [pk_us]
        exact hr
      · rw [pk_un e]
        exact hb' s' t' (by omega) ht'
theorem hx_conv_table {post : SX → Prop} {f_queueStart f_queueLength f_leastTop f_leastBottom : Int32} {a_arcThere a_arcFrom a_arcTo a_arcWeight a_table a_otherTable a_squared a_levels a_setCells a_onRingBelowZero a_queue a_queued a_arcsUsed : Nat → Int32} {A : Nat → Nat → Int → Prop} (ha : ∀ s t, s < 7 → t < 7 → gr_Ans A s t (gr_cv (a_table (7 * s + t)).toInt)) (h : ∀ b : Nat → Int32, (∀ s t, s < 7 → t < 7 → gr_Ans A s t (b (7 * s + t)).toInt) → post (f_queueStart, f_queueLength, f_leastTop, f_leastBottom, a_arcThere, a_arcFrom, a_arcTo, a_arcWeight, b, a_otherTable, a_squared, a_levels, a_setCells, a_onRingBelowZero, a_queue, a_queued, a_arcsUsed)) : ∃ n, wX_fill__table_71 post f_queueStart f_queueLength f_leastTop f_leastBottom n 0 a_arcThere a_arcFrom a_arcTo a_arcWeight a_table a_otherTable a_squared a_levels a_setCells a_onRingBelowZero a_queue a_queued a_arcsUsed := by
  refine loop_0 (fun n i (b : Nat → Int32) => wX_fill__table_71 post f_queueStart f_queueLength f_leastTop f_leastBottom n (nI i) a_arcThere a_arcFrom a_arcTo a_arcWeight b a_otherTable a_squared a_levels a_setCells a_onRingBelowZero a_queue a_queued a_arcsUsed) (fun i b => ∀ j, j < 49 → (b j).toInt = if j < i then gr_cv (a_table j).toInt else (a_table j).toInt) 49 a_table (fun j _ => by rw [if_neg (by omega)]) ?_ ?_
  · intro n b hb
    refine br_t (nI_le (Nat.le_refl 49) (by decide)) (h b fun s t hs ht => ?_)
    rw [hb _ (by omega), if_pos (by omega)]
    exact ha s t hs ht
  · intro n i b hi hb hn
    have ck : (nI i).toNatClampNeg = i := nI_clamp (by omega)
    have vi : vp_in (nI i) 49 := vp_in_nI hi (by decide)
    have ei : (b i).toInt = (a_table i).toInt := by rw [hb i hi, if_neg (by omega)]
    have put : ∀ z : Int32, z.toInt = gr_cv (a_table i).toInt → wX_fill__table_71 post f_queueStart f_queueLength f_leastTop f_leastBottom n (nI (i + 1)) a_arcThere a_arcFrom a_arcTo a_arcWeight (upd b i z) a_otherTable a_squared a_levels a_setCells a_onRingBelowZero a_queue a_queued a_arcsUsed := by
      intro z hz
      refine hn _ fun j hj => ?_
      rw [hx_ut]
      by_cases e : j = i
      · subst e
        rw [if_pos rfl, if_pos (by omega), hz]
      · rw [if_neg e, hb j hj]
        split <;> split <;> first | rfl | omega
    refine br_f (nI_ge (b := 49) hi (by decide)) ?_
    rw [ck, nI_1]
    refine ⟨vi, br_c (fun c => ⟨vi, nm_e (nm_e (put _ ?_))⟩) (fun c => ⟨vi, br_c (fun c2 => ⟨vi, nm_e (nm_e (put _ ?_))⟩) (fun c2 => nm_e ?_)⟩)⟩
    · rw [hp_eq, hp_F, ei] at c
      rw [c]
      exact hp_N
    · rw [hp_eq, hp_D, ei] at c2
      rw [c2]
      exact hp_L
    · rw [hp_eq, hp_F, ei] at c
      rw [hp_eq, hp_D, ei] at c2
      have := put (b i) (by
        unfold gr_cv
        rw [if_neg c, if_neg c2, ei])
      rw [hx_upds] at this
      exact this
theorem hx_fill_table {post : SX → Prop} {f_queueStart f_queueLength f_leastTop f_leastBottom : Int32} {a_arcThere a_arcFrom a_arcTo a_arcWeight a_table a_otherTable a_squared a_levels a_setCells a_onRingBelowZero a_queue a_queued a_arcsUsed : Nat → Int32} (ok : hx_ok a_arcThere a_arcFrom a_arcTo a_arcWeight) (hq0 : ∀ v, v < 7 → a_queued v = 0) {e : Nat} (he : e < 5) (h : ∀ (st ln : Int32) (tb sq sc rb q qd us : Nat → Int32), (∀ v, v < 7 → qd v = 0) → (∀ s t, s < 7 → t < 7 → gr_Ans (hx_A a_arcThere a_arcFrom a_arcTo a_arcWeight) s t (tb (7 * s + t)).toInt) → post (st, ln, f_leastTop, f_leastBottom, a_arcThere, a_arcFrom, a_arcTo, a_arcWeight, tb, a_otherTable, sq, a_levels, sc, rb, q, qd, us)) : wpX_fill__table post (f_queueStart, f_queueLength, f_leastTop, f_leastBottom, a_arcThere, a_arcFrom, a_arcTo, a_arcWeight, a_table, a_otherTable, a_squared, a_levels, a_setCells, a_onRingBelowZero, a_queue, a_queued, a_arcsUsed) (nI e) := by
  have e5 : e = 0 ∨ e = 1 ∨ e = 2 ∨ e = 3 ∨ e = 4 := by omega
  unfold wpX_fill__table
  dsimp only
  rcases e5 with rfl | rfl | rfl | rfl | rfl
  · refine br_f (by decide) (br_f (by decide) (br_t (by decide) ?_))
    refine hx_fillByRounds_table ok fun b hb => ?_
    exact hx_conv_table hb fun b' hb' => h _ _ b' _ _ _ _ _ _ hq0 hb'
  · refine br_f (by decide) (br_f (by decide) (br_f (by decide) (br_t (by decide) ?_)))
    refine hx_fillByMiddle_table ok fun b hb => ?_
    exact hx_conv_table hb fun b' hb' => h _ _ b' _ _ _ _ _ _ hq0 hb'
  · refine br_f (by decide) (br_f (by decide) (br_f (by decide) (br_f (by decide) (br_t (by decide) ?_))))
    refine hx_fillBySquaring_table ok fun b sq hb => ?_
    exact hx_conv_table hb fun b' hb' => h _ _ b' _ _ _ _ _ _ hq0 hb'
  · refine br_f (by decide) (br_f (by decide) (br_f (by decide) (br_f (by decide) (br_f (by decide) (br_t (by decide) ?_)))))
    refine hx_fillByQueue_table ok hq0 fun st ln b q qd us hq hb => ?_
    exact hx_conv_table hb fun b' hb' => h _ _ b' _ _ _ _ _ _ hq hb'
  · refine br_f (by decide) (br_t (by decide) ?_)
    refine hx_fillBySets_table ok fun b sc rb hb => ?_
    exact hx_conv_table hb fun b' hb' => h _ _ b' _ _ _ _ _ _ hq0 hb'
theorem hx_closes_otherTable {post : Int32 → Prop} {f_queueStart f_queueLength f_leastTop f_leastBottom : Int32} {a_arcThere a_arcFrom a_arcTo a_arcWeight a_table a_otherTable a_squared a_levels a_setCells a_onRingBelowZero a_queue a_queued a_arcsUsed : Nat → Int32} (ok : hx_ok a_arcThere a_arcFrom a_arcTo a_arcWeight) {s : Nat} (hs : s < 7) (hb : ∀ t, t < 7 → hx_sm (hx_A a_arcThere a_arcFrom a_arcTo a_arcWeight) s t (a_otherTable (7 * s + t)).toInt) (h1 : gr_L (hx_A a_arcThere a_arcFrom a_arcTo a_arcWeight) s s → post 1) (h0 : ¬ gr_NR (hx_A a_arcThere a_arcFrom a_arcTo a_arcWeight) s → post 0) : wpX_closesBelowZero__otherTable post (f_queueStart, f_queueLength, f_leastTop, f_leastBottom, a_arcThere, a_arcFrom, a_arcTo, a_arcWeight, a_table, a_otherTable, a_squared, a_levels, a_setCells, a_onRingBelowZero, a_queue, a_queued, a_arcsUsed) (nI s) := by
  have gok := hx_grok ok
  refine loop_0 (fun n i (_ : Unit) => wX_closesBelowZero__otherTable_2 post (nI s) f_queueStart f_queueLength f_leastTop f_leastBottom a_arcThere a_arcFrom a_arcTo a_arcWeight a_table a_otherTable a_squared a_levels a_setCells a_onRingBelowZero a_queue a_queued a_arcsUsed n (nI i)) (fun i _ => ∀ j u x, j < i → (hx_K a_arcThere a_arcFrom a_arcTo a_arcWeight) j u s x → 0 ≤ gr_j (a_otherTable (7 * s + u)).toInt x) 20 () (fun j u x hj => absurd hj (by omega)) ?_ ?_
  · intro n _ hI
    refine br_t (nI_le (Nat.le_refl 20) (by decide)) (h0 ?_)
    rintro ⟨n', u, m, c, x, g, ⟨j, hj, hk⟩, hl⟩
    have k1 := hI j u x hj hk
    have k0 := hk
    have hu : u < 7 := hk.2.2.2.1
    have k2 := (hb u hu).2 n' m c g
    have k3 := gr_Sn6 (gr_oki gok) hs g
    have k4 := gr_Wb gok (gr_SW g)
    have k5 := @gr_jc (a_otherTable (7 * s + u)).toInt x
    have k6 := gok _ _ _ ⟨j, hj, hk⟩
    omega
  · intro n i _ hi hI hn
    obtain ⟨u, v, x, hu, hv, eu, ev, ew, hx1, hx2, hk0, hk1⟩ := hx_arc ok hi
    have ck : (nI i).toNatClampNeg = i := nI_clamp (by omega)
    have cu : (nI (7 * s + u)).toNatClampNeg = 7 * s + u := nI_clamp (by omega)
    have vi : vp_in (nI i) 20 := vp_in_nI hi (by decide)
    have keep : (∀ u x, (hx_K a_arcThere a_arcFrom a_arcTo a_arcWeight) i u s x → 0 ≤ gr_j (a_otherTable (7 * s + u)).toInt x) → wX_closesBelowZero__otherTable_2 post (nI s) f_queueStart f_queueLength f_leastTop f_leastBottom a_arcThere a_arcFrom a_arcTo a_arcWeight a_table a_otherTable a_squared a_levels a_setCells a_onRingBelowZero a_queue a_queued a_arcsUsed n (nI (i + 1)) := by
      intro hh
      refine hn () fun j u' x' hj hk => ?_
      by_cases e : j = i
      · subst e
        exact hh u' x' hk
      · exact hI j u' x' (by omega) hk
    refine br_f (nI_ge (b := 20) hi (by decide)) ?_
    simp only [ck, eu, ev, hp_ix, cu, nI_1]
    refine ⟨vi, br_c (fun t0 => nm_e (keep fun u' x' hk => absurd hk (hk0 t0 _ _ _))) (fun t0 => ⟨vi, ?_⟩)⟩
    obtain ⟨kk, ha⟩ := hk1 t0
    refine br_c (fun c => ⟨vi, vp_in_nI (by omega) (by decide), vi, ?_⟩) (fun c => nm_e (keep fun u' x' hk => ?_))
    · rw [nI_eq (by omega) (by omega)] at c
      subst c
      have gC := (hx_smC gok hs (hb u hu)).1
      have rC := gr_Cr gok (by decide) gC
      refine hx_jE rfl ew (gr_rgr rC) (by omega) fun r hr => br_c (fun c2 => nm_e (keep fun u' x' hk => ?_)) (fun c2 => h1 ?_)
      · obtain ⟨rfl, _, rfl⟩ := (kk _ _ _).mp hk
        rw [hp_le, hp_0, hr] at c2
        exact c2
      · rw [hp_le, hp_0, hr] at c2
        exact gr_CLn (gr_jC gok (by decide) gC ha) (by omega)
    · obtain ⟨_, e, _⟩ := (kk _ _ _).mp hk
      exact absurd (by rw [e]) c
theorem hx_fillBySets_otherTable {post : SX → Prop} {f_queueStart f_queueLength f_leastTop f_leastBottom : Int32} {a_arcThere a_arcFrom a_arcTo a_arcWeight a_table a_otherTable a_squared a_levels a_setCells a_onRingBelowZero a_queue a_queued a_arcsUsed : Nat → Int32} (ok : hx_ok a_arcThere a_arcFrom a_arcTo a_arcWeight) (h : ∀ b sc rb : Nat → Int32, (∀ s t, s < 7 → t < 7 → gr_Ans (hx_A a_arcThere a_arcFrom a_arcTo a_arcWeight) s t (gr_cv (b (7 * s + t)).toInt)) → post (f_queueStart, f_queueLength, f_leastTop, f_leastBottom, a_arcThere, a_arcFrom, a_arcTo, a_arcWeight, a_table, b, a_squared, a_levels, sc, rb, a_queue, a_queued, a_arcsUsed)) : wpX_fillBySets__otherTable post (f_queueStart, f_queueLength, f_leastTop, f_leastBottom, a_arcThere, a_arcFrom, a_arcTo, a_arcWeight, a_table, a_otherTable, a_squared, a_levels, a_setCells, a_onRingBelowZero, a_queue, a_queued, a_arcsUsed) := by
  have gok := hx_grok ok
  have second : ∀ b0 sc rb : Nat → Int32, (∀ s t, s < 7 → t < 7 → hx_sm (hx_A a_arcThere a_arcFrom a_arcTo a_arcWeight) s t (b0 (7 * s + t)).toInt) → (∀ p, p < 7 → (¬ rb p = 0 → gr_L (hx_A a_arcThere a_arcFrom a_arcTo a_arcWeight) p p) ∧ (rb p = 0 → ¬ gr_NR (hx_A a_arcThere a_arcFrom a_arcTo a_arcWeight) p)) → ∃ n, wX_fillBySets__otherTable_60 post n 0 f_queueStart f_queueLength f_leastTop f_leastBottom a_arcThere a_arcFrom a_arcTo a_arcWeight a_table b0 a_squared a_levels sc rb a_queue a_queued a_arcsUsed := by
    intro b0 sc rb h0 hrb
    refine loop_0 (fun n i (b : Nat → Int32) => wX_fillBySets__otherTable_60 post n (nI i) f_queueStart f_queueLength f_leastTop f_leastBottom a_arcThere a_arcFrom a_arcTo a_arcWeight a_table b a_squared a_levels sc rb a_queue a_queued a_arcsUsed) (fun i b => (∀ s t, s < 7 → t < 7 → gr_C (hx_A a_arcThere a_arcFrom a_arcTo a_arcWeight) 6 s t (b (7 * s + t)).toInt ∧ ((b (7 * s + t)).toInt = 1000000 ↔ ¬ gr_R (hx_A a_arcThere a_arcFrom a_arcTo a_arcWeight) s t) ∧ (∀ n m c, gr_S (hx_A a_arcThere a_arcFrom a_arcTo a_arcWeight) gr_T s n t m c → (b (7 * s + t)).toInt ≤ c)) ∧ ∀ s t p, s < 7 → t < 7 → p < i → gr_NR (hx_A a_arcThere a_arcFrom a_arcTo a_arcWeight) p → gr_R (hx_A a_arcThere a_arcFrom a_arcTo a_arcWeight) s p → gr_R (hx_A a_arcThere a_arcFrom a_arcTo a_arcWeight) p t → (b (7 * s + t)).toInt = -1000000) 7 b0 ?_ ?_ ?_
    · exact ⟨fun s t hs ht => ⟨(hx_smC gok hs (h0 s t hs ht)).1, (hx_smC gok hs (h0 s t hs ht)).2, (h0 s t hs ht).2⟩, fun s t p _ _ hp => absurd hp (by omega)⟩
    · rintro n b ⟨r1, r2⟩
      exact br_t (nI_le (Nat.le_refl 7) (by decide)) (h b sc rb (gr_E4f gok (Z' := fun s t => (b (7 * s + t)).toInt) (fun s t hs ht => (r1 s t hs ht).1) (fun s t n m c hs ht g => (r1 s t hs ht).2.2 n m c g) (fun s t p hs ht hp => r2 s t p hs ht hp)))
    · rintro n i b hi ⟨r1, r2⟩ hn
      have ck : (nI i).toNatClampNeg = i := nI_clamp (by omega)
      refine br_f (nI_ge (b := 7) hi (by decide)) ?_
      rw [ck, nI_1]
      refine ⟨vp_in_nI hi (by decide), br_c (fun c => nm_e (hn b ⟨r1, fun s t p hs ht hp hN => ?_⟩)) (fun c => ?_)⟩
      · by_cases e : p = i
        · subst e
          exact absurd hN ((hrb p hi).2 c)
        · exact r2 s t p hs ht (by omega) hN
      · have hl := (hrb i hi).1 c
        refine hx_pass_otherTable hi (fun s t hs ht => gr_Cr gok (by decide) (r1 s t hs ht).1) (Or.inl hp_D) fun b' hb' => ?_
        dsimp only
        refine nm_e (hn b' ?_)
        have val : ∀ s t, s < 7 → t < 7 → ((b' (7 * s + t)).toInt = (b (7 * s + t)).toInt ∧ ¬ (gr_R (hx_A a_arcThere a_arcFrom a_arcTo a_arcWeight) s i ∧ gr_R (hx_A a_arcThere a_arcFrom a_arcTo a_arcWeight) i t)) ∨ ((b' (7 * s + t)).toInt = -1000000 ∧ gr_R (hx_A a_arcThere a_arcFrom a_arcTo a_arcWeight) s i ∧ gr_R (hx_A a_arcThere a_arcFrom a_arcTo a_arcWeight) i t) := by
          intro s t hs ht
          have k1 := (r1 s i hs hi).2.1
          have k2 := (r1 i t hi ht).2.1
          have g1 := gr_Cr gok (by decide) (r1 s i hs hi).1
          have g2 := gr_Cr gok (by decide) (r1 i t hi ht).1
          have g3 := gr_Cr gok (by decide) (r1 s t hs ht).1
          have p1 := @gr_psle (fun s t => (b (7 * s + t)).toInt) i s t (-1000000)
          rw [hb' s t hs ht, hp_D]
          by_cases e1 : (b (7 * s + i)).toInt = 1000000
          · rw [e1, gr_j_F, gr_j_F] at p1
            refine Or.inl ⟨?_, fun z => (k1.mp e1) z.1⟩
            unfold gr_rg at g3
            omega
          · by_cases e2 : (b (7 * i + t)).toInt = 1000000
            · rw [e2, gr_j_F'] at p1
              refine Or.inl ⟨?_, fun z => (k2.mp e2) z.2⟩
              unfold gr_rg at g3
              omega
            · rw [gr_j_D' e1, gr_j_D e2] at p1
              refine Or.inr ⟨?_, Classical.byContradiction fun z => e1 (k1.mpr z), Classical.byContradiction fun z => e2 (k2.mpr z)⟩
              unfold gr_rg at g3
              omega
        refine ⟨fun s t hs ht => ?_, fun s t p hs ht hp hN hR1 hR2 => ?_⟩
        · have k := r1 s t hs ht
          rcases val s t hs ht with ⟨e, _⟩ | ⟨e, q1, q2⟩
          · rw [e]
            exact k
          · rw [e]
            refine ⟨gr_CL (gr_LR (gr_RL q1 hl) q2), ⟨fun z => absurd z (by decide), fun z => absurd (gr_Rt q1 q2) z⟩, fun n m c g => ?_⟩
            have := gr_Sn6 (gr_oki gok) hs g
            have := gr_Wb gok (gr_SW g)
            omega
        · rcases val s t hs ht with ⟨e, q⟩ | ⟨e, _⟩
          · by_cases ep : p = i
            · subst ep
              exact absurd ⟨hR1, hR2⟩ q
            · rw [e]
              exact r2 s t p hs ht (by omega) hN hR1 hR2
          · exact e
  refine loop_0 (fun n i (z : (Nat → Int32) × (Nat → Int32) × (Nat → Int32)) => wX_fillBySets__otherTable_2 post n (nI i) f_queueStart f_queueLength f_leastTop f_leastBottom a_arcThere a_arcFrom a_arcTo a_arcWeight a_table z.1 a_squared a_levels z.2.1 z.2.2 a_queue a_queued a_arcsUsed) (fun i z => (∀ s t, s < i → t < 7 → hx_sm (hx_A a_arcThere a_arcFrom a_arcTo a_arcWeight) s t (z.1 (7 * s + t)).toInt) ∧ ∀ p, p < i → (¬ z.2.2 p = 0 → gr_L (hx_A a_arcThere a_arcFrom a_arcTo a_arcWeight) p p) ∧ (z.2.2 p = 0 → ¬ gr_NR (hx_A a_arcThere a_arcFrom a_arcTo a_arcWeight) p)) 7 (a_otherTable, a_setCells, a_onRingBelowZero) ⟨fun s t hs => absurd hs (by omega), fun p hp => absurd hp (by omega)⟩ ?_ ?_
  · rintro n ⟨b, sc, rb⟩ ⟨r1, r2⟩
    exact br_t (nI_le (Nat.le_refl 7) (by decide)) (second b sc rb (fun s t hs ht => r1 s t hs ht) r2)
  · rintro n s ⟨b, sc, rb⟩ hs ⟨r1, r2⟩ hn
    dsimp only at r1 r2
    refine br_f (nI_ge (b := 7) hs (by decide)) ?_
    refine hx_fillSetsFrom ok hs fun c hc => ?_
    refine loop_0 (fun n' i (b' : Nat → Int32) => wX_fillBySets__otherTable_15 post (wX_fillBySets__otherTable_2 post n) (nI s) f_queueStart f_queueLength f_leastTop f_leastBottom n' (nI i) a_arcThere a_arcFrom a_arcTo a_arcWeight a_table b' a_squared a_levels c rb a_queue a_queued a_arcsUsed) (fun i b' => ∀ s' t, (s' < s ∨ (s' = s ∧ t < i)) → t < 7 → hx_sm (hx_A a_arcThere a_arcFrom a_arcTo a_arcWeight) s' t (b' (7 * s' + t)).toInt) 7 b (fun s' t hs' ht => r1 s' t (by omega) ht) ?_ ?_
    · intro n' b' hb'
      have ck : (nI s).toNatClampNeg = s := nI_clamp (by omega)
      have vs : vp_in (nI s) 7 := vp_in_nI hs (by decide)
      refine br_t (nI_le (Nat.le_refl 7) (by decide)) ?_
      rw [ck, nI_1]
      refine hx_closes_otherTable ok hs (fun t ht => hb' s t (by omega) ht) (fun hl => ⟨vs, ?_⟩) (fun hl => ⟨vs, ?_⟩)
      · rw [hp_nb1]
        refine nm_e (nm_e (hn (b', c, upd rb s 1) ⟨fun s' t hs' ht => hb' s' t (by omega) ht, fun p hp => ?_⟩))
        dsimp only
        by_cases e : p = s
        · subst e
          rw [pk_us]
          exact ⟨fun _ => hl, fun z => absurd z (by decide)⟩
        · rw [pk_un e]
          exact r2 p (by omega)
      · rw [hp_nb0]
        refine nm_e (nm_e (hn (b', c, upd rb s 0) ⟨fun s' t hs' ht => hb' s' t (by omega) ht, fun p hp => ?_⟩))
        dsimp only
        by_cases e : p = s
        · subst e
          rw [pk_us]
          exact ⟨fun z => absurd rfl z, fun _ => hl⟩
        · rw [pk_un e]
          exact r2 p (by omega)
    · intro n' t b' ht hb' hn'
      have ck : (nI (7 * s + t)).toNatClampNeg = 7 * s + t := nI_clamp (by omega)
      refine br_f (nI_ge (b := 7) ht (by decide)) ?_
      rw [hp_ix, ck, nI_1]
      refine hx_smallest ok hs ht hc fun r hr => ⟨vp_in_nI (by omega) (by decide), nm_e (nm_e (hn' _ fun s' t' hs' ht' => ?_))⟩
      by_cases e : 7 * s' + t' = 7 * s + t
      · have e1 : s' = s := by omega
        have e2 : t' = t := by omega
        subst e1 e2
        rw [pk_us]
        exact hr
      · rw [pk_un e]
        exact hb' s' t' (by omega) ht'
theorem hx_conv_otherTable {post : SX → Prop} {f_queueStart f_queueLength f_leastTop f_leastBottom : Int32} {a_arcThere a_arcFrom a_arcTo a_arcWeight a_table a_otherTable a_squared a_levels a_setCells a_onRingBelowZero a_queue a_queued a_arcsUsed : Nat → Int32} {A : Nat → Nat → Int → Prop} (ha : ∀ s t, s < 7 → t < 7 → gr_Ans A s t (gr_cv (a_otherTable (7 * s + t)).toInt)) (h : ∀ b : Nat → Int32, (∀ s t, s < 7 → t < 7 → gr_Ans A s t (b (7 * s + t)).toInt) → post (f_queueStart, f_queueLength, f_leastTop, f_leastBottom, a_arcThere, a_arcFrom, a_arcTo, a_arcWeight, a_table, b, a_squared, a_levels, a_setCells, a_onRingBelowZero, a_queue, a_queued, a_arcsUsed)) : ∃ n, wX_fill__otherTable_71 post f_queueStart f_queueLength f_leastTop f_leastBottom n 0 a_arcThere a_arcFrom a_arcTo a_arcWeight a_table a_otherTable a_squared a_levels a_setCells a_onRingBelowZero a_queue a_queued a_arcsUsed := by
  refine loop_0 (fun n i (b : Nat → Int32) => wX_fill__otherTable_71 post f_queueStart f_queueLength f_leastTop f_leastBottom n (nI i) a_arcThere a_arcFrom a_arcTo a_arcWeight a_table b a_squared a_levels a_setCells a_onRingBelowZero a_queue a_queued a_arcsUsed) (fun i b => ∀ j, j < 49 → (b j).toInt = if j < i then gr_cv (a_otherTable j).toInt else (a_otherTable j).toInt) 49 a_otherTable (fun j _ => by rw [if_neg (by omega)]) ?_ ?_
  · intro n b hb
    refine br_t (nI_le (Nat.le_refl 49) (by decide)) (h b fun s t hs ht => ?_)
    rw [hb _ (by omega), if_pos (by omega)]
    exact ha s t hs ht
  · intro n i b hi hb hn
    have ck : (nI i).toNatClampNeg = i := nI_clamp (by omega)
    have vi : vp_in (nI i) 49 := vp_in_nI hi (by decide)
    have ei : (b i).toInt = (a_otherTable i).toInt := by rw [hb i hi, if_neg (by omega)]
    have put : ∀ z : Int32, z.toInt = gr_cv (a_otherTable i).toInt → wX_fill__otherTable_71 post f_queueStart f_queueLength f_leastTop f_leastBottom n (nI (i + 1)) a_arcThere a_arcFrom a_arcTo a_arcWeight a_table (upd b i z) a_squared a_levels a_setCells a_onRingBelowZero a_queue a_queued a_arcsUsed := by
      intro z hz
      refine hn _ fun j hj => ?_
      rw [hx_ut]
      by_cases e : j = i
      · subst e
        rw [if_pos rfl, if_pos (by omega), hz]
      · rw [if_neg e, hb j hj]
        split <;> split <;> first | rfl | omega
    refine br_f (nI_ge (b := 49) hi (by decide)) ?_
    rw [ck, nI_1]
    refine ⟨vi, br_c (fun c => ⟨vi, nm_e (nm_e (put _ ?_))⟩) (fun c => ⟨vi, br_c (fun c2 => ⟨vi, nm_e (nm_e (put _ ?_))⟩) (fun c2 => nm_e ?_)⟩)⟩
    · rw [hp_eq, hp_F, ei] at c
      rw [c]
      exact hp_N
    · rw [hp_eq, hp_D, ei] at c2
      rw [c2]
      exact hp_L
    · rw [hp_eq, hp_F, ei] at c
      rw [hp_eq, hp_D, ei] at c2
      have := put (b i) (by
        unfold gr_cv
        rw [if_neg c, if_neg c2, ei])
      rw [hx_upds] at this
      exact this
theorem hx_fill_otherTable {post : SX → Prop} {f_queueStart f_queueLength f_leastTop f_leastBottom : Int32} {a_arcThere a_arcFrom a_arcTo a_arcWeight a_table a_otherTable a_squared a_levels a_setCells a_onRingBelowZero a_queue a_queued a_arcsUsed : Nat → Int32} (ok : hx_ok a_arcThere a_arcFrom a_arcTo a_arcWeight) (hq0 : ∀ v, v < 7 → a_queued v = 0) {e : Nat} (he : e < 5) (h : ∀ (st ln : Int32) (tb sq sc rb q qd us : Nat → Int32), (∀ v, v < 7 → qd v = 0) → (∀ s t, s < 7 → t < 7 → gr_Ans (hx_A a_arcThere a_arcFrom a_arcTo a_arcWeight) s t (tb (7 * s + t)).toInt) → post (st, ln, f_leastTop, f_leastBottom, a_arcThere, a_arcFrom, a_arcTo, a_arcWeight, a_table, tb, sq, a_levels, sc, rb, q, qd, us)) : wpX_fill__otherTable post (f_queueStart, f_queueLength, f_leastTop, f_leastBottom, a_arcThere, a_arcFrom, a_arcTo, a_arcWeight, a_table, a_otherTable, a_squared, a_levels, a_setCells, a_onRingBelowZero, a_queue, a_queued, a_arcsUsed) (nI e) := by
  have e5 : e = 0 ∨ e = 1 ∨ e = 2 ∨ e = 3 ∨ e = 4 := by omega
  unfold wpX_fill__otherTable
  dsimp only
  rcases e5 with rfl | rfl | rfl | rfl | rfl
  · refine br_f (by decide) (br_f (by decide) (br_t (by decide) ?_))
    refine hx_fillByRounds_otherTable ok fun b hb => ?_
    exact hx_conv_otherTable hb fun b' hb' => h _ _ b' _ _ _ _ _ _ hq0 hb'
  · refine br_f (by decide) (br_f (by decide) (br_f (by decide) (br_t (by decide) ?_)))
    refine hx_fillByMiddle_otherTable ok fun b hb => ?_
    exact hx_conv_otherTable hb fun b' hb' => h _ _ b' _ _ _ _ _ _ hq0 hb'
  · refine br_f (by decide) (br_f (by decide) (br_f (by decide) (br_f (by decide) (br_t (by decide) ?_))))
    refine hx_fillBySquaring_otherTable ok fun b sq hb => ?_
    exact hx_conv_otherTable hb fun b' hb' => h _ _ b' _ _ _ _ _ _ hq0 hb'
  · refine br_f (by decide) (br_f (by decide) (br_f (by decide) (br_f (by decide) (br_f (by decide) (br_t (by decide) ?_)))))
    refine hx_fillByQueue_otherTable ok hq0 fun st ln b q qd us hq hb => ?_
    exact hx_conv_otherTable hb fun b' hb' => h _ _ b' _ _ _ _ _ _ hq hb'
  · refine br_f (by decide) (br_t (by decide) ?_)
    refine hx_fillBySets_otherTable ok fun b sc rb hb => ?_
    exact hx_conv_otherTable hb fun b' hb' => h _ _ b' _ _ _ _ _ _ hq0 hb'
end
section
/-! the reference: arc, lowest, ones, through, rings, divisor -/
theorem hy_arc {post : Int32 → Prop} {f_top f_bottom f_ringPoints : Int32} {a_there a_froms a_tos a_weights a_walks a_ways : Nat → Int32} (ok : hx_ok a_there a_froms a_tos a_weights) {a b : Nat} (ha : a < 7) (hb : b < 7) (h : ∀ r : Int32, gr_mn (-3000) (fun x => (hx_A a_there a_froms a_tos a_weights) a b x) r.toInt → post r) : wpY_arc post (f_top, f_bottom, f_ringPoints, a_there, a_froms, a_tos, a_weights, a_walks, a_ways) (nI a) (nI b) := by
  refine loop_0 (fun n i (r : Int32) => wY_arc_7 post (nI a) (nI b) f_top f_bottom f_ringPoints a_there a_froms a_tos a_weights a_walks a_ways n r (nI i)) (fun i r => gr_mn (-3000) (fun x => ∃ j, j < i ∧ (hx_K a_there a_froms a_tos a_weights) j a b x) r.toInt) 20 (-3000) (Or.inl ⟨hp_N, fun c ⟨j, hj, _⟩ => absurd hj (by omega)⟩) ?_ ?_
  · intro n r hr
    exact br_t (nI_le (Nat.le_refl 20) (by decide)) (h r hr)
  · intro n i r hi hr hn
    obtain ⟨u, v, x, hu, hv, eu, ev, ew, hx1, hx2, hk0, hk1⟩ := hx_arc ok hi
    have ck : (nI i).toNatClampNeg = i := nI_clamp (by omega)
    have vi : vp_in (nI i) 20 := vp_in_nI hi (by decide)
    have ee : ∀ c, (∃ j, j < i + 1 ∧ (hx_K a_there a_froms a_tos a_weights) j a b c) ↔ (∃ j, j < i ∧ (hx_K a_there a_froms a_tos a_weights) j a b c) ∨ (hx_K a_there a_froms a_tos a_weights) i a b c := by
      intro c
      constructor
      · rintro ⟨j, hj, g⟩
        by_cases e : j = i
        · subst e
          exact Or.inr g
        · exact Or.inl ⟨j, by omega, g⟩
      · rintro (⟨j, hj, g⟩ | g)
        · exact ⟨j, by omega, g⟩
        · exact ⟨i, by omega, g⟩
    have keep : (∀ c, ¬ (hx_K a_there a_froms a_tos a_weights) i a b c) → wY_arc_50 post (wY_arc_7 post (nI a) (nI b) f_top f_bottom f_ringPoints a_there a_froms a_tos a_weights a_walks a_ways n) (nI a) (nI b) r (nI i) f_top f_bottom f_ringPoints a_there a_froms a_tos a_weights a_walks a_ways := by
      intro hh
      unfold wY_arc_50 wY_arc_51
      refine br_t rfl ?_
      rw [nI_1]
      exact nm_e (hn r (gr_mnN ee hr hh))
    refine br_f (nI_ge (b := 20) hi (by decide)) ?_
    simp only [ck, eu, ev]
    refine ⟨vi, br_c (fun t0 => keep fun c hk => hk0 t0 _ _ _ hk) (fun t0 => ⟨vi, ?_⟩)⟩
    obtain ⟨kk, _⟩ := hk1 t0
    refine br_c (fun c1 => ⟨vi, br_c (fun c2 => ?_) (fun c2 => keep fun c hk => ?_)⟩) (fun c1 => keep fun c hk => ?_)
    · rw [nI_eq (by omega) (by omega)] at c1 c2
      subst c1 c2
      have one : gr_mn (-3000) (fun c => (hx_K a_there a_froms a_tos a_weights) i u v c) x := by
        refine Or.inr ⟨by omega, (kk _ _ _).mpr ⟨rfl, rfl, rfl⟩, fun c hk => ?_⟩
        obtain ⟨_, _, rfl⟩ := (kk _ _ _).mp hk
        exact Int.le_refl _
      have take : (r.toInt = -3000 ∨ x ≤ r.toInt) → wY_arc_76 post (wY_arc_7 post (nI u) (nI v) f_top f_bottom f_ringPoints a_there a_froms a_tos a_weights a_walks a_ways n) (nI u) (nI v) (nI i) f_top f_bottom f_ringPoints a_there a_froms a_tos a_weights a_walks a_ways := by
        intro hh
        unfold wY_arc_76
        rw [ck, nI_1]
        refine ⟨vi, nm_e (nm_e (hn _ ?_))⟩
        rw [ew]
        exact gr_mnT ee hr one (by omega) hh
      unfold wY_arc_51
      rw [ck, nI_1]
      refine br_f (by decide) (br_c (fun c3 => take (Or.inl ?_)) (fun c3 => ⟨vi, br_c (fun c4 => nm_e (hn r (gr_mnK ee hr one (Or.inr ?_)))) (fun c4 => take (Or.inr ?_))⟩))
      · rw [hp_eq, hp_N] at c3
        exact c3
      · rw [hp_eq, hp_N] at c3
        rw [hp_le, ew] at c4
        exact ⟨c3, c4⟩
      · rw [hp_le, ew] at c4
        omega
    · obtain ⟨_, e, _⟩ := (kk _ _ _).mp hk
      exact c2 (by rw [e])
    · obtain ⟨e, _, _⟩ := (kk _ _ _).mp hk
      exact c1 (by rw [e])
theorem hy_lowest {post : Int32 → Prop} {f_top f_bottom f_ringPoints : Int32} {a_there a_froms a_tos a_weights a_walks a_ways : Nat → Int32} {m s : Nat} (hm : m < 128) (hs : s < 7) (hl : gr_lo m s) (h : post (nI s)) : wpY_lowest post (f_top, f_bottom, f_ringPoints, a_there, a_froms, a_tos, a_weights, a_walks, a_ways) (nI m) := by
  refine loop_0 (fun n i (_ : Unit) => wY_lowest_2 post (nI m) f_top f_bottom f_ringPoints a_there a_froms a_tos a_weights a_walks a_ways n (nI i)) (fun _ _ => True) s () trivial ?_ ?_
  · intro n _ _
    refine br_f ?_ h
    rw [hp_bit0 (by omega) (by omega), hl.1]
    decide
  · intro n i _ hi _ hn
    refine br_t ?_ ?_
    · rw [hp_bit0 (by omega) (by omega)]
      exact hl.2 i hi
    · rw [nI_1]
      exact nm_e (hn () trivial)
def hy_pcp (m : Nat) : Nat → Nat
  | 0 => 0
  | i + 1 => hy_pcp m i + (m.testBit i).toNat
theorem hy_pcp7 (m : Nat) : hy_pcp m 7 = gr_pc m := by
  unfold gr_pc
  simp only [hy_pcp]
  omega
theorem hy_ones {post : Int32 → Prop} {f_top f_bottom f_ringPoints : Int32} {a_there a_froms a_tos a_weights a_walks a_ways : Nat → Int32} {m : Nat} (hm : m < 128) (h : post (nI (gr_pc m))) : wpY_ones post (f_top, f_bottom, f_ringPoints, a_there, a_froms, a_tos, a_weights, a_walks, a_ways) (nI m) := by
  refine loop_0 (fun n i (r : Int32) => wY_ones_4 post (nI m) f_top f_bottom f_ringPoints a_there a_froms a_tos a_weights a_walks a_ways n r (nI i)) (fun i r => r = nI (hy_pcp m i)) 7 0 rfl ?_ ?_
  · rintro n r rfl
    rw [hy_pcp7]
    exact br_t (nI_le (Nat.le_refl 7) (by decide)) h
  · rintro n i r hi rfl hn
    refine br_f (nI_ge (b := 7) hi (by decide)) ?_
    rw [hp_bit (by omega) (by omega), nI_add, nI_1]
    exact nm_e (nm_e (hn _ rfl))
theorem hy_wo : ∀ M, M < 128 → ∀ v, v < 7 → nI M &&& (((1 : Int32) <<< (nI v &&& 31)) ^^^ (-1)) = nI (gr_wo M v) := by decide +kernel
theorem hy_lo7 {M : Nat} (hM : M < 128) (h1 : 1 ≤ M) : ∃ s, s < 7 ∧ gr_lo M s := by
  obtain ⟨p, hp⟩ := Nat.exists_testBit_of_ne_zero (x := M) (by omega)
  obtain ⟨s, hs, hl⟩ := gr_loE hp
  refine ⟨s, ?_, hl⟩
  refine Classical.byContradiction fun hn => ?_
  have le : 2 ^ 7 ≤ 2 ^ s := Nat.pow_le_pow_right (by decide) (by omega)
  have := hl.1
  rw [Nat.testBit_lt_two_pow (by omega)] at this
  exact absurd this (by decide)
theorem hy_loW {M s v : Nat} (hl : gr_lo M s) (hv : v ≠ s) : gr_lo (gr_wo M v) s := by
  refine ⟨?_, fun i hi => ?_⟩
  · rw [gr_wob, hl.1, decide_eq_false hv]
    rfl
  · rw [gr_wob, hl.2 i hi]
    rfl
theorem hy_through {post : SY → Prop} {f_top f_bottom f_ringPoints : Int32} {a_there a_froms a_tos a_weights a_walks a_ways : Nat → Int32} (ok : hx_ok a_there a_froms a_tos a_weights) {M : Nat} (hM : M < 128) (h1 : 1 ≤ M) (h5 : gr_E5 (hx_A a_there a_froms a_tos a_weights) M (fun m v => (a_ways (7 * m + v)).toInt)) (h : ∀ w : Nat → Int32, gr_E5 (hx_A a_there a_froms a_tos a_weights) (M + 1) (fun m v => (w (7 * m + v)).toInt) → post (f_top, f_bottom, f_ringPoints, a_there, a_froms, a_tos, a_weights, a_walks, w)) : wpY_through post (f_top, f_bottom, f_ringPoints, a_there, a_froms, a_tos, a_weights, a_walks, a_ways) (nI M) := by
  have gok := hx_grok ok
  obtain ⟨s, hs, hl⟩ := hy_lo7 hM h1
  unfold wpY_through
  refine hy_lowest hM hs hl ?_
  refine loop_0 (fun n i (w : Nat → Int32) => wY_through_8 post (nI M) (nI s) f_top f_bottom f_ringPoints n (nI i) a_there a_froms a_tos a_weights a_walks w) (fun c w => (∀ m y, m ≠ M → y < 7 → w (7 * m + y) = a_ways (7 * m + y)) ∧ ∀ y, y < 7 → gr_mn (-3000) (gr_PT (hx_A a_there a_froms a_tos a_weights) M s c y) (w (7 * M + y)).toInt) 49 a_ways ?_ ?_ ?_
  · refine ⟨fun m y _ _ => rfl, fun y hy => ?_⟩
    have k := (h5 M y hM hy).2 (Nat.le_refl M)
    dsimp only at k
    rw [k]
    by_cases e : M = 2 ^ y
    · rw [if_pos e]
      exact Or.inr ⟨by decide, gr_PT0.mpr ⟨e, rfl⟩, fun c hc => by have := (gr_PT0.mp hc).2; omega⟩
    · rw [if_neg e]
      exact Or.inl ⟨rfl, fun c hc => e (gr_PT0.mp hc).1⟩
  · rintro n w ⟨r1, r2⟩
    refine br_t (nI_le (Nat.le_refl 49) (by decide)) (h w fun m v hm hv => ⟨fun hlt s' hl' => ?_, fun hge => ?_⟩)
    · by_cases e : m = M
      · subst e
        have e2 := gr_loU hl' hl
        subst e2
        exact gr_mnC (fun c => gr_PTf (gr_oki gok) hl hv) (r2 v hv)
      · dsimp only
        rw [r1 m v e hv]
        exact (h5 m v hm hv).1 (by omega) s' hl'
    · dsimp only
      rw [r1 m v (by omega) hv]
      exact (h5 m v hm hv).2 (by omega)
  · rintro n c w hc ⟨r1, r2⟩ hn
    obtain ⟨v, u, rfl, hu, hv⟩ : ∃ v u, c = 7 * v + u ∧ u < 7 ∧ v < 7 := ⟨c / 7, c % 7, by omega, by omega, by omega⟩
    obtain ⟨e1, e2⟩ := hp_c7 (i := v) hu (by omega)
    have n7 : ¬ (7 : Int32) = 0 := by decide
    have vM : vp_in (nI (7 * M + v)) 896 := vp_in_nI (by omega) (by decide)
    have cM : (nI (7 * M + v)).toNatClampNeg = 7 * M + v := nI_clamp (by omega)
    have w128 : gr_wo M v ≤ M := by
      unfold gr_wo
      by_cases b : M.testBit v = true
      · rw [if_pos b]
        have := gr_wol b
        unfold gr_wo at this
        rw [if_pos b] at this
        omega
      · rw [if_neg b]
        exact Nat.le_refl M
    have k177 : (∀ y, y < 7 → gr_mn (-3000) (gr_PT (hx_A a_there a_froms a_tos a_weights) M s (7 * v + u + 1) y) (w (7 * M + y)).toInt) → ∀ x8 x9, wY_through_177 post (wY_through_8 post (nI M) (nI s) f_top f_bottom f_ringPoints n) (nI M) (nI s) (nI (7 * v + u)) (nI v) x8 x9 f_top f_bottom f_ringPoints a_there a_froms a_tos a_weights a_walks w := by
      intro hh x8 x9
      unfold wY_through_177 wY_through_178
      refine br_t rfl ?_
      rw [hp_ix', cM, hx_upds, nI_1]
      exact ⟨vM, vM, nm_e (nm_e (hn w ⟨r1, hh⟩))⟩
    have same : ¬ (v ≠ s ∧ v ≠ u ∧ M.testBit v = true ∧ (gr_wo M v).testBit u = true ∧ ∃ d x, (∃ n, gr_S (hx_A a_there a_froms a_tos a_weights) gr_T s n u (gr_wo M v) d) ∧ (hx_A a_there a_froms a_tos a_weights) u v x) → ∀ y, y < 7 → gr_mn (-3000) (gr_PT (hx_A a_there a_froms a_tos a_weights) M s (7 * v + u + 1) y) (w (7 * M + y)).toInt := by
      intro hh y hy
      refine gr_mnN (fun c => gr_PTs hu) (r2 y hy) ?_
      rintro c ⟨_, g1, g2, g3, g4, d, x, g5, g6, _⟩
      exact hh ⟨g1, g2, g3, g4, d, x, g5, g6⟩
    have k74 : ¬ (v ≠ s ∧ v ≠ u ∧ M.testBit v = true ∧ (gr_wo M v).testBit u = true ∧ ∃ d x, (∃ n, gr_S (hx_A a_there a_froms a_tos a_weights) gr_T s n u (gr_wo M v) d) ∧ (hx_A a_there a_froms a_tos a_weights) u v x) → ∀ x6, wY_through_74 post (wY_through_8 post (nI M) (nI s) f_top f_bottom f_ringPoints n) (nI M) (nI s) (nI (7 * v + u)) (nI v) (nI u) x6 f_top f_bottom f_ringPoints a_there a_froms a_tos a_weights a_walks w := by
      intro hh x6
      unfold wY_through_74 wY_through_75
      refine br_t rfl ?_
      unfold wY_through_101
      refine br_t rfl ?_
      unfold wY_through_125
      exact br_t rfl (k177 (same hh) _ _)
    refine br_f (nI_ge (b := 49) hc (by decide)) ?_
    rw [e2, e1]
    refine ⟨n7, nm_e ⟨n7, nm_e ?_⟩⟩
    rw [hy_wo M hM v hv]
    refine nm_e ?_
    rw [nI_eq (by omega) (by omega), nI_eq (by omega) (by omega), hp_bit1 (by omega) (by omega), hp_bit1 (by omega) (by omega)]
    refine br_c (fun c1 => k74 (fun z => z.1 c1) _) (fun c1 => br_c (fun c2 => k74 (fun z => z.2.1 c2) _) (fun c2 => br_c (fun c3 => br_c (fun c4 => ?_) (fun c4 => k74 (fun z => c4 z.2.2.2.1) _)) (fun c3 => k74 (fun z => c3 z.2.2.1) _)))
    have wl := gr_wol c3
    have cB : (nI (7 * gr_wo M v + u)).toNatClampNeg = 7 * gr_wo M v + u := nI_clamp (by omega)
    have hB := (h5 (gr_wo M v) u (by omega) hu).1 wl s (hy_loW hl c1)
    dsimp only at hB
    rw [← r1 (gr_wo M v) u (by omega) hu] at hB
    unfold wY_through_75
    refine br_f (by decide) ?_
    rw [hp_ix', cB]
    refine ⟨vp_in_nI (by omega) (by decide), ?_⟩
    unfold wY_through_101
    refine br_c (fun z1 => ?_) (fun z1 => hy_arc ok hu hv fun r hr => ?_)
    · rw [hp_eq, hp_N] at z1
      unfold wY_through_125
      refine br_t rfl (k177 (same ?_) _ _)
      rintro ⟨_, _, _, _, d, x, g, _⟩
      rcases hB with ⟨_, z⟩ | ⟨z, _⟩
      · exact z d g
      · exact z z1
    · rw [hp_eq, hp_N] at z1
      have gB : ∃ n, gr_S (hx_A a_there a_froms a_tos a_weights) gr_T s n u (gr_wo M v) (w (7 * gr_wo M v + u)).toInt := by
        rcases hB with ⟨z, _⟩ | ⟨_, z, _⟩
        · exact absurd z z1
        · exact z
      obtain ⟨nn, gB⟩ := gB
      have n6 := gr_Sn6 (gr_oki gok) hs gB
      have bB := gr_Wb gok (gr_SW gB)
      unfold wY_through_125
      refine br_c (fun z2 => ?_) (fun z2 => ?_)
      · rw [hp_eq, hp_N] at z2
        refine k177 (same ?_) _ _
        rintro ⟨_, _, _, _, d, x, _, g⟩
        rcases hr with ⟨_, z⟩ | ⟨z, _⟩
        · exact z x g
        · exact z z2
      · rw [hp_eq, hp_N] at z2
        have gr : (hx_A a_there a_froms a_tos a_weights) u v r.toInt := by
          rcases hr with ⟨z, _⟩ | ⟨_, z, _⟩
          · exact absurd z z2
          · exact z
        have br := gok _ _ _ gr
        have es : (w (7 * gr_wo M v + u) + r).toInt = (w (7 * gr_wo M v + u)).toInt + r.toInt := hp_add rfl rfl (by omega) (by omega)
        have hsum := gr_mn2 hB hr z1 z2 (by omega)
        have ee : ∀ c, gr_PT (hx_A a_there a_froms a_tos a_weights) M s (7 * v + u + 1) v c ↔ gr_PT (hx_A a_there a_froms a_tos a_weights) M s (7 * v + u) v c ∨ (∃ d x, (∃ n, gr_S (hx_A a_there a_froms a_tos a_weights) gr_T s n u (gr_wo M v) d) ∧ (hx_A a_there a_froms a_tos a_weights) u v x ∧ c = d + x) := by
          intro c
          rw [gr_PTs hu]
          constructor
          · rintro (g | ⟨_, _, _, _, _, g⟩)
            · exact Or.inl g
            · exact Or.inr g
          · rintro (g | g)
            · exact Or.inl g
            · exact Or.inr ⟨rfl, c1, c2, c3, c4, g⟩
        have oth : ∀ y, y < 7 → y ≠ v → gr_mn (-3000) (gr_PT (hx_A a_there a_froms a_tos a_weights) M s (7 * v + u + 1) y) (w (7 * M + y)).toInt := by
          intro y hy hne
          refine gr_mnN (fun c => gr_PTs hu) (r2 y hy) ?_
          rintro c ⟨z, _⟩
          exact hne z
        have k173 : ((w (7 * M + v)).toInt = -3000 ∨ (w (7 * gr_wo M v + u)).toInt + r.toInt ≤ (w (7 * M + v)).toInt) → wY_through_173 post (wY_through_8 post (nI M) (nI s) f_top f_bottom f_ringPoints n) (nI M) (nI s) (nI (7 * v + u)) (nI v) (w (7 * gr_wo M v + u)) r f_top f_bottom f_ringPoints a_there a_froms a_tos a_weights a_walks w := by
          intro hh
          unfold wY_through_173 wY_through_178
          refine br_f (by decide) ?_
          rw [hp_ix', cM, nI_1]
          refine ⟨vM, nm_e (nm_e (hn _ ⟨fun m y hm hy => ?_, fun y hy => ?_⟩))⟩
          · rw [pk_un (by omega)]
            exact r1 m y hm hy
          · by_cases e : y = v
            · subst e
              rw [pk_us, es]
              exact gr_mnT ee (r2 y hy) hsum (by omega) hh
            · rw [pk_un (by omega)]
              exact oth y hy e
        rw [hp_ix', cM]
        refine ⟨vM, br_c (fun z3 => k173 (Or.inl ?_)) (fun z3 => ⟨vM, br_c (fun z4 => k177 (fun y hy => ?_) _ _) (fun z4 => k173 (Or.inr ?_))⟩)⟩
        · rw [hp_eq, hp_N] at z3
          exact z3
        · rw [hp_eq, hp_N] at z3
          rw [hp_le, es] at z4
          by_cases e : y = v
          · subst e
            exact gr_mnK ee (r2 y hy) hsum (Or.inr ⟨z3, z4⟩)
          · exact oth y hy e
        · rw [hp_le, es] at z4
          omega
end
section
/-! the reference: rings and divisor -/
theorem hx_mb {x y : Int} (hx : -1000 ≤ x ∧ x ≤ 1000) (hy : 0 ≤ y ∧ y ≤ 10) : -10000 ≤ x * y ∧ x * y ≤ 10000 := by
  have h1 : x * y ≤ 1000 * y := Int.mul_le_mul_of_nonneg_right hx.2 hy.1
  have h2 : -1000 * y ≤ x * y := Int.mul_le_mul_of_nonneg_right hx.1 hy.1
  omega
theorem hx_mul {a b : Int32} {x y : Int} (ha : a.toInt = x) (hb : b.toInt = y) (hx : -1000 ≤ x ∧ x ≤ 1000) (hy : 0 ≤ y ∧ y ≤ 10) : (a * b).toInt = x * y := by
  have := hx_mb hx hy
  exact hp_mul ha hb (by omega) (by omega)
section
variable {post : SY → Prop} {J60 : Int32 → Int32 → Int32 → Int32 → (Nat → Int32) → (Nat → Int32) → (Nat → Int32) → (Nat → Int32) → (Nat → Int32) → (Nat → Int32) → Prop} {J80 : Int32 → Int32 → Int32 → Int32 → Prop} {x1 x2 x6 : Int32} {v : Nat}
theorem hy_r0 {f_top f_bottom f_ringPoints : Int32} {a_there a_froms a_tos a_weights a_walks a_ways : Nat → Int32} (h : J80 (nI (v + 1)) f_top f_bottom f_ringPoints) : wY_rings_211 post J60 J80 x1 x2 (nI v) x6 0 f_top f_bottom f_ringPoints a_there a_froms a_tos a_weights a_walks a_ways := by
  unfold wY_rings_211 wY_rings_212
  refine br_t rfl (br_t rfl ?_)
  unfold wY_rings_242
  refine br_t rfl ?_
  unfold wY_rings_260
  refine br_t rfl ?_
  rw [nI_1]
  exact nm_e h
theorem hy_r1 {f_top f_bottom f_ringPoints : Int32} {a_there a_froms a_tos a_weights a_walks a_ways : Nat → Int32} (h : J80 (nI (v + 1)) f_top f_bottom (f_ringPoints ||| x1)) : wY_rings_212 post J60 J80 x1 x2 (nI v) x6 0 1 f_top f_bottom f_ringPoints a_there a_froms a_tos a_weights a_walks a_ways := by
  unfold wY_rings_212
  refine br_t rfl (br_f (by decide) ?_)
  unfold wY_rings_242
  refine br_t rfl ?_
  unfold wY_rings_260
  refine br_t rfl ?_
  rw [nI_1]
  exact nm_e h
theorem hy_rb {f_top f_bottom f_ringPoints : Int32} {a_there a_froms a_tos a_weights a_walks a_ways : Nat → Int32} {z0 : Int32} (h : J80 (nI (v + 1)) x6 x2 x1) : wY_rings_212 post J60 J80 x1 x2 (nI v) x6 1 z0 f_top f_bottom f_ringPoints a_there a_froms a_tos a_weights a_walks a_ways := by
  unfold wY_rings_212
  refine br_f (by decide) ?_
  unfold wY_rings_242
  refine br_f (by decide) ?_
  unfold wY_rings_260
  refine br_f (by decide) ?_
  rw [nI_1]
  exact nm_e h
end
theorem hy_rings {post : SY → Prop} {f_top f_bottom f_ringPoints : Int32} {a_there a_froms a_tos a_weights a_walks a_ways : Nat → Int32} (ok : hx_ok a_there a_froms a_tos a_weights) (h : ∀ (t b p : Int32) (w : Nat → Int32) (P : Nat), p = nI P → gr_rb (hx_A a_there a_froms a_tos a_weights) (7 * 128) t.toInt b.toInt P → post (t, b, p, a_there, a_froms, a_tos, a_weights, a_walks, w)) : wpY_rings post (f_top, f_bottom, f_ringPoints, a_there, a_froms, a_tos, a_weights, a_walks, a_ways) := by
  have gok := hx_grok ok
  have second : ∀ w0 : Nat → Int32, (∀ m v, m < 128 → v < 7 → (w0 (7 * m + v)).toInt = if m = 2 ^ v then 0 else -3000) → ∃ n, wY_rings_60 post n 1 (-3000) 1 0 a_there a_froms a_tos a_weights a_walks w0 := by
    intro w0 h0
    refine pk_loop (fun n i (z : Int32 × Int32 × Int32 × (Nat → Int32)) => wY_rings_60 post n (nI i) z.1 z.2.1 z.2.2.1 a_there a_froms a_tos a_weights a_walks z.2.2.2) (fun i z => 1 ≤ i ∧ gr_E5 (hx_A a_there a_froms a_tos a_weights) i (fun m v => (z.2.2.2 (7 * m + v)).toInt) ∧ ∃ P, z.2.2.1 = nI P ∧ gr_rb (hx_A a_there a_froms a_tos a_weights) (7 * i) z.1.toInt z.2.1.toInt P) 128 1 (-3000, 1, 0, w0) (by decide) ?_ ?_ ?_
    · refine ⟨Nat.le_refl 1, fun m v hm hv => ⟨fun hlt s hl => ?_, fun _ => h0 m v hm hv⟩, 0, rfl, Or.inl ⟨hp_N, hp_1, rfl, fun m v c hv hi g => ?_⟩⟩
      · have m0 : m = 0 := by omega
        subst m0
        have := hl.1
        rw [Nat.zero_testBit] at this
        exact absurd this (by decide)
      · have m0 : m = 0 := by omega
        subst m0
        obtain ⟨s, hl, _⟩ := g
        have := hl.1
        rw [Nat.zero_testBit] at this
        exact absurd this (by decide)
    · rintro n ⟨t, b, p, w⟩ ⟨_, _, P, hP, hr⟩
      exact br_t (nI_le (Nat.le_refl 128) (by decide)) (h t b p w P hP hr)
    · rintro n M ⟨t, b, p, w⟩ hM ⟨h1, h5, P, hP, hr⟩ hn
      dsimp only at h5 hP hr
      obtain ⟨s, hs, hl⟩ := hy_lo7 hM h1
      refine br_f (nI_ge (b := 128) hM (by decide)) ?_
      refine hy_through ok hM h1 h5 fun w' h5' => ?_
      dsimp only
      refine hy_ones hM ?_
      refine loop_0 (fun n' i (z : Int32 × Int32 × Int32) => wY_rings_80 post (wY_rings_60 post n) (nI M) (nI (gr_pc M)) a_there a_froms a_tos a_weights a_walks w' n' (nI i) z.1 z.2.1 z.2.2) (fun i z => ∃ P, z.2.2 = nI P ∧ gr_rb (hx_A a_there a_froms a_tos a_weights) (7 * M + i) z.1.toInt z.2.1.toInt P) 7 (t, b, p) ⟨P, hP, hr⟩ ?_ ?_
      · rintro n' ⟨t, b, p⟩ ⟨P, hP, hr⟩
        refine br_t (nI_le (Nat.le_refl 7) (by decide)) ?_
        rw [nI_1]
        exact nm_e (hn (t, b, p, w') ⟨by omega, h5', P, hP, hr⟩)
      · rintro n' v ⟨t, b, p⟩ hv ⟨P, hP, hr⟩ hn'
        dsimp only at hP hr
        subst hP
        have pc7 := gr_pc_le M
        have cM : (nI (7 * M + v)).toNatClampNeg = 7 * M + v := nI_clamp (by omega)
        have hw := (h5' M v hM hv).1 (by omega) s hl
        dsimp only at hw
        have eRC : ∀ c, gr_RC (hx_A a_there a_froms a_tos a_weights) M v c ↔ ∃ d x, (∃ n, gr_S (hx_A a_there a_froms a_tos a_weights) gr_T s n v M d) ∧ (hx_A a_there a_froms a_tos a_weights) v s x ∧ c = d + x := by
          intro c
          constructor
          · rintro ⟨s', hl', g⟩
            have e := gr_loU hl' hl
            subst e
            exact g
          · intro g
            exact ⟨s, hl, g⟩
        have none : (∀ c, ¬ gr_RC (hx_A a_there a_froms a_tos a_weights) M v c) → ∀ x6, wY_rings_170 post (wY_rings_60 post n) (wY_rings_80 post (wY_rings_60 post n) (nI M) (nI (gr_pc M)) a_there a_froms a_tos a_weights a_walks w' n') (nI M) (nI (gr_pc M)) (nI v) (-3000) x6 t b (nI P) a_there a_froms a_tos a_weights a_walks w' := by
          intro hh x6
          unfold wY_rings_170 wY_rings_171
          exact br_t rfl (hy_r0 (hn' (t, b, nI P) ⟨P, rfl, gr_rbN hv hr hh⟩))
        refine br_f (nI_ge (b := 7) hv (by decide)) ?_
        dsimp only
        rw [hp_ix', cM]
        refine ⟨vp_in_nI (by omega) (by decide), nm_e (br_c (fun z1 => ?_) (fun z1 => hy_lowest hM hs hl (hy_arc ok hv hs fun r hr2 => ?_)))⟩
        · rw [hp_eq, hp_N] at z1
          unfold wY_rings_123
          refine nm_e (br_t rfl (none (fun c g => ?_) _))
          obtain ⟨d, x, g, _⟩ := (eRC c).mp g
          rcases hw with ⟨_, z⟩ | ⟨z, _⟩
          · exact z d g
          · exact z z1
        · rw [hp_eq, hp_N] at z1
          have gB : ∃ n, gr_S (hx_A a_there a_froms a_tos a_weights) gr_T s n v M (w' (7 * M + v)).toInt := by
            rcases hw with ⟨z, _⟩ | ⟨_, z, _⟩
            · exact absurd z z1
            · exact z
          obtain ⟨nn, gB⟩ := gB
          have n6 := gr_Sn6 (gr_oki gok) hs gB
          have bB := gr_Wb gok (gr_SW gB)
          unfold wY_rings_123
          refine nm_e (br_c (fun z2 => ?_) (fun z2 => ?_))
          · subst z2
            refine none (fun c g => ?_) _
            obtain ⟨d, x, _, g, _⟩ := (eRC c).mp g
            rcases hr2 with ⟨_, z⟩ | ⟨z, _⟩
            · exact z x g
            · exact z hp_N
          · have z2' := z2
            rw [hp_eq, hp_N] at z2'
            have ga : (hx_A a_there a_froms a_tos a_weights) v s r.toInt := by
              rcases hr2 with ⟨z, _⟩ | ⟨_, z, _⟩
              · exact absurd z z2'
              · exact z
            have ba := gok _ _ _ ga
            have es : (w' (7 * M + v) + r).toInt = (w' (7 * M + v)).toInt + r.toInt := hp_add rfl rfl (by omega) (by omega)
            have hsum : gr_mn (-3000) (gr_RC (hx_A a_there a_froms a_tos a_weights) M v) (w' (7 * M + v) + r).toInt := by
              rw [es]
              exact gr_mnC eRC (gr_mn2 hw hr2 z1 z2' (by omega))
            have hRC : gr_RC (hx_A a_there a_froms a_tos a_weights) M v (w' (7 * M + v) + r).toInt ∧ ∀ c, gr_RC (hx_A a_there a_froms a_tos a_weights) M v c → (w' (7 * M + v) + r).toInt ≤ c := by
              rcases hsum with ⟨z, _⟩ | ⟨_, z⟩
              · rw [es] at z
                omega
              · exact z
            have better : (t.toInt = -3000 ∨ (w' (7 * M + v) + r).toInt * b.toInt < t.toInt * gr_pc M) → wY_rings_166 post (wY_rings_60 post n) (wY_rings_80 post (wY_rings_60 post n) (nI M) (nI (gr_pc M)) a_there a_froms a_tos a_weights a_walks w' n') (nI M) (nI (gr_pc M)) (nI v) r (w' (7 * M + v) + r) t b (nI P) a_there a_froms a_tos a_weights a_walks w' := by
              intro hh
              have go : wY_rings_80 post (wY_rings_60 post n) (nI M) (nI (gr_pc M)) a_there a_froms a_tos a_weights a_walks w' n' (nI (v + 1)) (w' (7 * M + v) + r) (nI (gr_pc M)) (nI M) := by
                refine hn' (w' (7 * M + v) + r, nI (gr_pc M), nI M) ⟨M, rfl, ?_⟩
                dsimp only
                rw [nI_toInt (by omega : gr_pc M < 2 ^ 31)]
                exact gr_rbB gok hv hr hRC.1 hRC.2 hh
              unfold wY_rings_166 wY_rings_171
              refine br_f z2 (br_c (fun _ => ?_) (fun _ => br_c (fun _ => hy_rb go) (fun _ => ?_)))
              · unfold wY_rings_211
                exact hy_rb go
              · unfold wY_rings_211
                exact hy_rb go
            refine br_c (fun z3 => better (Or.inl ?_)) (fun z3 => ?_)
            · rw [hp_eq, hp_N] at z3
              exact z3
            · have z3' := z3
              rw [hp_eq, hp_N] at z3'
              have rb : -140 ≤ t.toInt ∧ t.toInt ≤ 140 ∧ 1 ≤ b.toInt ∧ b.toInt ≤ 7 := by
                rcases hr with ⟨z, _⟩ | ⟨_, g1, g2, g3, g4, _⟩
                · exact absurd z z3'
                · exact ⟨g1, g2, g3, g4⟩
              have m1 : (w' (7 * M + v) + r).toInt = (w' (7 * M + v)).toInt + r.toInt := es
              have q1 : ((w' (7 * M + v) + r) * b).toInt = (w' (7 * M + v) + r).toInt * b.toInt := hx_mul rfl rfl (by omega) (by omega)
              have q2 : (t * nI (gr_pc M)).toInt = t.toInt * gr_pc M := hx_mul rfl (nI_toInt (by omega)) (by omega) (by omega)
              refine br_c (fun z4 => ?_) (fun z4 => better (Or.inr ?_))
              · rw [hp_le, q1, q2] at z4
                have z4' : ¬ (w' (7 * M + v) + r).toInt * b.toInt < t.toInt * gr_pc M := by omega
                unfold wY_rings_170 wY_rings_171
                refine br_f z2 (br_f z3 (br_c (fun z5 => ?_) (fun z5 => ?_)))
                · rw [hp_eq, q1, q2] at z5
                  refine hy_r1 ?_
                  rw [hp_or]
                  exact hn' (t, b, nI (P ||| M)) ⟨P ||| M, rfl, gr_rbK gok hv hr hRC.1 hRC.2 z3' z4' (Or.inl ⟨z5, rfl⟩)⟩
                · rw [hp_eq, q1, q2] at z5
                  exact hy_r0 (hn' (t, b, nI P) ⟨P, rfl, gr_rbK gok hv hr hRC.1 hRC.2 z3' z4' (Or.inr ⟨z5, rfl⟩)⟩)
              · rw [hp_le, q1, q2] at z4
                omega
  refine loop_0 (fun n i (w : Nat → Int32) => wY_rings_19 post (-3000) 1 0 n (nI i) a_there a_froms a_tos a_weights a_walks w) (fun i w => ∀ m v, v < 7 → 7 * m + v < i → (w (7 * m + v)).toInt = if m = 2 ^ v then 0 else -3000) 896 a_ways (fun m v _ hi => absurd hi (by omega)) ?_ ?_
  · intro n w hw
    exact br_t (nI_le (Nat.le_refl 896) (by decide)) (second w fun m v hm hv => hw m v hv (by omega))
  · intro n c w hc hw hn
    obtain ⟨m, v, rfl, hv, hm⟩ : ∃ m v, c = 7 * m + v ∧ v < 7 ∧ m < 128 := ⟨c / 7, c % 7, by omega, by omega, by omega⟩
    obtain ⟨e1, e2⟩ := hp_c7 (i := m) hv (by omega)
    have ck : (nI (7 * m + v)).toNatClampNeg = 7 * m + v := nI_clamp (by omega)
    have n7 : ¬ (7 : Int32) = 0 := by decide
    have vc : vp_in (nI (7 * m + v)) 896 := vp_in_nI (by omega) (by decide)
    have p128 := (gr_pc_pow v hv).2
    refine br_f (nI_ge (b := 896) hc (by decide)) ?_
    rw [e2, e1, hp_shl v (by omega), ck, nI_eq (by omega) (by omega), nI_1]
    refine ⟨n7, n7, br_c (fun z => ⟨vc, nm_e (nm_e (hn _ fun m' v' hv' hi => ?_))⟩) (fun z => ⟨vc, nm_e (nm_e (hn _ fun m' v' hv' hi => ?_))⟩)⟩
    · rw [hx_ut, hp_0]
      by_cases e : 7 * m' + v' = 7 * m + v
      · have f1 : m' = m := by omega
        have f2 : v' = v := by omega
        subst f1 f2
        rw [if_pos rfl, if_pos z]
      · rw [if_neg e]
        exact hw m' v' hv' (by omega)
    · rw [hx_ut, hp_N]
      by_cases e : 7 * m' + v' = 7 * m + v
      · have f1 : m' = m := by omega
        have f2 : v' = v := by omega
        subst f1 f2
        rw [if_pos rfl, if_neg z]
      · rw [if_neg e]
        exact hw m' v' hv' (by omega)
theorem hp_quo {a : Int32} {d : Nat} (hd : 1 ≤ d) (hd7 : d ≤ 7) : (a / nI d).toInt = a.toInt.tdiv d := by
  have e : nI d ≠ -1 := by
    intro z
    have := nI_toInt (n := d) (by omega)
    rw [z] at this
    have e1 : (-1 : Int32).toInt = -1 := by decide +kernel
    omega
  rw [Int32.toInt_div_of_ne_right _ _ e, nI_toInt (by omega)]
theorem hp_rem0 {a : Int32} {d : Nat} (hd : 1 ≤ d) (hd7 : d ≤ 7) (ha : -1000 ≤ a.toInt ∧ a.toInt ≤ 1000) : (a - a / nI d * nI d) = 0 ↔ (d : Int) ∣ a.toInt := by
  have k1 := Int.tdiv_mul_self a.toInt d
  have k2 := Int.tmod_lt_of_pos a.toInt (b := d) (by omega)
  have k3 := Int.lt_tmod_of_pos a.toInt (b := d) (by omega)
  have e1 : (a / nI d * nI d).toInt = a.toInt.tdiv d * d := hp_mul (hp_quo hd hd7) (nI_toInt (by omega)) (by omega) (by omega)
  have e2 : (a - a / nI d * nI d).toInt = a.toInt - a.toInt.tdiv d * d := hp_sub rfl e1 (by omega) (by omega)
  rw [hp_eq, e2, hp_0, Int.dvd_iff_tmod_eq_zero]
  omega
theorem hy_divisor {post : Int32 → Prop} {f_top f_bottom f_ringPoints : Int32} {a_there a_froms a_tos a_weights a_walks a_ways : Nat → Int32} (ht : -140 ≤ f_top.toInt ∧ f_top.toInt ≤ 140) (hb : 1 ≤ f_bottom.toInt ∧ f_bottom.toInt ≤ 7) (h : ∀ g : Nat, 1 ≤ g → g ≤ 7 → (g : Int) ∣ f_top.toInt → (g : Int) ∣ f_bottom.toInt → gr_nc (g + 1) f_top.toInt f_bottom.toInt → post (nI g)) : wpY_divisor post (f_top, f_bottom, f_ringPoints, a_there, a_froms, a_tos, a_weights, a_walks, a_ways) := by
  refine pk_loop (fun n i (r : Int32) => wY_divisor_4 post f_top f_bottom f_ringPoints a_there a_froms a_tos a_weights a_walks a_ways n r (nI i)) (fun i r => 2 ≤ i ∧ ∃ g : Nat, r = nI g ∧ 1 ≤ g ∧ g < i ∧ (g : Int) ∣ f_top.toInt ∧ (g : Int) ∣ f_bottom.toInt ∧ ∀ e : Nat, g < e → e < i → (e : Int) ∣ f_top.toInt → (e : Int) ∣ f_bottom.toInt → False) 8 2 1 (by decide) ⟨Nat.le_refl 2, 1, rfl, by decide, by decide, Int.one_dvd _, Int.one_dvd _, fun e h1 h2 => absurd h2 (by omega)⟩ ?_ ?_
  · rintro n r ⟨_, g, rfl, g1, g2, g3, g4, g5⟩
    refine br_t (nI_le (Nat.le_refl 8) (by decide)) (h g g1 (by omega) g3 g4 fun e e1 e2 e3 e4 => ?_)
    have ee : ((e.toNat : Nat) : Int) = e := by omega
    exact g5 e.toNat (by omega) (by omega) (by rw [ee]; exact e3) (by rw [ee]; exact e4)
  · rintro n i r hi ⟨i2, g, rfl, g1, g2, g3, g4, g5⟩ hn
    have n0 : ¬ nI i = 0 := nI_ne0 (by omega) (by omega)
    have keep : ¬ ((i : Int) ∣ f_top.toInt ∧ (i : Int) ∣ f_bottom.toInt) → wY_divisor_4 post f_top f_bottom f_ringPoints a_there a_froms a_tos a_weights a_walks a_ways n (nI g) (nI (i + 1)) := by
      intro hh
      refine hn _ ⟨by omega, g, rfl, g1, by omega, g3, g4, fun e h1 h2 h3 h4 => ?_⟩
      by_cases ei : e = i
      · subst ei
        exact hh ⟨h3, h4⟩
      · exact g5 e h1 (by omega) h3 h4
    refine br_f (nI_ge (b := 8) hi (by decide)) ?_
    rw [hp_rem0 (by omega) (by omega) (by omega), hp_rem0 (by omega) (by omega) (by omega), nI_1]
    refine ⟨n0, br_c (fun c1 => ⟨n0, br_c (fun c2 => br_c (fun c3 => ?_) (fun c3 => nm_e (hn _ ⟨by omega, i, rfl, by omega, by omega, c2, c1, fun e h1 h2 => absurd h2 (by omega)⟩))) (fun c2 => nm_e (keep fun z => c2 z.1))⟩) (fun c1 => nm_e (keep fun z => c1 z.2))⟩
    rw [nI_leI (by omega) (by omega)] at c3
    omega
end
section
/-! the component: levels and means -/
def hx_lv (A : Nat → Nat → Int → Prop) (S : Nat → Prop) (b : Nat → Int32) : Prop := ∀ l v, l < 8 → v < 7 → gr_mn 1000000 (gr_V A S l v) (b (7 * l + v)).toInt
theorem hx_higher {post : SX → Prop} {f_queueStart f_queueLength f_leastTop f_leastBottom : Int32} {a_arcThere a_arcFrom a_arcTo a_arcWeight a_table a_otherTable a_squared a_levels a_setCells a_onRingBelowZero a_queue a_queued a_arcsUsed : Nat → Int32} (ok : hx_ok a_arcThere a_arcFrom a_arcTo a_arcWeight) {S : Nat → Prop} (h0 : ∀ v, v < 7 → (S v ∧ (a_levels v).toInt = 0) ∨ (¬ S v ∧ (a_levels v).toInt = 1000000)) (h : ∀ b : Nat → Int32, hx_lv (hx_A a_arcThere a_arcFrom a_arcTo a_arcWeight) S b → post (f_queueStart, f_queueLength, f_leastTop, f_leastBottom, a_arcThere, a_arcFrom, a_arcTo, a_arcWeight, a_table, a_otherTable, a_squared, b, a_setCells, a_onRingBelowZero, a_queue, a_queued, a_arcsUsed)) : wpX_fillHigherLevels post (f_queueStart, f_queueLength, f_leastTop, f_leastBottom, a_arcThere, a_arcFrom, a_arcTo, a_arcWeight, a_table, a_otherTable, a_squared, a_levels, a_setCells, a_onRingBelowZero, a_queue, a_queued, a_arcsUsed) := by
  have gok := hx_grok ok
  have second : ∀ b0 : Nat → Int32, (∀ v, v < 7 → b0 v = a_levels v) → (∀ j, 7 ≤ j → j < 56 → (b0 j).toInt = 1000000) → ∃ n, wX_fillHigherLevels_25 post f_queueStart f_queueLength f_leastTop f_leastBottom n 1 a_arcThere a_arcFrom a_arcTo a_arcWeight a_table a_otherTable a_squared b0 a_setCells a_onRingBelowZero a_queue a_queued a_arcsUsed := by
    intro b0 hb1 hb2
    refine pk_loop (fun n i (b : Nat → Int32) => wX_fillHigherLevels_25 post f_queueStart f_queueLength f_leastTop f_leastBottom n (nI i) a_arcThere a_arcFrom a_arcTo a_arcWeight a_table a_otherTable a_squared b a_setCells a_onRingBelowZero a_queue a_queued a_arcsUsed) (fun i b => 1 ≤ i ∧ ∀ l v, l < 8 → v < 7 → gr_mn 1000000 (gr_PL (hx_K a_arcThere a_arcFrom a_arcTo a_arcWeight) S (20 * (i - 1)) l v) (b (7 * l + v)).toInt) 8 1 b0 (by decide) ⟨Nat.le_refl 1, fun l v hl hv => ?_⟩ ?_ ?_
    · cases l with
      | zero =>
        have e : 7 * 0 + v = v := by omega
        rw [e, hb1 v hv]
        rcases h0 v hv with ⟨g1, g2⟩ | ⟨g1, g2⟩
        · rw [g2]
          exact Or.inr ⟨by decide, ⟨g1, rfl⟩, fun c hc => by have := hc.2; omega⟩
        · rw [g2]
          exact Or.inl ⟨rfl, fun c hc => g1 hc.1⟩
      | succ l =>
        rw [hb2 _ (by omega) (by omega)]
        exact Or.inl ⟨rfl, fun c hc => gr_PL0 (by omega) hc⟩
    · rintro n b ⟨_, hb⟩
      refine br_t (nI_lt (a := 7) (b := 8) (by decide) (by decide)) (h b fun l v hl hv => ?_)
      exact gr_mnC (fun c => (gr_PLf (by omega)).symm) (hb l v hl hv)
    · rintro n i' b hi ⟨i1, hb⟩ hn
      obtain ⟨i, rfl⟩ : ∃ i, i' = i + 1 := ⟨i' - 1, by omega⟩
      have ei : i + 1 - 1 = i := by omega
      rw [ei] at hb
      refine br_f (nI_nlt (a := 7) (b := i + 1) (by omega) (by decide)) ?_
      refine loop_0 (fun n' j (b' : Nat → Int32) => wX_fillHigherLevels_33 post (wX_fillHigherLevels_25 post f_queueStart f_queueLength f_leastTop f_leastBottom n) (nI (i + 1)) f_queueStart f_queueLength f_leastTop f_leastBottom n' (nI j) a_arcThere a_arcFrom a_arcTo a_arcWeight a_table a_otherTable a_squared b' a_setCells a_onRingBelowZero a_queue a_queued a_arcsUsed) (fun j b' => ∀ l v, l < 8 → v < 7 → gr_mn 1000000 (gr_PL (hx_K a_arcThere a_arcFrom a_arcTo a_arcWeight) S (20 * i + j) l v) (b' (7 * l + v)).toInt) 20 b hb ?_ ?_
      · intro n' b' hb'
        refine br_t (nI_le (Nat.le_refl 20) (by decide)) ?_
        rw [nI_1]
        refine nm_e (hn b' ⟨by omega, ?_⟩)
        have e : 20 * (i + 1 + 1 - 1) = 20 * i + 20 := by omega
        rw [e]
        exact hb'
      · intro n' j b' hj hb' hn'
        obtain ⟨u, v, x, hu, hv, eu, ev, ew, hx1, hx2, hk0, hk1⟩ := hx_arc ok hj
        have ck : (nI j).toNatClampNeg = j := nI_clamp (by omega)
        have cu : (nI (7 * i + u)).toNatClampNeg = 7 * i + u := nI_clamp (by omega)
        have cv : (nI (7 * (i + 1) + v)).toNatClampNeg = 7 * (i + 1) + v := nI_clamp (by omega)
        have vj : vp_in (nI j) 20 := vp_in_nI hj (by decide)
        have vu : vp_in (nI (7 * i + u)) 56 := vp_in_nI (by omega) (by decide)
        have vv : vp_in (nI (7 * (i + 1) + v)) 56 := vp_in_nI (by omega) (by decide)
        have rV := gr_lvr gok (by omega) (hb' i u (by omega) hu)
        have rT := gr_lvr gok (by omega) (hb' (i + 1) v (by omega) hv)
        refine br_f (nI_ge (b := 20) hj (by decide)) ?_
        simp only [ck, eu, ev, nI_pred, hp_ix, cu, nI_1 j]
        refine ⟨vj, br_c (fun t0 => nm_e (hn' b' (gr_lev0 hj (hk0 t0) (z := fun l v => (b' (7 * l + v)).toInt) hb'))) (fun t0 => ⟨vj, vu, nm_e ⟨vj, nm_e ?_⟩⟩)⟩
        obtain ⟨kk, ha⟩ := hk1 t0
        have nop : ((b' (7 * i + u)).toInt = 1000000 ∨ ((b' (7 * (i + 1) + v)).toInt ≠ 1000000 ∧ (b' (7 * (i + 1) + v)).toInt ≤ (b' (7 * i + u)).toInt + x)) → wX_fillHigherLevels_33 post (wX_fillHigherLevels_25 post f_queueStart f_queueLength f_leastTop f_leastBottom n) (nI (i + 1)) f_queueStart f_queueLength f_leastTop f_leastBottom n' (nI (j + 1)) a_arcThere a_arcFrom a_arcTo a_arcWeight a_table a_otherTable a_squared b' a_setCells a_onRingBelowZero a_queue a_queued a_arcsUsed := by
          intro hh
          exact hn' b' (gr_lev1 hj (by omega) kk hu hv (z := fun l v => (b' (7 * l + v)).toInt) (z' := fun l v => (b' (7 * l + v)).toInt) hb' (fun _ _ _ _ _ => rfl) (fun hne => by omega) (Or.inr ⟨hh, rfl⟩))
        simp only [cv]
        refine br_c (fun c1 => nm_e (nop (Or.inl ?_))) (fun c1 => ⟨vj, vv, ?_⟩)
        · rw [hp_eq, hp_F] at c1
          exact c1
        rw [hp_eq, hp_F] at c1
        have es : (b' (7 * i + u) + a_arcWeight j).toInt = (b' (7 * i + u)).toInt + x := hp_add rfl ew (by omega) (by omega)
        refine br_c (fun c2 => nm_e (nop (Or.inr ?_))) (fun c2 => ⟨vj, vv, nm_e (nm_e (hn' _ (gr_lev1 hj (by omega) kk hu hv (z := fun l v => (b' (7 * l + v)).toInt) (z' := fun l y => (upd b' (7 * (i + 1) + v) (b' (7 * i + u) + a_arcWeight j) (7 * l + y)).toInt) hb' (fun l y hl hy hne => ?_) (fun hne => by omega) (Or.inl ⟨c1, Or.inr ?_, ?_⟩))))⟩)
        · rw [hp_le, es] at c2
          exact ⟨by omega, c2⟩
        · rw [pk_un (by omega)]
        · rw [hp_le, es] at c2
          omega
        · rw [pk_us, es]
  refine pk_loop (fun n i (b : Nat → Int32) => wX_fillHigherLevels_3 post f_queueStart f_queueLength f_leastTop f_leastBottom n (nI i) a_arcThere a_arcFrom a_arcTo a_arcWeight a_table a_otherTable a_squared b a_setCells a_onRingBelowZero a_queue a_queued a_arcsUsed) (fun i b => 7 ≤ i ∧ (∀ v, v < 7 → b v = a_levels v) ∧ ∀ j, 7 ≤ j → j < i → (b j).toInt = 1000000) 56 7 a_levels (by decide) ⟨Nat.le_refl 7, fun v _ => rfl, fun j h1 h2 => absurd h2 (by omega)⟩ ?_ ?_
  · rintro n b ⟨_, hb1, hb2⟩
    exact br_t (nI_le (Nat.le_refl 56) (by decide)) (second b hb1 hb2)
  · rintro n i b hi ⟨i7, hb1, hb2⟩ hn
    have ck : (nI i).toNatClampNeg = i := nI_clamp (by omega)
    refine br_f (nI_ge (b := 56) hi (by decide)) ?_
    rw [ck, nI_1]
    refine ⟨vp_in_nI hi (by decide), nm_e (nm_e (hn _ ⟨by omega, fun v hv => ?_, fun j h1 h2 => ?_⟩))⟩
    · rw [pk_un (by omega)]
      exact hb1 v hv
    · rw [hx_ut, hp_F]
      by_cases e : j = i
      · rw [if_pos e]
      · rw [if_neg e]
        exact hb2 j h1 (by omega)
theorem hx_levelsFrom {post : SX → Prop} {f_queueStart f_queueLength f_leastTop f_leastBottom : Int32} {a_arcThere a_arcFrom a_arcTo a_arcWeight a_table a_otherTable a_squared a_levels a_setCells a_onRingBelowZero a_queue a_queued a_arcsUsed : Nat → Int32} (ok : hx_ok a_arcThere a_arcFrom a_arcTo a_arcWeight) {s : Nat} (hs : s < 7) (h : ∀ b : Nat → Int32, hx_lv (hx_A a_arcThere a_arcFrom a_arcTo a_arcWeight) (fun s' => s' = s) b → post (f_queueStart, f_queueLength, f_leastTop, f_leastBottom, a_arcThere, a_arcFrom, a_arcTo, a_arcWeight, a_table, a_otherTable, a_squared, b, a_setCells, a_onRingBelowZero, a_queue, a_queued, a_arcsUsed)) : wpX_fillLevelsFrom post (f_queueStart, f_queueLength, f_leastTop, f_leastBottom, a_arcThere, a_arcFrom, a_arcTo, a_arcWeight, a_table, a_otherTable, a_squared, a_levels, a_setCells, a_onRingBelowZero, a_queue, a_queued, a_arcsUsed) (nI s) := by
  refine loop_0 (fun n i (b : Nat → Int32) => wX_fillLevelsFrom_2 post (nI s) f_queueStart f_queueLength f_leastTop f_leastBottom n (nI i) a_arcThere a_arcFrom a_arcTo a_arcWeight a_table a_otherTable a_squared b a_setCells a_onRingBelowZero a_queue a_queued a_arcsUsed) (fun i b => ∀ j, j < i → (b j).toInt = 1000000) 7 a_levels (fun j hj => absurd hj (by omega)) ?_ ?_
  · intro n b hb
    have ck : (nI s).toNatClampNeg = s := nI_clamp (by omega)
    refine br_t (nI_le (Nat.le_refl 7) (by decide)) ?_
    rw [ck]
    refine ⟨vp_in_nI (by omega) (by decide), nm_e (hx_higher ok (S := fun s' => s' = s) (fun v hv => ?_) fun b' hb' => h b' hb')⟩
    rw [hx_ut, hp_0]
    by_cases e : v = s
    · exact Or.inl ⟨e, if_pos e⟩
    · rw [if_neg e]
      exact Or.inr ⟨e, hb v hv⟩
  · intro n i b hi hb hn
    have ck : (nI i).toNatClampNeg = i := nI_clamp (by omega)
    refine br_f (nI_ge (b := 7) hi (by decide)) ?_
    rw [ck, nI_1]
    refine ⟨vp_in_nI (by omega) (by decide), nm_e (nm_e (hn _ fun j hj => ?_))⟩
    rw [hx_ut, hp_F]
    by_cases e : j = i
    · rw [if_pos e]
    · rw [if_neg e]
      exact hb j (by omega)
theorem hx_levelsAny {post : SX → Prop} {f_queueStart f_queueLength f_leastTop f_leastBottom : Int32} {a_arcThere a_arcFrom a_arcTo a_arcWeight a_table a_otherTable a_squared a_levels a_setCells a_onRingBelowZero a_queue a_queued a_arcsUsed : Nat → Int32} (ok : hx_ok a_arcThere a_arcFrom a_arcTo a_arcWeight) (h : ∀ b : Nat → Int32, hx_lv (hx_A a_arcThere a_arcFrom a_arcTo a_arcWeight) (fun s' => s' < 7) b → post (f_queueStart, f_queueLength, f_leastTop, f_leastBottom, a_arcThere, a_arcFrom, a_arcTo, a_arcWeight, a_table, a_otherTable, a_squared, b, a_setCells, a_onRingBelowZero, a_queue, a_queued, a_arcsUsed)) : wpX_fillLevelsFromAnywhere post (f_queueStart, f_queueLength, f_leastTop, f_leastBottom, a_arcThere, a_arcFrom, a_arcTo, a_arcWeight, a_table, a_otherTable, a_squared, a_levels, a_setCells, a_onRingBelowZero, a_queue, a_queued, a_arcsUsed) := by
  refine loop_0 (fun n i (b : Nat → Int32) => wX_fillLevelsFromAnywhere_2 post f_queueStart f_queueLength f_leastTop f_leastBottom n (nI i) a_arcThere a_arcFrom a_arcTo a_arcWeight a_table a_otherTable a_squared b a_setCells a_onRingBelowZero a_queue a_queued a_arcsUsed) (fun i b => ∀ j, j < i → (b j).toInt = 0) 7 a_levels (fun j hj => absurd hj (by omega)) ?_ ?_
  · intro n b hb
    refine br_t (nI_le (Nat.le_refl 7) (by decide)) ?_
    exact hx_higher ok (S := fun s' => s' < 7) (fun v hv => Or.inl ⟨hv, hb v hv⟩) fun b' hb' => h b' hb'
  · intro n i b hi hb hn
    have ck : (nI i).toNatClampNeg = i := nI_clamp (by omega)
    refine br_f (nI_ge (b := 7) hi (by decide)) ?_
    rw [ck, nI_1]
    refine ⟨vp_in_nI (by omega) (by decide), nm_e (nm_e (hn _ fun j hj => ?_))⟩
    rw [hx_ut, hp_0]
    by_cases e : j = i
    · rw [if_pos e]
    · rw [if_neg e]
      exact hb j (by omega)
def hx_or (Of : Int → Int → Prop) : Prop := ∀ t b, Of t b → -1000 ≤ t ∧ t ≤ 1000 ∧ 1 ≤ b ∧ b ≤ 7
theorem hx_bstr {Of : Int → Int → Prop} {t b : Int} (hr : hx_or Of) (h : gr_bst Of t b) : -1000 ≤ t ∧ t ≤ 1000 ∧ 0 ≤ b ∧ b ≤ 7 := by
  rcases h with ⟨h1, h2, _⟩ | ⟨h1, h2, _⟩
  · omega
  · have := hr _ _ h2
    omega
theorem hx_offer {post : SX → Prop} {f_queueStart f_queueLength f_leastTop f_leastBottom : Int32} {a_arcThere a_arcFrom a_arcTo a_arcWeight a_table a_otherTable a_squared a_levels a_setCells a_onRingBelowZero a_queue a_queued a_arcsUsed : Nat → Int32} {Of : Int → Int → Prop} {t1 b1 : Int32} (hr : hx_or Of) (hb : gr_bst Of f_leastTop.toInt f_leastBottom.toInt) (ht : -1000 ≤ t1.toInt ∧ t1.toInt ≤ 1000) (hb1 : 1 ≤ b1.toInt ∧ b1.toInt ≤ 7) (h : ∀ t b : Int32, gr_bst (fun t b => Of t b ∨ (t = t1.toInt ∧ b = b1.toInt)) t.toInt b.toInt → post (f_queueStart, f_queueLength, t, b, a_arcThere, a_arcFrom, a_arcTo, a_arcWeight, a_table, a_otherTable, a_squared, a_levels, a_setCells, a_onRingBelowZero, a_queue, a_queued, a_arcsUsed)) : wpX_offerMean post (f_queueStart, f_queueLength, f_leastTop, f_leastBottom, a_arcThere, a_arcFrom, a_arcTo, a_arcWeight, a_table, a_otherTable, a_squared, a_levels, a_setCells, a_onRingBelowZero, a_queue, a_queued, a_arcsUsed) t1 b1 := by
  have r := hx_bstr hr hb
  have q1 : (f_leastTop * b1).toInt = f_leastTop.toInt * b1.toInt := hx_mul rfl rfl (by omega) (by omega)
  have q2 : (t1 * f_leastBottom).toInt = t1.toInt * f_leastBottom.toInt := hx_mul rfl rfl (by omega) (by omega)
  have hp : ∀ t b, Of t b → 1 ≤ b := fun t b o => (hr t b o).2.2.1
  refine br_c (fun c => h t1 b1 (gr_bstT hp (fun _ _ => Iff.rfl) hb hb1.1 (Or.inl ?_))) (fun c => br_c (fun c2 => h _ _ (gr_bstK (fun _ _ => Iff.rfl) hb ?_)) (fun c2 => h t1 b1 (gr_bstT hp (fun _ _ => Iff.rfl) hb hb1.1 (Or.inr ?_))))
  · rw [c, hp_0]
  · rw [hp_eq, hp_0] at c
    rw [hp_le, q1, q2] at c2
    omega
  · rw [hp_le, q1, q2] at c2
    omega
end
section
/-! the component: the least mean -/
theorem hx_lvall {A : Nat → Nat → Int → Prop} (ok : gr_ok A) {b : Nat → Int32} (h : hx_lv A (fun s => s < 7) b) {v : Nat} (hv : v < 7) (h7 : (b (7 * 7 + v)).toInt ≠ 1000000) : ∀ k, k ≤ 7 → (b (7 * k + v)).toInt ≠ 1000000 ∧ -140 ≤ (b (7 * k + v)).toInt ∧ (b (7 * k + v)).toInt ≤ 140 := by
  intro k hk
  rcases h 7 v (by decide) hv with ⟨z, _⟩ | ⟨_, ⟨s, hs, g⟩, _⟩
  · exact absurd z h7
  · have w2 : (7 - k) + k = 7 := by omega
    rw [← w2] at g
    obtain ⟨y, c1, c2, g1, g2, _⟩ := gr_cut g
    have hy := gr_Wv (gr_oki ok) hs g1
    rcases h k v (by omega) hv with ⟨_, z⟩ | ⟨z, z2, _⟩
    · exact absurd ⟨y, hy, g2⟩ (z c2)
    · have := gr_Vb ok z2
      exact ⟨z, by omega, by omega⟩
theorem hx_growth {post : SX → Prop} {f_queueStart f_queueLength f_leastTop f_leastBottom : Int32} {a_arcThere a_arcFrom a_arcTo a_arcWeight a_table a_otherTable a_squared a_levels a_setCells a_onRingBelowZero a_queue a_queued a_arcsUsed : Nat → Int32} (ok : hx_ok a_arcThere a_arcFrom a_arcTo a_arcWeight) {p : Nat} (hp : p < 7) (hlv : hx_lv (hx_A a_arcThere a_arcFrom a_arcTo a_arcWeight) (fun s => s < 7) a_levels) (h7 : (a_levels (7 * 7 + p)).toInt ≠ 1000000) {Of : Int → Int → Prop} (hr : hx_or Of) (hb : gr_bst Of f_leastTop.toInt f_leastBottom.toInt) (h : ∀ (t1 b1 : Int) (t b : Int32), (∃ k : Nat, k ≤ 6 ∧ t1 = (a_levels (7 * 7 + p)).toInt - (a_levels (7 * k + p)).toInt ∧ b1 = 7 - k) → (∀ k : Nat, k ≤ 6 → ((a_levels (7 * 7 + p)).toInt - (a_levels (7 * k + p)).toInt) * b1 ≤ t1 * (7 - k)) → gr_bst (fun t b => Of t b ∨ (t = t1 ∧ b = b1)) t.toInt b.toInt → post (f_queueStart, f_queueLength, t, b, a_arcThere, a_arcFrom, a_arcTo, a_arcWeight, a_table, a_otherTable, a_squared, a_levels, a_setCells, a_onRingBelowZero, a_queue, a_queued, a_arcsUsed)) : wpX_offerGreatestGrowth post (f_queueStart, f_queueLength, f_leastTop, f_leastBottom, a_arcThere, a_arcFrom, a_arcTo, a_arcWeight, a_table, a_otherTable, a_squared, a_levels, a_setCells, a_onRingBelowZero, a_queue, a_queued, a_arcsUsed) (nI p) (a_levels (7 * 7 + p)) := by
  have gok := hx_grok ok
  have all := hx_lvall gok hlv hp h7
  have a7 := all 7 (by decide)
  have ck : (nI p).toNatClampNeg = p := nI_clamp (by omega)
  have z0 : 7 * 0 + p = p := by omega
  have sub : ∀ k, k ≤ 7 → (a_levels (7 * 7 + p) - a_levels (7 * k + p)).toInt = (a_levels (7 * 7 + p)).toInt - (a_levels (7 * k + p)).toInt := by
    intro k hk
    have := all k hk
    exact hp_sub rfl rfl (by omega) (by omega)
  have e7 : ∀ i, i ≤ 7 → (7 : Int32) - nI i = nI (7 - i) := fun i hi => pk_sub (a := 7) hi
  unfold wpX_offerGreatestGrowth
  dsimp only
  rw [ck]
  refine ⟨vp_in_nI (by omega) (by decide), nm_e ?_⟩
  refine pk_loop (fun n i (z : Int32 × Int32) => wX_offerGreatestGrowth_16 post (nI p) (a_levels (7 * 7 + p)) f_queueStart f_queueLength f_leastTop f_leastBottom a_arcThere a_arcFrom a_arcTo a_arcWeight a_table a_otherTable a_squared a_levels a_setCells a_onRingBelowZero a_queue a_queued a_arcsUsed n z.1 z.2 (nI i)) (fun i z => 1 ≤ i ∧ (∃ k : Nat, k ≤ 6 ∧ z.1.toInt = (a_levels (7 * 7 + p)).toInt - (a_levels (7 * k + p)).toInt ∧ z.2.toInt = 7 - k) ∧ ∀ k : Nat, k < i → ((a_levels (7 * 7 + p)).toInt - (a_levels (7 * k + p)).toInt) * z.2.toInt ≤ z.1.toInt * (7 - k)) 7 1 (a_levels (7 * 7 + p) - a_levels p, 7) (by decide) ?_ ?_ ?_
  · have s0 := sub 0 (by decide)
    rw [z0] at s0
    refine ⟨Nat.le_refl 1, ⟨0, by decide, by dsimp only; rw [s0, z0], ?_⟩, fun k hk => ?_⟩
    · dsimp only
      rw [hp_7]
      rfl
    · have k0 : k = 0 := by omega
      subst k0
      dsimp only
      rw [s0, z0, hp_7]
      exact Int.le_refl _
  · rintro n ⟨t, b⟩ ⟨_, g1, g2⟩
    dsimp only at g1 g2
    have g1' := g1
    obtain ⟨k, hk, e1, e2⟩ := g1'
    have ak := all k (by omega)
    refine br_t (nI_le (Nat.le_refl 7) (by decide)) ?_
    exact hx_offer (t1 := t) (b1 := b) hr hb (by omega) (by omega) fun t' b' hb' => h _ _ t' b' g1 (fun k hk => g2 k (by omega)) hb'
  · rintro n i ⟨t, b⟩ hi ⟨i1, g1, g2⟩ hn
    dsimp only at g1 g2
    have g1' := g1
    obtain ⟨k, hk, e1, e2⟩ := g1'
    have ak := all k (by omega)
    have ai := all i (by omega)
    have ci : (nI (7 * i + p)).toNatClampNeg = 7 * i + p := nI_clamp (by omega)
    have si := sub i (by omega)
    have n7 : (nI (7 - i)).toInt = 7 - (i : Int) := by
      rw [nI_toInt (by omega)]
      omega
    have q1 : ((a_levels (7 * 7 + p) - a_levels (7 * i + p)) * b).toInt = ((a_levels (7 * 7 + p)).toInt - (a_levels (7 * i + p)).toInt) * b.toInt := hx_mul si rfl (by omega) (by omega)
    have q2 : (t * nI (7 - i)).toInt = t.toInt * (7 - (i : Int)) := hx_mul rfl n7 (by omega) (by omega)
    refine br_f (nI_ge (b := 7) hi (by decide)) ?_
    dsimp only
    rw [hp_ix, ci, e7 i (by omega), nI_1]
    refine ⟨vp_in_nI (by omega) (by decide), nm_e (br_c (fun c => nm_e (hn (t, b) ⟨by omega, g1, fun k' hk' => ?_⟩)) (fun c => nm_e (nm_e (hn (a_levels (7 * 7 + p) - a_levels (7 * i + p), nI (7 - i)) ⟨by omega, ⟨i, by omega, si, n7⟩, fun k' hk' => ?_⟩))))⟩
    · rw [hp_le, q1, q2] at c
      by_cases e : k' = i
      · subst e
        exact c
      · exact g2 k' (by omega)
    · rw [hp_le, q1, q2] at c
      dsimp only
      rw [si, n7]
      by_cases e : k' = i
      · subst e
        exact Int.le_refl _
      · exact gr_crl (b2 := b.toInt) (by omega) (by omega) (by omega) (g2 k' (by omega)) (Int.le_of_lt (by omega))
/-- what both mean engines leave -/
def hx_mres (A : Nat → Nat → Int → Prop) (t b : Int) : Prop := -1000 ≤ t ∧ t ≤ 1000 ∧ ((∀ s m n c, ¬ gr_Rg A s m n c) → t = 0 ∧ b = 0) ∧ (∀ p q, gr_Mean A p q → 1 ≤ b ∧ b ≤ 7 ∧ t * q = p * b) ∧ 0 ≤ b ∧ b ≤ 7
theorem hx_byLevels {post : SX → Prop} {f_queueStart f_queueLength : Int32} {a_arcThere a_arcFrom a_arcTo a_arcWeight a_table a_otherTable a_squared a_levels a_setCells a_onRingBelowZero a_queue a_queued a_arcsUsed : Nat → Int32} (ok : hx_ok a_arcThere a_arcFrom a_arcTo a_arcWeight) (h : ∀ (t b : Int32) (lv : Nat → Int32), hx_mres (hx_A a_arcThere a_arcFrom a_arcTo a_arcWeight) t.toInt b.toInt → post (f_queueStart, f_queueLength, t, b, a_arcThere, a_arcFrom, a_arcTo, a_arcWeight, a_table, a_otherTable, a_squared, lv, a_setCells, a_onRingBelowZero, a_queue, a_queued, a_arcsUsed)) : wpX_findMeanByLevels post (f_queueStart, f_queueLength, 0, 0, a_arcThere, a_arcFrom, a_arcTo, a_arcWeight, a_table, a_otherTable, a_squared, a_levels, a_setCells, a_onRingBelowZero, a_queue, a_queued, a_arcsUsed) := by
  have gok := hx_grok ok
  unfold wpX_findMeanByLevels
  refine hx_levelsAny ok fun lv hlv => ?_
  refine loop_0 (fun n i (z : Int32 × Int32) => wX_findMeanByLevels_6 post n (nI i) f_queueStart f_queueLength z.1 z.2 a_arcThere a_arcFrom a_arcTo a_arcWeight a_table a_otherTable a_squared lv a_setCells a_onRingBelowZero a_queue a_queued a_arcsUsed) (fun i z => ∃ Of, hx_or Of ∧ gr_bst Of z.1.toInt z.2.toInt ∧ (∀ t b, Of t b → gr_O0 (fun l v => (lv (7 * l + v)).toInt) t b) ∧ ∀ v, v < i → (lv (7 * 7 + v)).toInt ≠ 1000000 → ∃ t b, Of t b ∧ ∃ k : Nat, k ≤ 6 ∧ t = (lv (7 * 7 + v)).toInt - (lv (7 * k + v)).toInt ∧ b = 7 - k) 7 (0, 0) ?_ ?_ ?_
  · exact ⟨fun _ _ => False, fun _ _ z => z.elim, Or.inl ⟨hp_0, hp_0, fun _ _ z => z⟩, fun _ _ z => z.elim, fun v hv => absurd hv (by omega)⟩
  · rintro n ⟨t, b⟩ ⟨Of, o1, o2, o3, o4⟩
    dsimp only at o2
    refine br_t (nI_le (Nat.le_refl 7) (by decide)) (h t b lv ⟨?_, ?_, fun nr => ?_, fun p q hm => ?_, (hx_bstr o1 o2).2.2.1, (hx_bstr o1 o2).2.2.2⟩)
    · exact (hx_bstr o1 o2).1
    · exact (hx_bstr o1 o2).2.1
    · rcases o2 with ⟨z1, z2, _⟩ | ⟨_, z, _⟩
      · exact ⟨z2, z1⟩
      · obtain ⟨v, hv, hf, _⟩ := o3 _ _ z
        rcases hlv 7 v (by decide) hv with ⟨z, _⟩ | ⟨_, ⟨s, hs, g⟩, _⟩
        · exact absurd z hf
        · exact absurd g (gr_no7 gok nr hs)
    · exact gr_O0m gok hm (D := fun l v => (lv (7 * l + v)).toInt) hlv o2 o3 (fun v hv h7 => o4 v hv h7)
  · rintro n p ⟨t, b⟩ hp ⟨Of, o1, o2, o3, o4⟩ hn
    dsimp only at o2
    have e49 : (49 : Int32) + nI p = nI (49 + p) := by rw [show (49 : Int32) = nI 49 from rfl, nI_add]
    have ck : (nI (49 + p)).toNatClampNeg = 7 * 7 + p := nI_clamp (by omega)
    refine br_f (nI_ge (b := 7) hp (by decide)) ?_
    dsimp only
    rw [e49, ck, nI_1]
    refine ⟨vp_in_nI (by omega) (by decide), nm_e (br_c (fun c => nm_e (hn (t, b) ⟨Of, o1, o2, o3, fun v hv h7 => ?_⟩)) (fun c => ?_))⟩
    · rw [hp_eq, hp_F] at c
      by_cases e : v = p
      · subst e
        exact absurd c h7
      · exact o4 v (by omega) h7
    · rw [hp_eq, hp_F] at c
      have all := hx_lvall gok hlv hp c
      have a7 := all 7 (by decide)
      refine hx_growth ok hp hlv c o1 o2 fun t1 b1 t' b' g1 g2 g3 => ?_
      dsimp only
      refine nm_e (hn (t', b') ⟨_, fun t b o => ?_, g3, fun t b o => ?_, fun v hv h7 => ?_⟩)
      · rcases o with o | ⟨rfl, rfl⟩
        · exact o1 t b o
        · obtain ⟨k, hk, e1, e2⟩ := g1
          have ak := all k (by omega)
          omega
      · rcases o with o | ⟨rfl, rfl⟩
        · exact o3 t b o
        · exact ⟨p, hp, c, g1, g2⟩
      · by_cases e : v = p
        · subst e
          exact ⟨t1, b1, Or.inr ⟨rfl, rfl⟩, g1⟩
        · obtain ⟨t2, b2, q1, q2⟩ := o4 v (by omega) h7
          exact ⟨t2, b2, Or.inl q1, q2⟩
theorem hx_byClosed {post : SX → Prop} {f_queueStart f_queueLength : Int32} {a_arcThere a_arcFrom a_arcTo a_arcWeight a_table a_otherTable a_squared a_levels a_setCells a_onRingBelowZero a_queue a_queued a_arcsUsed : Nat → Int32} (ok : hx_ok a_arcThere a_arcFrom a_arcTo a_arcWeight) (h : ∀ (t b : Int32) (lv : Nat → Int32), hx_mres (hx_A a_arcThere a_arcFrom a_arcTo a_arcWeight) t.toInt b.toInt → post (f_queueStart, f_queueLength, t, b, a_arcThere, a_arcFrom, a_arcTo, a_arcWeight, a_table, a_otherTable, a_squared, lv, a_setCells, a_onRingBelowZero, a_queue, a_queued, a_arcsUsed)) : wpX_findMeanByClosedWalks post (f_queueStart, f_queueLength, 0, 0, a_arcThere, a_arcFrom, a_arcTo, a_arcWeight, a_table, a_otherTable, a_squared, a_levels, a_setCells, a_onRingBelowZero, a_queue, a_queued, a_arcsUsed) := by
  have gok := hx_grok ok
  refine loop_0 (fun n i (z : Int32 × Int32 × (Nat → Int32)) => wX_findMeanByClosedWalks_2 post n (nI i) f_queueStart f_queueLength z.1 z.2.1 a_arcThere a_arcFrom a_arcTo a_arcWeight a_table a_otherTable a_squared z.2.2 a_setCells a_onRingBelowZero a_queue a_queued a_arcsUsed) (fun i z => ∃ Of, hx_or Of ∧ gr_bst Of z.1.toInt z.2.1.toInt ∧ (∀ t b, Of t b → gr_O1 (hx_A a_arcThere a_arcFrom a_arcTo a_arcWeight) t b) ∧ ∀ v m c, v < i → 1 ≤ m → m ≤ 7 → gr_W (hx_A a_arcThere a_arcFrom a_arcTo a_arcWeight) m v v c → ∃ d, Of d (m : Int) ∧ d ≤ c) 7 (0, 0, a_levels) ?_ ?_ ?_
  · exact ⟨fun _ _ => False, fun _ _ z => z.elim, Or.inl ⟨hp_0, hp_0, fun _ _ z => z⟩, fun _ _ z => z.elim, fun v m c hv => absurd hv (by omega)⟩
  · rintro n ⟨t, b, lv⟩ ⟨Of, o1, o2, o3, o4⟩
    dsimp only at o2
    refine br_t (nI_le (Nat.le_refl 7) (by decide)) (h t b lv ⟨?_, ?_, fun nr => ?_, fun p q hm => ?_, (hx_bstr o1 o2).2.2.1, (hx_bstr o1 o2).2.2.2⟩)
    · exact (hx_bstr o1 o2).1
    · exact (hx_bstr o1 o2).2.1
    · rcases o2 with ⟨z1, z2, _⟩ | ⟨_, z, _⟩
      · exact ⟨z2, z1⟩
      · obtain ⟨v, m, hv, m1, m7, _, g, _⟩ := o3 _ _ z
        exact absurd g (gr_noc nr m1)
    · exact gr_O1m gok hm o2 o3 (fun v m c hv m1 m7 g => o4 v m c hv m1 m7 g)
  · rintro n p ⟨t, b, lv0⟩ hp ⟨Of, o1, o2, o3, o4⟩ hn
    dsimp only at o2
    refine br_f (nI_ge (b := 7) hp (by decide)) ?_
    refine hx_levelsFrom ok hp fun lv hlv => ?_
    refine pk_loop (fun n' i (z : Int32 × Int32) => wX_findMeanByClosedWalks_15 post (wX_findMeanByClosedWalks_2 post n) (nI p) n' (nI i) f_queueStart f_queueLength z.1 z.2 a_arcThere a_arcFrom a_arcTo a_arcWeight a_table a_otherTable a_squared lv a_setCells a_onRingBelowZero a_queue a_queued a_arcsUsed) (fun i z => 1 ≤ i ∧ ∃ Of, hx_or Of ∧ gr_bst Of z.1.toInt z.2.toInt ∧ (∀ t b, Of t b → gr_O1 (hx_A a_arcThere a_arcFrom a_arcTo a_arcWeight) t b) ∧ ∀ v m c, (v < p ∨ (v = p ∧ m < i)) → 1 ≤ m → m ≤ 7 → gr_W (hx_A a_arcThere a_arcFrom a_arcTo a_arcWeight) m v v c → ∃ d, Of d (m : Int) ∧ d ≤ c) 8 1 (t, b) (by decide) ⟨Nat.le_refl 1, Of, o1, o2, o3, fun v m c hv m1 m7 g => o4 v m c (by omega) m1 m7 g⟩ ?_ ?_
    · rintro n' ⟨t, b⟩ ⟨_, Of, o1, o2, o3, o4⟩
      refine br_t (nI_lt (a := 7) (b := 8) (by decide) (by decide)) ?_
      rw [nI_1]
      exact nm_e (hn (t, b, lv) ⟨Of, o1, o2, o3, fun v m c hv m1 m7 g => o4 v m c (by omega) m1 m7 g⟩)
    · rintro n' m ⟨t, b⟩ hm ⟨m1, Of, o1, o2, o3, o4⟩ hn'
      dsimp only at o2
      have ck : (nI (7 * m + p)).toNatClampNeg = 7 * m + p := nI_clamp (by omega)
      have hz : gr_mn 1000000 (gr_W (hx_A a_arcThere a_arcFrom a_arcTo a_arcWeight) m p p) (lv (7 * m + p)).toInt := gr_mnC (fun c => gr_V1.symm) (hlv m p (by omega) hp)
      refine br_f (nI_nlt (a := 7) (b := m) (by omega) (by decide)) ?_
      dsimp only
      rw [hp_ix, ck, nI_1]
      refine ⟨vp_in_nI (by omega) (by decide), nm_e (br_c (fun c => nm_e (hn' (t, b) ⟨by omega, Of, o1, o2, o3, fun v k d hv k1 k7 g => ?_⟩)) (fun c => ?_))⟩
      · rw [hp_eq, hp_F] at c
        by_cases e : v = p ∧ k = m
        · obtain ⟨rfl, rfl⟩ := e
          rcases hz with ⟨_, z⟩ | ⟨z, _⟩
          · exact absurd g (z d)
          · exact absurd c z
        · exact o4 v k d (by omega) k1 k7 g
      · rw [hp_eq, hp_F] at c
        have hz' : gr_W (hx_A a_arcThere a_arcFrom a_arcTo a_arcWeight) m p p (lv (7 * m + p)).toInt ∧ ∀ d, gr_W (hx_A a_arcThere a_arcFrom a_arcTo a_arcWeight) m p p d → (lv (7 * m + p)).toInt ≤ d := by
          rcases hz with ⟨z, _⟩ | ⟨_, z⟩
          · exact absurd z c
          · exact z
        have bz := gr_Wb gok hz'.1
        have nm : (nI m).toInt = (m : Int) := nI_toInt (by omega)
        refine hx_offer o1 o2 (by omega) (by omega) fun t' b' hb' => ?_
        dsimp only
        rw [nm] at hb'
        refine nm_e (hn' (t', b') ⟨by omega, _, fun t b o => ?_, hb', fun t b o => ?_, fun v k d hv k1 k7 g => ?_⟩)
        · rcases o with o | ⟨rfl, rfl⟩
          · exact o1 t b o
          · omega
        · rcases o with o | ⟨rfl, rfl⟩
          · exact o3 t b o
          · exact ⟨p, m, hp, m1, by omega, rfl, hz'.1, hz'.2⟩
        · by_cases e : v = p ∧ k = m
          · obtain ⟨rfl, rfl⟩ := e
            exact ⟨_, Or.inr ⟨rfl, rfl⟩, hz'.2 d g⟩
          · obtain ⟨d', q1, q2⟩ := o4 v k d (by omega) k1 k7 g
            exact ⟨d', Or.inl q1, q2⟩
theorem hx_dv {d x : Int} (hd : 1 ≤ d) (h : -1000 ≤ d * x ∧ d * x ≤ 1000) : -1000 ≤ x ∧ x ≤ 1000 := by
  by_cases c : 0 ≤ x
  · have := Int.mul_le_mul_of_nonneg_right hd c
    omega
  · have := Int.mul_le_mul_of_nonneg_right hd (by omega : 0 ≤ -x)
    rw [Int.mul_neg, Int.mul_neg] at this
    omega
theorem hx_dv2 {d x : Int} (hd : 1 ≤ d) (h : 0 ≤ d * x ∧ d * x ≤ 7) : 0 ≤ x ∧ x ≤ 7 := by
  by_cases c : 0 ≤ x
  · have := Int.mul_le_mul_of_nonneg_right hd c
    omega
  · have := Int.mul_le_mul_of_nonneg_right hd (by omega : 0 ≤ -x)
    rw [Int.mul_neg, Int.mul_neg] at this
    omega
/-- the fraction made coprime -/
def hx_mred (A : Nat → Nat → Int → Prop) (t b : Int) : Prop := -1000 ≤ t ∧ t ≤ 1000 ∧ ((∀ s m n c, ¬ gr_Rg A s m n c) → b = 0) ∧ (∀ p q, gr_Mean A p q → 1 ≤ b ∧ b ≤ 7 ∧ t * q = p * b ∧ gr_nc 2 t b) ∧ 0 ≤ b ∧ b ≤ 7
theorem hx_reduce {post : SX → Prop} {f_queueStart f_queueLength f_leastTop f_leastBottom : Int32} {a_arcThere a_arcFrom a_arcTo a_arcWeight a_table a_otherTable a_squared a_levels a_setCells a_onRingBelowZero a_queue a_queued a_arcsUsed : Nat → Int32} {A : Nat → Nat → Int → Prop} (hm : hx_mres A f_leastTop.toInt f_leastBottom.toInt) (h : ∀ t b : Int32, hx_mred A t.toInt b.toInt → post (f_queueStart, f_queueLength, t, b, a_arcThere, a_arcFrom, a_arcTo, a_arcWeight, a_table, a_otherTable, a_squared, a_levels, a_setCells, a_onRingBelowZero, a_queue, a_queued, a_arcsUsed)) : ∃ n, wX_findLeastMean_28 post f_queueStart f_queueLength a_arcThere a_arcFrom a_arcTo a_arcWeight a_table a_otherTable a_squared a_levels a_setCells a_onRingBelowZero a_queue a_queued a_arcsUsed n 7 f_leastTop f_leastBottom := by
  refine ⟨7, pk_loopD (fun n i (z : Int32 × Int32) => wX_findLeastMean_28 post f_queueStart f_queueLength a_arcThere a_arcFrom a_arcTo a_arcWeight a_table a_otherTable a_squared a_levels a_setCells a_onRingBelowZero a_queue a_queued a_arcsUsed n (nI (i + 1)) z.1 z.2) (fun i z => i ≤ 6 ∧ (-1000 ≤ z.1.toInt ∧ z.1.toInt ≤ 1000 ∧ 0 ≤ z.2.toInt ∧ z.2.toInt ≤ 7) ∧ (f_leastTop.toInt = 0 → f_leastBottom.toInt = 0 → z.1.toInt = 0 ∧ z.2.toInt = 0) ∧ (1 ≤ f_leastBottom.toInt → 1 ≤ z.2.toInt ∧ z.1.toInt * f_leastBottom.toInt = f_leastTop.toInt * z.2.toInt ∧ gr_nc (i + 2) z.1.toInt z.2.toInt)) ?_ ?_ 6 (f_leastTop, f_leastBottom) ?_⟩
  · rintro n ⟨t, b⟩ ⟨_, r1, r2, r3⟩
    dsimp only at r1 r2 r3
    refine br_t (by decide : nI (0 + 1) ≤ 1) (h t b ⟨r1.1, r1.2.1, fun nr => ?_, fun p q hM => ?_, r1.2.2⟩)
    · have := hm.2.2.1 nr
      exact (r2 this.1 this.2).2
    · obtain ⟨k1, k2, k3⟩ := hm.2.2.2.1 p q hM
      obtain ⟨g1, g2, g3⟩ := r3 k1
      have q0 := hM.1
      refine ⟨g1, r1.2.2.2, ?_, g3⟩
      have e1 : t.toInt * q ≤ p * b.toInt := gr_crl (b2 := f_leastBottom.toInt) (by omega) (by omega) (by omega) (Int.le_of_eq g2) (Int.le_of_eq k3)
      have e2 : p * b.toInt ≤ t.toInt * q := gr_crl (b2 := f_leastBottom.toInt) (by omega) (by omega) (by omega) (Int.le_of_eq k3.symm) (Int.le_of_eq g2.symm)
      omega
  · rintro n i ⟨t, b⟩ ⟨i6, r1, r2, r3⟩ hn
    dsimp only at r1 r2 r3
    have n0 : ¬ nI (i + 1 + 1) = 0 := nI_ne0 (by omega) (by omega)
    have ed : ((i + 1 + 1 : Nat) : Int) = (i : Int) + 2 := by omega
    have en : ((i + 1 : Nat) : Int) + 2 = ((i : Int) + 2) + 1 := by omega
    rw [en] at r3
    have keep : ¬ (((i : Int) + 2) ∣ t.toInt ∧ ((i : Int) + 2) ∣ b.toInt) → wX_findLeastMean_28 post f_queueStart f_queueLength a_arcThere a_arcFrom a_arcTo a_arcWeight a_table a_otherTable a_squared a_levels a_setCells a_onRingBelowZero a_queue a_queued a_arcsUsed n (nI (i + 1)) t b := by
      intro hh
      exact hn (t, b) ⟨by omega, r1, r2, fun h1 => ⟨(r3 h1).1, (r3 h1).2.1, gr_nc2 (r3 h1).2.2 hh⟩⟩
    refine br_f (nI_ge (a := 1) (b := i + 1 + 1) (by omega) (by omega)) ?_
    dsimp only
    rw [hp_rem0 (by omega) (by omega) (by omega), hp_rem0 (by omega) (by omega) (by omega), pk_m1, ed]
    refine ⟨n0, br_c (fun c1 => ⟨n0, br_c (fun c2 => ⟨n0, nm_e ⟨n0, nm_e (nm_e ?_)⟩⟩) (fun c2 => nm_e (keep fun z => c2 z.2))⟩) (fun c1 => nm_e (keep fun z => c1 z.1))⟩
    obtain ⟨t1, et⟩ := c1
    obtain ⟨b1, eb⟩ := c2
    have qt : (t / nI (i + 1 + 1)).toInt = t1 := by
      rw [hp_quo (by omega) (by omega), ed, et]
      exact Int.mul_tdiv_cancel_left _ (by omega)
    have qb : (b / nI (i + 1 + 1)).toInt = b1 := by
      rw [hp_quo (by omega) (by omega), ed, eb]
      exact Int.mul_tdiv_cancel_left _ (by omega)
    have d1 := hx_dv (d := (i : Int) + 2) (x := t1) (by omega) (by omega)
    have d2 := hx_dv2 (d := (i : Int) + 2) (x := b1) (by omega) (by omega)
    refine hn (t / nI (i + 1 + 1), b / nI (i + 1 + 1)) ⟨by omega, ?_, fun h1 h2 => ?_, fun h1 => ?_⟩
    · dsimp only
      rw [qt, qb]
      exact ⟨d1.1, d1.2, d2.1, d2.2⟩
    · have := r2 h1 h2
      dsimp only
      rw [qt, qb]
      rw [et, eb] at this
      have k1 := Int.mul_eq_zero.mp this.1
      have k2 := Int.mul_eq_zero.mp this.2
      omega
    · obtain ⟨g1, g2, g3⟩ := r3 h1
      dsimp only
      rw [qt, qb]
      refine ⟨?_, ?_, gr_nc1 (by omega) g1 (by omega) g3 et eb⟩
      · refine Classical.byContradiction fun hn' => ?_
        have b0 : b1 = 0 := by omega
        rw [b0, Int.mul_zero] at eb
        omega
      · rw [et, eb, Int.mul_assoc, Int.mul_left_comm f_leastTop.toInt] at g2
        exact Int.eq_of_mul_eq_mul_left (by omega) g2
  · refine ⟨by omega, ⟨hm.1, hm.2.1, hm.2.2.2.2.1, hm.2.2.2.2.2⟩, fun h1 h2 => ⟨h1, h2⟩, fun h1 => ⟨h1, rfl, fun e h1 h2 => ?_⟩⟩
    omega
end
section
/-! the component: findLeastMean, closesWithLeastMean -/
theorem hx_leastMean {post : SX → Prop} {f_queueStart f_queueLength f_leastTop f_leastBottom : Int32} {a_arcThere a_arcFrom a_arcTo a_arcWeight a_table a_otherTable a_squared a_levels a_setCells a_onRingBelowZero a_queue a_queued a_arcsUsed : Nat → Int32} (ok : hx_ok a_arcThere a_arcFrom a_arcTo a_arcWeight) {e : Nat} (he : e < 2) (h : ∀ (t b : Int32) (lv : Nat → Int32), hx_mred (hx_A a_arcThere a_arcFrom a_arcTo a_arcWeight) t.toInt b.toInt → post (f_queueStart, f_queueLength, t, b, a_arcThere, a_arcFrom, a_arcTo, a_arcWeight, a_table, a_otherTable, a_squared, lv, a_setCells, a_onRingBelowZero, a_queue, a_queued, a_arcsUsed)) : wpX_findLeastMean post (f_queueStart, f_queueLength, f_leastTop, f_leastBottom, a_arcThere, a_arcFrom, a_arcTo, a_arcWeight, a_table, a_otherTable, a_squared, a_levels, a_setCells, a_onRingBelowZero, a_queue, a_queued, a_arcsUsed) (nI e) := by
  have e2 : e = 0 ∨ e = 1 := by omega
  unfold wpX_findLeastMean
  dsimp only
  rcases e2 with rfl | rfl
  · refine br_t (by decide) (hx_byLevels ok fun t b lv hm => ?_)
    exact hx_reduce hm fun t' b' hr => h t' b' lv hr
  · refine br_f (by decide) (hx_byClosed ok fun t b lv hm => ?_)
    exact hx_reduce hm fun t' b' hr => h t' b' lv hr
theorem hx_closesM {post : Int32 → Prop} {f_queueStart f_queueLength f_leastTop f_leastBottom : Int32} {a_arcThere a_arcFrom a_arcTo a_arcWeight a_table a_otherTable a_squared a_levels a_setCells a_onRingBelowZero a_queue a_queued a_arcsUsed : Nat → Int32} (ok : hx_ok a_arcThere a_arcFrom a_arcTo a_arcWeight) {p : Nat} (hp : p < 7) (hlv : hx_lv (hx_A a_arcThere a_arcFrom a_arcTo a_arcWeight) (fun s' => s' = p) a_levels) (ht : -1000 ≤ f_leastTop.toInt ∧ f_leastTop.toInt ≤ 1000) (hb : 0 ≤ f_leastBottom.toInt ∧ f_leastBottom.toInt ≤ 7) (h1 : (∃ n c, 1 ≤ n ∧ n ≤ 7 ∧ gr_W (hx_A a_arcThere a_arcFrom a_arcTo a_arcWeight) n p p c ∧ (∀ d, gr_W (hx_A a_arcThere a_arcFrom a_arcTo a_arcWeight) n p p d → c ≤ d) ∧ c * f_leastBottom.toInt = f_leastTop.toInt * (n : Int)) → post 1) (h0 : ¬ (∃ n c, 1 ≤ n ∧ n ≤ 7 ∧ gr_W (hx_A a_arcThere a_arcFrom a_arcTo a_arcWeight) n p p c ∧ (∀ d, gr_W (hx_A a_arcThere a_arcFrom a_arcTo a_arcWeight) n p p d → c ≤ d) ∧ c * f_leastBottom.toInt = f_leastTop.toInt * (n : Int)) → post 0) : wpX_closesWithLeastMean post (f_queueStart, f_queueLength, f_leastTop, f_leastBottom, a_arcThere, a_arcFrom, a_arcTo, a_arcWeight, a_table, a_otherTable, a_squared, a_levels, a_setCells, a_onRingBelowZero, a_queue, a_queued, a_arcsUsed) (nI p) := by
  have gok := hx_grok ok
  refine pk_loop (fun n i (_ : Unit) => wX_closesWithLeastMean_2 post (nI p) f_queueStart f_queueLength f_leastTop f_leastBottom a_arcThere a_arcFrom a_arcTo a_arcWeight a_table a_otherTable a_squared a_levels a_setCells a_onRingBelowZero a_queue a_queued a_arcsUsed n (nI i)) (fun i _ => 1 ≤ i ∧ ∀ n c, 1 ≤ n → n < i → gr_W (hx_A a_arcThere a_arcFrom a_arcTo a_arcWeight) n p p c → (∀ d, gr_W (hx_A a_arcThere a_arcFrom a_arcTo a_arcWeight) n p p d → c ≤ d) → c * f_leastBottom.toInt = f_leastTop.toInt * (n : Int) → False) 8 1 () (by decide) ⟨Nat.le_refl 1, fun n c g1 g2 => absurd g2 (by omega)⟩ ?_ ?_
  · rintro n _ ⟨_, hI⟩
    refine br_t (nI_lt (a := 7) (b := 8) (by decide) (by decide)) (h0 ?_)
    rintro ⟨k, c, g1, g2, g3, g4, g5⟩
    exact hI k c g1 (by omega) g3 g4 g5
  · rintro n m _ hm ⟨m1, hI⟩ hn
    have ck : (nI (7 * m + p)).toNatClampNeg = 7 * m + p := nI_clamp (by omega)
    have hz : gr_mn 1000000 (gr_W (hx_A a_arcThere a_arcFrom a_arcTo a_arcWeight) m p p) (a_levels (7 * m + p)).toInt := gr_mnC (fun c => gr_V1.symm) (hlv m p (by omega) hp)
    refine br_f (nI_nlt (a := 7) (b := m) (by omega) (by decide)) ?_
    rw [hp_ix, ck, nI_1]
    refine ⟨vp_in_nI (by omega) (by decide), nm_e (br_c (fun c => nm_e (hn () ⟨by omega, fun k d k1 k2 g3 g4 g5 => ?_⟩)) (fun c => ?_))⟩
    · rw [hp_eq, hp_F] at c
      by_cases e : k = m
      · subst e
        rcases hz with ⟨_, z⟩ | ⟨z, _⟩
        · exact z d g3
        · exact z c
      · exact hI k d k1 (by omega) g3 g4 g5
    · rw [hp_eq, hp_F] at c
      have hz' : gr_W (hx_A a_arcThere a_arcFrom a_arcTo a_arcWeight) m p p (a_levels (7 * m + p)).toInt ∧ ∀ d, gr_W (hx_A a_arcThere a_arcFrom a_arcTo a_arcWeight) m p p d → (a_levels (7 * m + p)).toInt ≤ d := by
        rcases hz with ⟨z, _⟩ | ⟨_, z⟩
        · exact absurd z c
        · exact z
      have bz := gr_Wb gok hz'.1
      have q1 : (a_levels (7 * m + p) * f_leastBottom).toInt = (a_levels (7 * m + p)).toInt * f_leastBottom.toInt := hx_mul rfl rfl (by omega) (by omega)
      have q2 : (f_leastTop * nI m).toInt = f_leastTop.toInt * (m : Int) := hx_mul rfl (nI_toInt (by omega)) (by omega) (by omega)
      refine br_c (fun c2 => h1 ⟨m, _, m1, by omega, hz'.1, hz'.2, ?_⟩) (fun c2 => nm_e (hn () ⟨by omega, fun k d k1 k2 g3 g4 g5 => ?_⟩))
      · rw [hp_eq, q1, q2] at c2
        exact c2
      · rw [hp_eq, q1, q2] at c2
        by_cases e : k = m
        · subst e
          have l1 := g4 _ hz'.1
          have l2 := hz'.2 _ g3
          have ee : d = (a_levels (7 * k + p)).toInt := by omega
          rw [ee] at g5
          exact c2 g5
        · exact hI k d k1 (by omega) g3 g4 g5
end
section
/-! the relation, and the methods that keep the arcs -/
/-- both sides hold the same arcs, within their ranges; nothing waits in the component's queue -/
def i_Rel (_ : Nat) (u : SX) (v : SY) : Prop := match u with
  | (f_queueStart, f_queueLength, f_leastTop, f_leastBottom, a_arcThere, a_arcFrom, a_arcTo, a_arcWeight, a_table, a_otherTable, a_squared, a_levels, a_setCells, a_onRingBelowZero, a_queue, a_queued, a_arcsUsed) => match v with
    | (f_top, f_bottom, f_ringPoints, a_there, a_froms, a_tos, a_weights, a_walks, a_ways) => a_arcThere = a_there ∧ a_arcFrom = a_froms ∧ a_arcTo = a_tos ∧ a_arcWeight = a_weights ∧ hx_ok a_arcThere a_arcFrom a_arcTo a_arcWeight ∧ ∀ p, p < 7 → a_queued p = 0
theorem i_up {k : Nat} {u : SX} {v : SY} (h : i_Rel k u v) : i_Rel (k + 4) u v := h
theorem i_vc0 : wpX_init (fun u => wpY_init (fun v => i_Rel 0 u v)) := by
  refine ⟨rfl, rfl, rfl, rfl, fun j _ => ⟨Or.inl rfl, ⟨0, by decide, rfl⟩, ⟨0, by decide, rfl⟩, ?_, ?_⟩, fun p _ => rfl⟩
  · show -20 ≤ (0 : Int32).toInt
    rw [hp_0]
    omega
  · show (0 : Int32).toInt ≤ 20
    rw [hp_0]
    omega
def hx_wt (w : Int32) : Prop := -20 ≤ w.toInt ∧ w.toInt ≤ 20
theorem hx_isWeight {post : Int32 → Prop} {p : Int32} (h0 : ¬ hx_wt p → post 0) (h1 : hx_wt p → post 1) : wpX_isWeight post p := by
  refine br_c (fun c => h0 fun z => ?_) (fun c => br_c (fun c2 => h0 fun z => ?_) (fun c2 => h1 ?_))
  · rw [hp_lt, hp_m20] at c
    have := z.1
    omega
  · rw [hp_lt, hp_20] at c2
    have := z.2
    omega
  · rw [hp_lt, hp_m20] at c
    rw [hp_lt, hp_20] at c2
    exact ⟨by omega, by omega⟩
theorem hy_isWeight {post : Int32 → Prop} {f_top f_bottom f_ringPoints : Int32} {a_there a_froms a_tos a_weights a_walks a_ways : Nat → Int32} {p : Int32} (h0 : ¬ hx_wt p → post 0) (h1 : hx_wt p → post 1) : wpY_isWeight post (f_top, f_bottom, f_ringPoints, a_there, a_froms, a_tos, a_weights, a_walks, a_ways) p := by
  refine br_c (fun c => h0 fun z => ?_) (fun c => br_c (fun c2 => h0 fun z => ?_) (fun c2 => h1 ?_))
  · rw [hp_lt, hp_m20] at c
    have := z.1
    omega
  · rw [hp_lt, hp_20] at c2
    have := z.2
    omega
  · rw [hp_lt, hp_m20] at c
    rw [hp_lt, hp_20] at c2
    exact ⟨by omega, by omega⟩
/-- k is the number of an arc that is there -/
def hx_ar (th : Nat → Int32) (p : Int32) : Prop := ∃ j, j < 20 ∧ p = nI j ∧ ¬ th j = 0
theorem hx_isArc {post : Int32 → Prop} {f_queueStart f_queueLength f_leastTop f_leastBottom : Int32} {a_arcThere a_arcFrom a_arcTo a_arcWeight a_table a_otherTable a_squared a_levels a_setCells a_onRingBelowZero a_queue a_queued a_arcsUsed : Nat → Int32} {p : Int32} (h0 : ¬ hx_ar a_arcThere p → post 0) (h1 : hx_ar a_arcThere p → post 1) : wpX_isArc post (f_queueStart, f_queueLength, f_leastTop, f_leastBottom, a_arcThere, a_arcFrom, a_arcTo, a_arcWeight, a_table, a_otherTable, a_squared, a_levels, a_setCells, a_onRingBelowZero, a_queue, a_queued, a_arcsUsed) p := by
  have e := hx_rng (p := p) (N := 20) (by decide)
  refine br_c (fun c => h0 ?_) (fun c => br_c (fun c2 => h0 ?_) (fun c2 => ?_))
  · rintro ⟨j, hj, ej, _⟩
    have := e.mp ⟨j, hj, ej⟩
    rw [hp_lt, hp_0] at c
    omega
  · rintro ⟨j, hj, ej, _⟩
    have := e.mp ⟨j, hj, ej⟩
    rw [hp_le, hp_20] at c2
    omega
  · rw [hp_lt, hp_0] at c
    rw [hp_le, hp_20] at c2
    obtain ⟨j, hj, rfl⟩ := e.mpr ⟨by omega, by omega⟩
    have ck : (nI j).toNatClampNeg = j := nI_clamp (by omega)
    rw [ck]
    refine ⟨vp_in_nI hj (by decide), br_c (fun t0 => h0 ?_) (fun t0 => h1 ⟨j, hj, rfl, t0⟩)⟩
    rintro ⟨j', hj', ej, t1⟩
    rw [nI_eq (by omega) (by omega)] at ej
    subst ej
    exact t1 t0
theorem hy_is {post : Int32 → Prop} {f_top f_bottom f_ringPoints : Int32} {a_there a_froms a_tos a_weights a_walks a_ways : Nat → Int32} {p : Int32} (h0 : ¬ hx_ar a_there p → post 0) (h1 : hx_ar a_there p → post 1) : wpY_is post (f_top, f_bottom, f_ringPoints, a_there, a_froms, a_tos, a_weights, a_walks, a_ways) p := by
  have e := hx_rng (p := p) (N := 20) (by decide)
  refine br_c (fun c => h0 ?_) (fun c => br_c (fun c2 => h0 ?_) (fun c2 => ?_))
  · rintro ⟨j, hj, ej, _⟩
    have := e.mp ⟨j, hj, ej⟩
    rw [hp_lt, hp_0] at c
    omega
  · rintro ⟨j, hj, ej, _⟩
    have := e.mp ⟨j, hj, ej⟩
    rw [hp_le, hp_20] at c2
    omega
  · rw [hp_lt, hp_0] at c
    rw [hp_le, hp_20] at c2
    obtain ⟨j, hj, rfl⟩ := e.mpr ⟨by omega, by omega⟩
    have ck : (nI j).toNatClampNeg = j := nI_clamp (by omega)
    rw [ck]
    refine ⟨vp_in_nI hj (by decide), br_c (fun t0 => h0 ?_) (fun t0 => h1 ⟨j, hj, rfl, t0⟩)⟩
    rintro ⟨j', hj', ej, t1⟩
    rw [nI_eq (by omega) (by omega)] at ej
    subst ej
    exact t1 t0
theorem hx_addK {post : Int32 → SX → Prop} {f_queueStart f_queueLength f_leastTop f_leastBottom : Int32} {a_arcThere a_arcFrom a_arcTo a_arcWeight a_table a_otherTable a_squared a_levels a_setCells a_onRingBelowZero a_queue a_queued a_arcsUsed : Nat → Int32} {x1 x2 x3 : Int32} {k : Nat} (hk : k < 20) (ha : ∀ j, j < k → ¬ a_arcThere j = 0) (h0 : a_arcThere k = 0) (h : post (nI k) (f_queueStart, f_queueLength, f_leastTop, f_leastBottom, (upd a_arcThere k 1), (upd a_arcFrom k x1), (upd a_arcTo k x2), (upd a_arcWeight k x3), a_table, a_otherTable, a_squared, a_levels, a_setCells, a_onRingBelowZero, a_queue, a_queued, a_arcsUsed)) : ∃ n, wX_add_28 post x1 x2 x3 f_queueStart f_queueLength f_leastTop f_leastBottom a_arcThere a_arcFrom a_arcTo a_arcWeight a_table a_otherTable a_squared a_levels a_setCells a_onRingBelowZero a_queue a_queued a_arcsUsed n 0 := by
  refine loop_0 (fun n i (_ : Unit) => wX_add_28 post x1 x2 x3 f_queueStart f_queueLength f_leastTop f_leastBottom a_arcThere a_arcFrom a_arcTo a_arcWeight a_table a_otherTable a_squared a_levels a_setCells a_onRingBelowZero a_queue a_queued a_arcsUsed n (nI i)) (fun _ _ => True) k () trivial ?_ ?_
  · intro n _ _
    have ck : (nI k).toNatClampNeg = k := nI_clamp (by omega)
    have vk : vp_in (nI k) 20 := vp_in_nI hk (by decide)
    refine br_f (nI_ge (b := 20) hk (by decide)) ?_
    rw [ck, hp_nb1]
    exact ⟨vk, br_t h0 ⟨vk, nm_e ⟨vk, nm_e ⟨vk, nm_e ⟨vk, nm_e h⟩⟩⟩⟩⟩
  · intro n i _ hi _ hn
    have ck : (nI i).toNatClampNeg = i := nI_clamp (by omega)
    refine br_f (nI_ge (b := 20) (by omega) (by decide)) ?_
    rw [ck, nI_1]
    exact ⟨vp_in_nI (by omega) (by decide), br_f (ha i hi) (nm_e (hn () trivial))⟩
theorem hx_addF {post : Int32 → SX → Prop} {f_queueStart f_queueLength f_leastTop f_leastBottom : Int32} {a_arcThere a_arcFrom a_arcTo a_arcWeight a_table a_otherTable a_squared a_levels a_setCells a_onRingBelowZero a_queue a_queued a_arcsUsed : Nat → Int32} {x1 x2 x3 : Int32} (ha : ∀ j, j < 20 → ¬ a_arcThere j = 0) (h : post (-2000) (f_queueStart, f_queueLength, f_leastTop, f_leastBottom, a_arcThere, a_arcFrom, a_arcTo, a_arcWeight, a_table, a_otherTable, a_squared, a_levels, a_setCells, a_onRingBelowZero, a_queue, a_queued, a_arcsUsed)) : ∃ n, wX_add_28 post x1 x2 x3 f_queueStart f_queueLength f_leastTop f_leastBottom a_arcThere a_arcFrom a_arcTo a_arcWeight a_table a_otherTable a_squared a_levels a_setCells a_onRingBelowZero a_queue a_queued a_arcsUsed n 0 := by
  refine loop_0 (fun n i (_ : Unit) => wX_add_28 post x1 x2 x3 f_queueStart f_queueLength f_leastTop f_leastBottom a_arcThere a_arcFrom a_arcTo a_arcWeight a_table a_otherTable a_squared a_levels a_setCells a_onRingBelowZero a_queue a_queued a_arcsUsed n (nI i)) (fun _ _ => True) 20 () trivial ?_ ?_
  · intro n _ _
    exact br_t (nI_le (Nat.le_refl 20) (by decide)) h
  · intro n i _ hi _ hn
    have ck : (nI i).toNatClampNeg = i := nI_clamp (by omega)
    refine br_f (nI_ge (b := 20) (by omega) (by decide)) ?_
    rw [ck, nI_1]
    exact ⟨vp_in_nI (by omega) (by decide), br_f (ha i hi) (nm_e (hn () trivial))⟩
theorem hy_addK {post : Int32 → SY → Prop} {f_top f_bottom f_ringPoints : Int32} {a_there a_froms a_tos a_weights a_walks a_ways : Nat → Int32} {x1 x2 x3 : Int32} {k : Nat} (hk : k < 20) (ha : ∀ j, j < k → ¬ a_there j = 0) (h0 : a_there k = 0) (h : post (nI k) (f_top, f_bottom, f_ringPoints, (upd a_there k 1), (upd a_froms k x1), (upd a_tos k x2), (upd a_weights k x3), a_walks, a_ways)) : ∃ n, wY_add_31 post x1 x2 x3 f_top f_bottom f_ringPoints a_there a_froms a_tos a_weights a_walks a_ways n 0 := by
  refine loop_0 (fun n i (_ : Unit) => wY_add_31 post x1 x2 x3 f_top f_bottom f_ringPoints a_there a_froms a_tos a_weights a_walks a_ways n (nI i)) (fun _ _ => True) k () trivial ?_ ?_
  · intro n _ _
    have ck : (nI k).toNatClampNeg = k := nI_clamp (by omega)
    have vk : vp_in (nI k) 20 := vp_in_nI hk (by decide)
    refine br_f (nI_ge (b := 20) hk (by decide)) ?_
    rw [ck, hp_nb1]
    exact ⟨vk, br_t h0 ⟨vk, nm_e ⟨vk, nm_e ⟨vk, nm_e ⟨vk, nm_e h⟩⟩⟩⟩⟩
  · intro n i _ hi _ hn
    have ck : (nI i).toNatClampNeg = i := nI_clamp (by omega)
    refine br_f (nI_ge (b := 20) (by omega) (by decide)) ?_
    rw [ck, nI_1]
    exact ⟨vp_in_nI (by omega) (by decide), br_f (ha i hi) (nm_e (hn () trivial))⟩
theorem hy_addF {post : Int32 → SY → Prop} {f_top f_bottom f_ringPoints : Int32} {a_there a_froms a_tos a_weights a_walks a_ways : Nat → Int32} {x1 x2 x3 : Int32} (ha : ∀ j, j < 20 → ¬ a_there j = 0) (h : post (-2000) (f_top, f_bottom, f_ringPoints, a_there, a_froms, a_tos, a_weights, a_walks, a_ways)) : ∃ n, wY_add_31 post x1 x2 x3 f_top f_bottom f_ringPoints a_there a_froms a_tos a_weights a_walks a_ways n 0 := by
  refine loop_0 (fun n i (_ : Unit) => wY_add_31 post x1 x2 x3 f_top f_bottom f_ringPoints a_there a_froms a_tos a_weights a_walks a_ways n (nI i)) (fun _ _ => True) 20 () trivial ?_ ?_
  · intro n _ _
    exact br_t (nI_le (Nat.le_refl 20) (by decide)) h
  · intro n i _ hi _ hn
    have ck : (nI i).toNatClampNeg = i := nI_clamp (by omega)
    refine br_f (nI_ge (b := 20) (by omega) (by decide)) ?_
    rw [ck, nI_1]
    exact ⟨vp_in_nI (by omega) (by decide), br_f (ha i hi) (nm_e (hn () trivial))⟩
theorem hx_okadd {th fr to wt : Nat → Int32} (ok : hx_ok th fr to wt) {a b w : Int32} (ha : hx_pt a) (hb : hx_pt b) (hw : hx_wt w) (k : Nat) : hx_ok (upd th k 1) (upd fr k a) (upd to k b) (upd wt k w) := by
  intro j hj
  by_cases e : j = k
  · subst e
    rw [pk_us, pk_us, pk_us, pk_us]
    exact ⟨Or.inr rfl, ha, hb, hw.1, hw.2⟩
  · rw [pk_un e, pk_un e, pk_un e, pk_un e]
    exact ok j hj
theorem hx_okrem {th fr to wt : Nat → Int32} (ok : hx_ok th fr to wt) (k : Nat) : hx_ok (upd th k 0) fr to wt := by
  intro j hj
  by_cases e : j = k
  · subst e
    rw [pk_us]
    exact ⟨Or.inl rfl, (ok j hj).2⟩
  · rw [pk_un e]
    exact ok j hj
theorem hx_okchg {th fr to wt : Nat → Int32} (ok : hx_ok th fr to wt) {w : Int32} (hw : hx_wt w) (k : Nat) : hx_ok th fr to (upd wt k w) := by
  intro j hj
  by_cases e : j = k
  · subst e
    rw [pk_us]
    exact ⟨(ok j hj).1, (ok j hj).2.1, (ok j hj).2.2.1, hw.1, hw.2⟩
  · rw [pk_un e]
    exact ok j hj
theorem i_vc_add {k : Nat} {u : SX} {v : SY} (I : i_Rel k u v) (hk : k + 4 ≤ 2048) (v1 : Int32) (v2 : Int32) (v3 : Int32) : wpX_add (fun r u' => wpY_add (fun r' v' => r' = r ∧ i_Rel (k + 4) u' v') v v1 v2 v3) u v1 v2 v3 := by
  obtain ⟨f_queueStart, f_queueLength, f_leastTop, f_leastBottom, a_arcThere, a_arcFrom, a_arcTo, a_arcWeight, a_table, a_otherTable, a_squared, a_levels, a_setCells, a_onRingBelowZero, a_queue, a_queued, a_arcsUsed⟩ := u
  obtain ⟨f_top, f_bottom, f_ringPoints, a_there, a_froms, a_tos, a_weights, a_walks, a_ways⟩ := v
  obtain ⟨rfl, rfl, rfl, rfl, ok, hq⟩ := I
  unfold wpX_add wpY_add
  dsimp only
  refine hx_isPoint (fun n1 => br_t rfl ?_) (fun h1 => br_f (by decide) ?_)
  · exact hy_point (fun _ => br_t rfl ⟨rfl, rfl, rfl, rfl, rfl, ok, hq⟩) (fun z => absurd z n1)
  refine hx_isPoint (fun n2 => br_t rfl ?_) (fun h2 => br_f (by decide) ?_)
  · exact hy_point (fun z => absurd h1 z) (fun _ => br_f (by decide) (hy_point (fun _ => br_t rfl ⟨rfl, rfl, rfl, rfl, rfl, ok, hq⟩) (fun z => absurd z n2)))
  refine hx_isWeight (fun n3 => br_t rfl ?_) (fun h3 => br_f (by decide) ?_)
  · exact hy_point (fun z => absurd h1 z) (fun _ => br_f (by decide) (hy_point (fun z => absurd h2 z) (fun _ => br_f (by decide) (hy_isWeight (fun _ => br_t rfl ⟨rfl, rfl, rfl, rfl, rfl, ok, hq⟩) (fun z => absurd z n3)))))
  by_cases c : ∃ j, j < 20 ∧ a_arcThere j = 0
  · obtain ⟨j, ⟨hj, h0⟩, hl⟩ := pk_least _ c
    have ha : ∀ i, i < j → ¬ a_arcThere i = 0 := fun i hi z => hl i hi ⟨by omega, z⟩
    refine hx_addK hj ha h0 ?_
    refine hy_point (fun z => absurd h1 z) (fun _ => br_f (by decide) (hy_point (fun z => absurd h2 z) (fun _ => br_f (by decide) (hy_isWeight (fun z => absurd h3 z) (fun _ => br_f (by decide) ?_)))))
    exact hy_addK hj ha h0 ⟨rfl, rfl, rfl, rfl, rfl, hx_okadd ok h1 h2 h3 j, hq⟩
  · have ha : ∀ j, j < 20 → ¬ a_arcThere j = 0 := fun j hj z => c ⟨j, hj, z⟩
    refine hx_addF ha ?_
    refine hy_point (fun z => absurd h1 z) (fun _ => br_f (by decide) (hy_point (fun z => absurd h2 z) (fun _ => br_f (by decide) (hy_isWeight (fun z => absurd h3 z) (fun _ => br_f (by decide) ?_)))))
    exact hy_addF ha ⟨rfl, rfl, rfl, rfl, rfl, ok, hq⟩
theorem i_vc_remove {k : Nat} {u : SX} {v : SY} (I : i_Rel k u v) (hk : k + 4 ≤ 2048) (v1 : Int32) : wpX_remove (fun r u' => wpY_remove (fun r' v' => r' = r ∧ i_Rel (k + 4) u' v') v v1) u v1 := by
  obtain ⟨f_queueStart, f_queueLength, f_leastTop, f_leastBottom, a_arcThere, a_arcFrom, a_arcTo, a_arcWeight, a_table, a_otherTable, a_squared, a_levels, a_setCells, a_onRingBelowZero, a_queue, a_queued, a_arcsUsed⟩ := u
  obtain ⟨f_top, f_bottom, f_ringPoints, a_there, a_froms, a_tos, a_weights, a_walks, a_ways⟩ := v
  obtain ⟨rfl, rfl, rfl, rfl, ok, hq⟩ := I
  unfold wpX_remove wpY_remove
  dsimp only
  refine hx_isArc (fun n1 => br_t rfl ?_) (fun h1 => br_f (by decide) ?_)
  · exact hy_is (fun _ => br_t rfl ⟨rfl, rfl, rfl, rfl, rfl, ok, hq⟩) (fun z => absurd z n1)
  · have h1' := h1
    obtain ⟨j, hj, rfl, t0⟩ := h1'
    have ck : (nI j).toNatClampNeg = j := nI_clamp (by omega)
    have vj : vp_in (nI j) 20 := vp_in_nI hj (by decide)
    rw [ck, hp_nb0]
    refine ⟨vj, nm_e ⟨vj, ?_⟩⟩
    exact hy_is (fun z => absurd h1 z) (fun _ => br_f (by decide) ⟨vj, nm_e ⟨vj, rfl, rfl, rfl, rfl, rfl, hx_okrem ok j, hq⟩⟩)
theorem i_vc_change {k : Nat} {u : SX} {v : SY} (I : i_Rel k u v) (hk : k + 4 ≤ 2048) (v1 : Int32) (v2 : Int32) : wpX_change (fun r u' => wpY_change (fun r' v' => r' = r ∧ i_Rel (k + 4) u' v') v v1 v2) u v1 v2 := by
  obtain ⟨f_queueStart, f_queueLength, f_leastTop, f_leastBottom, a_arcThere, a_arcFrom, a_arcTo, a_arcWeight, a_table, a_otherTable, a_squared, a_levels, a_setCells, a_onRingBelowZero, a_queue, a_queued, a_arcsUsed⟩ := u
  obtain ⟨f_top, f_bottom, f_ringPoints, a_there, a_froms, a_tos, a_weights, a_walks, a_ways⟩ := v
  obtain ⟨rfl, rfl, rfl, rfl, ok, hq⟩ := I
  unfold wpX_change wpY_change
  dsimp only
  refine hx_isArc (fun n1 => br_t rfl ?_) (fun h1 => br_f (by decide) ?_)
  · exact hy_is (fun _ => br_t rfl ⟨rfl, rfl, rfl, rfl, rfl, ok, hq⟩) (fun z => absurd z n1)
  refine hx_isWeight (fun n3 => br_t rfl ?_) (fun h3 => br_f (by decide) ?_)
  · exact hy_is (fun z => absurd h1 z) (fun _ => br_f (by decide) (hy_isWeight (fun _ => br_t rfl ⟨rfl, rfl, rfl, rfl, rfl, ok, hq⟩) (fun z => absurd z n3)))
  · have h1' := h1
    obtain ⟨j, hj, rfl, t0⟩ := h1'
    have ck : (nI j).toNatClampNeg = j := nI_clamp (by omega)
    have vj : vp_in (nI j) 20 := vp_in_nI hj (by decide)
    rw [ck]
    refine ⟨vj, nm_e ⟨vj, nm_e ?_⟩⟩
    exact hy_is (fun z => absurd h1 z) (fun _ => br_f (by decide) (hy_isWeight (fun z => absurd h3 z) (fun _ => br_f (by decide) ⟨vj, nm_e ⟨vj, nm_e ⟨rfl, rfl, rfl, rfl, rfl, hx_okchg ok h3 j, hq⟩⟩⟩)))
theorem hx_arcsL {post : Int32 → Prop} {f_queueStart f_queueLength f_leastTop f_leastBottom : Int32} {a_arcThere a_arcFrom a_arcTo a_arcWeight a_table a_otherTable a_squared a_levels a_setCells a_onRingBelowZero a_queue a_queued a_arcsUsed : Nat → Int32} (h : ∀ r : Int32, hx_set (fun k => ¬ a_arcThere k = 0) 20 r → post r) : wpX_arcs post (f_queueStart, f_queueLength, f_leastTop, f_leastBottom, a_arcThere, a_arcFrom, a_arcTo, a_arcWeight, a_table, a_otherTable, a_squared, a_levels, a_setCells, a_onRingBelowZero, a_queue, a_queued, a_arcsUsed) := by
  refine loop_0 (fun n i (r : Int32) => wX_arcs_4 post f_queueStart f_queueLength f_leastTop f_leastBottom a_arcThere a_arcFrom a_arcTo a_arcWeight a_table a_otherTable a_squared a_levels a_setCells a_onRingBelowZero a_queue a_queued a_arcsUsed n r (nI i)) (fun i r => hx_set (fun k => ¬ a_arcThere k = 0) i r) 20 0 (hx_set0 _) ?_ ?_
  · intro n r hr
    exact br_t (nI_le (Nat.le_refl 20) (by decide)) (h r hr)
  · intro n i r hi hr hn
    have ck : (nI i).toNatClampNeg = i := nI_clamp (by omega)
    refine br_f (nI_ge (b := 20) (by omega) (by decide)) ?_
    rw [ck, nI_1]
    exact ⟨vp_in_nI hi (by decide), br_c (fun c => nm_e (hn r (hx_setF hr fun z => z c))) (fun c => nm_e (nm_e (hn _ (hx_setT hr (by omega) c))))⟩
theorem hy_arcsL {post : Int32 → Prop} {f_top f_bottom f_ringPoints : Int32} {a_there a_froms a_tos a_weights a_walks a_ways : Nat → Int32} (h : ∀ r : Int32, hx_set (fun k => ¬ a_there k = 0) 20 r → post r) : wpY_arcs post (f_top, f_bottom, f_ringPoints, a_there, a_froms, a_tos, a_weights, a_walks, a_ways) := by
  refine loop_0 (fun n i (r : Int32) => wY_arcs_4 post f_top f_bottom f_ringPoints a_there a_froms a_tos a_weights a_walks a_ways n r (nI i)) (fun i r => hx_set (fun k => ¬ a_there k = 0) i r) 20 0 (hx_set0 _) ?_ ?_
  · intro n r hr
    exact br_t (nI_le (Nat.le_refl 20) (by decide)) (h r hr)
  · intro n i r hi hr hn
    have ck : (nI i).toNatClampNeg = i := nI_clamp (by omega)
    refine br_f (nI_ge (b := 20) (by omega) (by decide)) ?_
    rw [ck, nI_1]
    exact ⟨vp_in_nI hi (by decide), br_c (fun c => nm_e (hn r (hx_setF hr fun z => z c))) (fun c => nm_e (nm_e (hn _ (hx_setT hr (by omega) c))))⟩
theorem i_vc_arcs {k : Nat} {u : SX} {v : SY} (I : i_Rel k u v) (hk : k + 4 ≤ 2048) : wpX_arcs (fun r => wpY_arcs (fun r' => r' = r ∧ i_Rel (k + 4) u v) v) u := by
  obtain ⟨f_queueStart, f_queueLength, f_leastTop, f_leastBottom, a_arcThere, a_arcFrom, a_arcTo, a_arcWeight, a_table, a_otherTable, a_squared, a_levels, a_setCells, a_onRingBelowZero, a_queue, a_queued, a_arcsUsed⟩ := u
  obtain ⟨f_top, f_bottom, f_ringPoints, a_there, a_froms, a_tos, a_weights, a_walks, a_ways⟩ := v
  obtain ⟨rfl, rfl, rfl, rfl, ok, hq⟩ := I
  exact hx_arcsL fun r hr => hy_arcsL fun r' hr' => ⟨hx_setU hr' hr fun _ _ => Iff.rfl, rfl, rfl, rfl, rfl, ok, hq⟩
end
section
/-! the methods that ask for walks -/
def hx_en (p : Int32) : Prop := ∃ e, e < 5 ∧ p = nI e
theorem hx_isEng {post : Int32 → Prop} {p : Int32} (h0 : ¬ hx_en p → post 0) (h1 : hx_en p → post 1) : wpX_isWalkEngine post p := by
  have e := hx_rng (p := p) (N := 5) (by decide)
  refine br_c (fun c => h0 fun z => ?_) (fun c => br_c (fun c2 => h0 fun z => ?_) (fun c2 => h1 (e.mpr ?_)))
  · have := e.mp z
    rw [hp_lt, hp_0] at c
    omega
  · have := e.mp z
    rw [hp_le, hp_5] at c2
    omega
  · rw [hp_lt, hp_0] at c
    rw [hp_le, hp_5] at c2
    omega
theorem hy_eng {p : Int32} {P Q : Prop} (h0 : ¬ hx_en p → P) (h1 : hx_en p → Q) : ((p < 0 → P) ∧ (¬ p < 0 → ((4 < p → P) ∧ (¬ 4 < p → Q)))) := by
  have e := hx_rng (p := p) (N := 5) (by decide)
  refine br_c (fun c => h0 fun z => ?_) (fun c => br_c (fun c2 => h0 fun z => ?_) (fun c2 => h1 (e.mpr ?_)))
  · have := e.mp z
    rw [hp_lt, hp_0] at c
    omega
  · have := e.mp z
    rw [hp_lt, hp_4] at c2
    omega
  · rw [hp_lt, hp_0] at c
    rw [hp_lt, hp_4] at c2
    omega
section
variable {A : Nat → Nat → Int → Prop}
theorem gr_AnsR (ok : gr_ok A) {s t : Nat} (hs : s < 7) {r : Int} (h : gr_Ans A s t r) : r = -3000 ↔ ¬ gr_R A s t := by
  rcases h with ⟨e, h⟩ | ⟨e, h⟩ | h
  · exact ⟨fun _ => h, fun _ => e⟩
  · exact ⟨fun z => by omega, fun z => absurd (gr_L_R h) z⟩
  · have := gr_Mr ok hs h
    exact ⟨fun z => by omega, fun z => absurd ⟨_, _, h.1.choose_spec⟩ z⟩
theorem gr_AnsL (ok : gr_ok A) {s t : Nat} (hs : s < 7) {r : Int} (h : gr_Ans A s t r) : r = -4000 ↔ gr_L A s t := by
  rcases h with ⟨e, h⟩ | ⟨e, h⟩ | h
  · exact ⟨fun z => by omega, fun z => absurd (gr_L_R z) h⟩
  · exact ⟨fun _ => h, fun _ => e⟩
  · have := gr_Mr ok hs h
    exact ⟨fun z => by omega, fun z => absurd z (gr_ML h)⟩
theorem gr_AnsM (ok : gr_ok A) {s t : Nat} (hs : s < 7) {r : Int} (h : gr_Ans A s t r) : (r ≠ -3000 ∧ r ≠ -4000) ↔ gr_M A s t r := by
  rcases h with ⟨e, h⟩ | ⟨e, h⟩ | h
  · exact ⟨fun z => absurd e z.1, fun z => absurd ⟨_, _, z.1.choose_spec⟩ h⟩
  · exact ⟨fun z => absurd e z.2, fun z => absurd h (gr_ML z)⟩
  · have := gr_Mr ok hs h
    exact ⟨fun _ => h, fun _ => ⟨by omega, by omega⟩⟩
end
theorem i_vc_least {k : Nat} {u : SX} {v : SY} (I : i_Rel k u v) (hk : k + 4 ≤ 2048) (v1 : Int32) (v2 : Int32) (v3 : Int32) : wpX_least (fun r u' => wpY_least (fun r' v' => r' = r ∧ i_Rel (k + 4) u' v') v v1 v2 v3) u v1 v2 v3 := by
  obtain ⟨f_queueStart, f_queueLength, f_leastTop, f_leastBottom, a_arcThere, a_arcFrom, a_arcTo, a_arcWeight, a_table, a_otherTable, a_squared, a_levels, a_setCells, a_onRingBelowZero, a_queue, a_queued, a_arcsUsed⟩ := u
  obtain ⟨f_top, f_bottom, f_ringPoints, a_there, a_froms, a_tos, a_weights, a_walks, a_ways⟩ := v
  obtain ⟨rfl, rfl, rfl, rfl, ok, hq⟩ := I
  have gok := hx_grok ok
  unfold wpX_least wpY_least
  dsimp only
  refine hx_isPoint (fun n2 => br_t rfl ?_) (fun h2 => br_f (by decide) ?_)
  · exact hy_eng (fun _ => ⟨rfl, rfl, rfl, rfl, rfl, ok, hq⟩) (fun _ => hy_point (fun _ => br_t rfl ⟨rfl, rfl, rfl, rfl, rfl, ok, hq⟩) (fun z => absurd z n2))
  refine hx_isPoint (fun n3 => br_t rfl ?_) (fun h3 => br_f (by decide) ?_)
  · exact hy_eng (fun _ => ⟨rfl, rfl, rfl, rfl, rfl, ok, hq⟩) (fun _ => hy_point (fun z => absurd h2 z) (fun _ => br_f (by decide) (hy_point (fun _ => br_t rfl ⟨rfl, rfl, rfl, rfl, rfl, ok, hq⟩) (fun z => absurd z n3))))
  refine hx_isEng (fun n1 => br_t rfl ?_) (fun h1 => br_f (by decide) ?_)
  · exact hy_eng (fun _ => ⟨rfl, rfl, rfl, rfl, rfl, ok, hq⟩) (fun z => absurd z n1)
  have h1' := h1
  have h2' := h2
  have h3' := h3
  obtain ⟨e, he, rfl⟩ := h1'
  obtain ⟨s, hs, rfl⟩ := h2'
  obtain ⟨t, ht, rfl⟩ := h3'
  have ck : (nI (7 * s + t)).toNatClampNeg = 7 * s + t := nI_clamp (by omega)
  refine hx_fill_table ok hq he fun st ln tb sq sc rb q qd us hqd ha => ?_
  dsimp only
  rw [hp_ix, ck]
  refine ⟨vp_in_nI (by omega) (by decide), ?_⟩
  refine hy_eng (fun z => absurd h1 z) (fun _ => hy_point (fun z => absurd h2 z) (fun _ => br_f (by decide) (hy_point (fun z => absurd h3 z) (fun _ => br_f (by decide) (hy_way ok hs ht fun r b hr _ => ⟨?_, rfl, rfl, rfl, rfl, ok, hqd⟩)))))
  exact hp_eq.mpr (gr_uniq gok hs hr (ha s t hs ht))
theorem i_vc_agree {k : Nat} {u : SX} {v : SY} (I : i_Rel k u v) (hk : k + 4 ≤ 2048) (v1 : Int32) (v2 : Int32) : wpX_agree (fun r u' => wpY_agree (fun r' => r' = r ∧ i_Rel (k + 4) u' v) v v1 v2) u v1 v2 := by
  obtain ⟨f_queueStart, f_queueLength, f_leastTop, f_leastBottom, a_arcThere, a_arcFrom, a_arcTo, a_arcWeight, a_table, a_otherTable, a_squared, a_levels, a_setCells, a_onRingBelowZero, a_queue, a_queued, a_arcsUsed⟩ := u
  obtain ⟨f_top, f_bottom, f_ringPoints, a_there, a_froms, a_tos, a_weights, a_walks, a_ways⟩ := v
  obtain ⟨rfl, rfl, rfl, rfl, ok, hq⟩ := I
  have gok := hx_grok ok
  unfold wpX_agree wpY_agree
  dsimp only
  refine hx_isEng (fun n1 => br_t rfl ?_) (fun h1 => br_f (by decide) ?_)
  · exact hy_eng (fun _ => ⟨rfl, rfl, rfl, rfl, rfl, ok, hq⟩) (fun z => absurd z n1)
  refine hx_isEng (fun n2 => br_t rfl ?_) (fun h2 => br_f (by decide) ?_)
  · exact hy_eng (fun z => absurd h1 z) (fun _ => hy_eng (fun _ => ⟨rfl, rfl, rfl, rfl, rfl, ok, hq⟩) (fun z => absurd z n2))
  have h1' := h1
  have h2' := h2
  obtain ⟨e, he, rfl⟩ := h1'
  obtain ⟨e', he', rfl⟩ := h2'
  refine hx_fill_table ok hq he fun st ln tb sq sc rb q qd us hqd ha => ?_
  dsimp only
  refine hx_fill_otherTable ok hqd he' fun st' ln' ot sq' sc' rb' q' qd' us' hqd' ha' => ?_
  refine loop_0 (fun n i (_ : Unit) => wX_agree_36 _ st' ln' f_leastTop f_leastBottom a_arcThere a_arcFrom a_arcTo a_arcWeight tb ot sq' a_levels sc' rb' q' qd' us' n (nI i)) (fun _ _ => True) 49 () trivial ?_ ?_
  · intro n _ _
    exact br_t (nI_le (Nat.le_refl 49) (by decide)) (hy_eng (fun z => absurd h1 z) (fun _ => hy_eng (fun z => absurd h2 z) (fun _ => ⟨rfl, rfl, rfl, rfl, rfl, ok, hqd'⟩)))
  · intro n i _ hi _ hn
    have ck : (nI i).toNatClampNeg = i := nI_clamp (by omega)
    have vi : vp_in (nI i) 49 := vp_in_nI hi (by decide)
    refine br_f (nI_ge (b := 49) hi (by decide)) ?_
    rw [ck, nI_1]
    refine ⟨vi, vi, br_t ?_ (nm_e (hn () trivial))⟩
    obtain ⟨s, t, rfl, ht, hs⟩ : ∃ s t, i = 7 * s + t ∧ t < 7 ∧ s < 7 := ⟨i / 7, i % 7, by omega, by omega, by omega⟩
    exact hp_eq.mpr (gr_uniq gok hs (ha s t hs ht) (ha' s t hs ht))
theorem i_vc_reached {k : Nat} {u : SX} {v : SY} (I : i_Rel k u v) (hk : k + 4 ≤ 2048) (v1 : Int32) : wpX_reached (fun r u' => wpY_reached (fun r' => r' = r ∧ i_Rel (k + 4) u' v) v v1) u v1 := by
  obtain ⟨f_queueStart, f_queueLength, f_leastTop, f_leastBottom, a_arcThere, a_arcFrom, a_arcTo, a_arcWeight, a_table, a_otherTable, a_squared, a_levels, a_setCells, a_onRingBelowZero, a_queue, a_queued, a_arcsUsed⟩ := u
  obtain ⟨f_top, f_bottom, f_ringPoints, a_there, a_froms, a_tos, a_weights, a_walks, a_ways⟩ := v
  obtain ⟨rfl, rfl, rfl, rfl, ok, hq⟩ := I
  have gok := hx_grok ok
  unfold wpX_reached
  dsimp only
  refine hx_isPoint (fun n1 => br_t rfl ?_) (fun h1 => br_f (by decide) ?_)
  · unfold wpY_reached
    exact hy_point (fun _ => br_t rfl ⟨rfl, rfl, rfl, rfl, rfl, ok, hq⟩) (fun z => absurd z n1)
  obtain ⟨s, hs, rfl⟩ := h1
  refine hx_fill_table (e := 0) ok hq (by decide) fun st ln tb sq sc rb q qd us hqd ha => ?_
  refine loop_0 (fun n i (r : Int32) => wX_reached_24 _ (nI s) st ln f_leastTop f_leastBottom a_arcThere a_arcFrom a_arcTo a_arcWeight tb a_otherTable sq a_levels sc rb q qd us n r (nI i)) (fun i r => hx_set (gr_R (hx_A a_arcThere a_arcFrom a_arcTo a_arcWeight) s) i r) 7 0 (hx_set0 _) ?_ ?_
  · intro n r hr
    exact br_t (nI_le (Nat.le_refl 7) (by decide)) (hy_reached ok hs fun r' hr' => ⟨hx_setU hr' hr fun _ _ => Iff.rfl, rfl, rfl, rfl, rfl, ok, hqd⟩)
  · intro n t r ht hr hn
    have ck : (nI (7 * s + t)).toNatClampNeg = 7 * s + t := nI_clamp (by omega)
    have e := gr_AnsR gok hs (ha s t hs ht)
    refine br_f (nI_ge (b := 7) ht (by decide)) ?_
    rw [hp_ix, ck, nI_1]
    refine ⟨vp_in_nI (by omega) (by decide), br_c (fun c => nm_e (hn r (hx_setF hr ?_))) (fun c => nm_e (nm_e (hn _ (hx_setT hr (by omega) ?_))))⟩
    · rw [hp_eq, hp_N] at c
      exact e.mp c
    · rw [hp_eq, hp_N] at c
      exact Classical.byContradiction fun z => c (e.mpr z)
theorem i_vc_low {k : Nat} {u : SX} {v : SY} (I : i_Rel k u v) (hk : k + 4 ≤ 2048) (v1 : Int32) : wpX_low (fun r u' => wpY_low (fun r' v' => r' = r ∧ i_Rel (k + 4) u' v') v v1) u v1 := by
  obtain ⟨f_queueStart, f_queueLength, f_leastTop, f_leastBottom, a_arcThere, a_arcFrom, a_arcTo, a_arcWeight, a_table, a_otherTable, a_squared, a_levels, a_setCells, a_onRingBelowZero, a_queue, a_queued, a_arcsUsed⟩ := u
  obtain ⟨f_top, f_bottom, f_ringPoints, a_there, a_froms, a_tos, a_weights, a_walks, a_ways⟩ := v
  obtain ⟨rfl, rfl, rfl, rfl, ok, hq⟩ := I
  have gok := hx_grok ok
  unfold wpX_low
  dsimp only
  refine hx_isPoint (fun n1 => br_t rfl ?_) (fun h1 => br_f (by decide) ?_)
  · unfold wpY_low
    exact hy_point (fun _ => br_t rfl ⟨rfl, rfl, rfl, rfl, rfl, ok, hq⟩) (fun z => absurd z n1)
  obtain ⟨s, hs, rfl⟩ := h1
  refine hx_fill_table (e := 0) ok hq (by decide) fun st ln tb sq sc rb q qd us hqd ha => ?_
  refine loop_0 (fun n i (r : Int32) => wX_low_24 _ (nI s) st ln f_leastTop f_leastBottom a_arcThere a_arcFrom a_arcTo a_arcWeight tb a_otherTable sq a_levels sc rb q qd us n r (nI i)) (fun i r => hx_set (gr_L (hx_A a_arcThere a_arcFrom a_arcTo a_arcWeight) s) i r) 7 0 (hx_set0 _) ?_ ?_
  · intro n r hr
    exact br_t (nI_le (Nat.le_refl 7) (by decide)) (hy_low ok hs fun r' b hr' _ => ⟨hx_setU hr' hr fun _ _ => Iff.rfl, rfl, rfl, rfl, rfl, ok, hqd⟩)
  · intro n t r ht hr hn
    have ck : (nI (7 * s + t)).toNatClampNeg = 7 * s + t := nI_clamp (by omega)
    have e := gr_AnsL gok hs (ha s t hs ht)
    refine br_f (nI_ge (b := 7) ht (by decide)) ?_
    rw [hp_ix, ck, nI_1]
    refine ⟨vp_in_nI (by omega) (by decide), br_c (fun c => nm_e (nm_e (hn _ (hx_setT hr (by omega) ?_)))) (fun c => nm_e (hn r (hx_setF hr ?_)))⟩
    · rw [hp_eq, hp_L] at c
      exact e.mp c
    · rw [hp_eq, hp_L] at c
      exact fun z => c (e.mpr z)
theorem hx_isFound {post : Int32 → Prop} {p : Int32} (h0 : (p.toInt = -3000 ∨ p.toInt = -4000) → post 0) (h1 : p.toInt ≠ -3000 → p.toInt ≠ -4000 → post 1) : wpX_isFound post p := by
  refine br_c (fun c => h0 (Or.inl ?_)) (fun c => br_c (fun c2 => h0 (Or.inr ?_)) (fun c2 => h1 ?_ ?_))
  · rw [hp_eq, hp_N] at c
    exact c
  · rw [hp_eq, hp_L] at c2
    exact c2
  · rw [hp_eq, hp_N] at c
    exact c
  · rw [hp_eq, hp_L] at c2
    exact c2
theorem i_vc_around {k : Nat} {u : SX} {v : SY} (I : i_Rel k u v) (hk : k + 4 ≤ 2048) (v1 : Int32) : wpX_around (fun r u' => wpY_around (fun r' v' => r' = r ∧ i_Rel (k + 4) u' v') v v1) u v1 := by
  obtain ⟨f_queueStart, f_queueLength, f_leastTop, f_leastBottom, a_arcThere, a_arcFrom, a_arcTo, a_arcWeight, a_table, a_otherTable, a_squared, a_levels, a_setCells, a_onRingBelowZero, a_queue, a_queued, a_arcsUsed⟩ := u
  obtain ⟨f_top, f_bottom, f_ringPoints, a_there, a_froms, a_tos, a_weights, a_walks, a_ways⟩ := v
  obtain ⟨rfl, rfl, rfl, rfl, ok, hq⟩ := I
  have gok := hx_grok ok
  unfold wpX_around wpY_around
  dsimp only
  refine hx_isArc (fun n1 => br_t rfl ?_) (fun h1 => br_f (by decide) ?_)
  · exact hy_is (fun _ => br_t rfl ⟨rfl, rfl, rfl, rfl, rfl, ok, hq⟩) (fun z => absurd z n1)
  have h1' := h1
  obtain ⟨j, hj, rfl, t0⟩ := h1'
  obtain ⟨u, v, x, hu, hv, eu, ev, ew, hx1, hx2, hk0, hk1⟩ := hx_arc ok hj
  have ck : (nI j).toNatClampNeg = j := nI_clamp (by omega)
  have cu : (nI (7 * v + u)).toNatClampNeg = 7 * v + u := nI_clamp (by omega)
  have vj : vp_in (nI j) 20 := vp_in_nI hj (by decide)
  refine hx_fill_table (e := 0) ok hq (by decide) fun st ln tb sq sc rb q qd us hqd ha => ?_
  dsimp only
  rw [ck, eu, ev, hp_ix, cu]
  have hA := ha v u hv hu
  have rA := gr_Ansr gok hv hA
  refine ⟨vj, vj, vp_in_nI (by omega) (by decide), nm_e (hx_isFound (fun f => br_t rfl ?_) (fun f1 f2 => br_f (by decide) ⟨vj, ?_⟩))⟩
  · refine hy_is (fun z => absurd h1 z) (fun _ => br_f (by decide) ⟨vj, vj, hy_way ok hv hu fun r b hr _ => ?_⟩)
    have er : r = tb (7 * v + u) := hp_eq.mpr (gr_uniq gok hv hr hA)
    subst er
    refine br_t ?_ ⟨rfl, rfl, rfl, rfl, rfl, ok, hqd⟩
    rw [hp_le, hp_B]
    omega
  · refine hy_is (fun z => absurd h1 z) (fun _ => br_f (by decide) ⟨vj, vj, hy_way ok hv hu fun r b hr _ => ?_⟩)
    have er : r = tb (7 * v + u) := hp_eq.mpr (gr_uniq gok hv hr hA)
    subst er
    refine br_f ?_ ⟨vj, rfl, rfl, rfl, rfl, rfl, ok, hqd⟩
    rw [hp_le, hp_B]
    omega
theorem gr_lvW {A : Nat → Nat → Int → Prop} {N r z : Int} {n s t : Nat} (h : gr_mn N (gr_W A n s t) z) (hr : ∀ n c, gr_W A n s t c → r ≤ c) (hN : r ≠ N) : z = r ↔ gr_W A n s t r := by
  rcases h with ⟨e, h⟩ | ⟨e, h1, h2⟩
  · exact ⟨fun z => by omega, fun z => absurd z (h r)⟩
  · refine ⟨fun z => z ▸ h1, fun z => ?_⟩
    have := h2 r z
    have := hr _ _ h1
    omega
theorem i_vc_fewest {k : Nat} {u : SX} {v : SY} (I : i_Rel k u v) (hk : k + 4 ≤ 2048) (v1 : Int32) (v2 : Int32) : wpX_fewest (fun r u' => wpY_fewest (fun r' v' => r' = r ∧ i_Rel (k + 4) u' v') v v1 v2) u v1 v2 := by
  obtain ⟨f_queueStart, f_queueLength, f_leastTop, f_leastBottom, a_arcThere, a_arcFrom, a_arcTo, a_arcWeight, a_table, a_otherTable, a_squared, a_levels, a_setCells, a_onRingBelowZero, a_queue, a_queued, a_arcsUsed⟩ := u
  obtain ⟨f_top, f_bottom, f_ringPoints, a_there, a_froms, a_tos, a_weights, a_walks, a_ways⟩ := v
  obtain ⟨rfl, rfl, rfl, rfl, ok, hq⟩ := I
  have gok := hx_grok ok
  unfold wpX_fewest wpY_fewest
  dsimp only
  refine hx_isPoint (fun n1 => br_t rfl ?_) (fun h1 => br_f (by decide) ?_)
  · exact hy_point (fun _ => br_t rfl ⟨rfl, rfl, rfl, rfl, rfl, ok, hq⟩) (fun z => absurd z n1)
  refine hx_isPoint (fun n2 => br_t rfl ?_) (fun h2 => br_f (by decide) ?_)
  · exact hy_point (fun z => absurd h1 z) (fun _ => br_f (by decide) (hy_point (fun _ => br_t rfl ⟨rfl, rfl, rfl, rfl, rfl, ok, hq⟩) (fun z => absurd z n2)))
  have h1' := h1
  have h2' := h2
  obtain ⟨s, hs, rfl⟩ := h1'
  obtain ⟨t, ht, rfl⟩ := h2'
  have ck : (nI (7 * s + t)).toNatClampNeg = 7 * s + t := nI_clamp (by omega)
  refine hx_fill_table (e := 0) ok hq (by decide) fun st ln tb sq sc rb q qd us hqd ha => ?_
  dsimp only
  rw [hp_ix, ck]
  have hA := ha s t hs ht
  have rA := gr_Ansr gok hs hA
  refine ⟨vp_in_nI (by omega) (by decide), nm_e (hx_isFound (fun f => br_t rfl ?_) (fun f1 f2 => br_f (by decide) ?_))⟩
  · refine hy_point (fun z => absurd h1 z) (fun _ => br_f (by decide) (hy_point (fun z => absurd h2 z) (fun _ => br_f (by decide) (hy_way ok hs ht fun r b hr _ => ⟨1, ?_⟩))))
    have er : r = tb (7 * s + t) := hp_eq.mpr (gr_uniq gok hs hr hA)
    subst er
    have le : tb (7 * s + t) ≤ -1000 := by
      rw [hp_le, hp_B]
      omega
    refine br_t le ?_
    unfold wY_fewest_59
    exact br_t le ⟨rfl, rfl, rfl, rfl, rfl, ok, hqd⟩
  · have hM := (gr_AnsM gok hs hA).mp ⟨f1, f2⟩
    obtain ⟨m0, ⟨hm0, hW⟩, hl⟩ := pk_least (fun n => n ≤ 6 ∧ gr_W (hx_A a_arcThere a_arcFrom a_arcTo a_arcWeight) n s t (tb (7 * s + t)).toInt) (gr_Mr gok hs hM).2.2
    refine hx_levelsFrom ok hs fun lv hlv => ?_
    refine loop_0 (fun n i (_ : Unit) => wX_fewest_56 _ (nI t) (tb (7 * s + t)) st ln f_leastTop f_leastBottom a_arcThere a_arcFrom a_arcTo a_arcWeight tb a_otherTable sq lv sc rb q qd us n (nI i)) (fun _ _ => True) m0 () trivial ?_ ?_
    · intro n _ _
      have cm : (nI (7 * m0 + t)).toNatClampNeg = 7 * m0 + t := nI_clamp (by omega)
      refine br_f (nI_ge (b := 7) (by omega) (by decide)) ?_
      rw [hp_ix, cm]
      refine ⟨vp_in_nI (by omega) (by decide), br_t ?_ ?_⟩
      · exact hp_eq.mpr ((gr_lvW (gr_mnC (fun c => gr_V1.symm) (hlv m0 t (by omega) ht)) hM.2 (by omega)).mpr hW)
      · refine hy_point (fun z => absurd h1 z) (fun _ => br_f (by decide) (hy_point (fun z => absurd h2 z) (fun _ => br_f (by decide) (hy_way ok hs ht fun r b hr hb => ?_))))
        have er : r = tb (7 * s + t) := hp_eq.mpr (gr_uniq gok hs hr hA)
        subst er
        have le : ¬ tb (7 * s + t) ≤ -1000 := by
          rw [hp_le, hp_B]
          omega
        refine loop_0 (fun n i (_ : Unit) => wY_fewest_30 _ (nI t) (tb (7 * s + t)) f_top f_bottom f_ringPoints a_arcThere a_arcFrom a_arcTo a_arcWeight b a_ways n (nI i)) (fun _ _ => True) m0 () trivial ?_ ?_
        · intro n _ _
          refine br_f le ?_
          rw [hp_ix', cm]
          refine ⟨vp_in_nI (by omega) (by decide), br_t ?_ ?_⟩
          · exact hp_eq.mpr ((gr_lvW (hb m0 t (by omega) ht) hM.2 (by omega)).mpr hW)
          · unfold wY_fewest_59
            exact br_f le ⟨rfl, rfl, rfl, rfl, rfl, ok, hqd⟩
        · intro n i _ hi _ hn
          have ci : (nI (7 * i + t)).toNatClampNeg = 7 * i + t := nI_clamp (by omega)
          refine br_f le ?_
          rw [hp_ix', ci, nI_1]
          refine ⟨vp_in_nI (by omega) (by decide), br_f (fun z => ?_) (nm_e (hn () trivial))⟩
          rw [hp_eq, gr_lvW (hb i t (by omega) ht) hM.2 (by omega)] at z
          exact hl i hi ⟨by omega, z⟩
    · intro n i _ hi _ hn
      have ci : (nI (7 * i + t)).toNatClampNeg = 7 * i + t := nI_clamp (by omega)
      refine br_f (nI_ge (b := 7) (by omega) (by decide)) ?_
      rw [hp_ix, ci, nI_1]
      refine ⟨vp_in_nI (by omega) (by decide), br_f (fun z => ?_) (nm_e (hn () trivial))⟩
      rw [hp_eq, gr_lvW (gr_mnC (fun c => gr_V1.symm) (hlv i t (by omega) ht)) hM.2 (by omega)] at z
      exact hl i hi ⟨by omega, z⟩
end
section
/-! on, widest, calm, the means -/
section
variable {A : Nat → Nat → Int → Prop}
theorem gr_AnsN (ok : gr_ok A) {s t : Nat} (hs : s < 7) {r a : Int} (h : gr_Ans A s t r) (hm : gr_M A s t a) : a = r ∧ r ≠ -3000 ∧ r ≠ -4000 := by
  have e : a = r := gr_uniq ok hs (Or.inr (Or.inr hm)) h
  subst e
  have := gr_Mr ok hs hm
  omega
end
/-- arc k is on a least walk from s to t, whose weight is r -/
def hx_on (K : Nat → Nat → Nat → Int → Prop) (A : Nat → Nat → Int → Prop) (s t : Nat) (r : Int) (k : Nat) : Prop := ∃ u v x a b, K k u v x ∧ gr_M A s u a ∧ gr_M A v t b ∧ a + x + b = r
theorem hx_onI {th fr to wt : Nat → Int32} (ok : hx_ok th fr to wt) {s t u v j : Nat} {x za zb r : Int} (hs : s < 7) (hv : v < 7) (kk : ∀ u' v' x', hx_K th fr to wt j u' v' x' ↔ u' = u ∧ v' = v ∧ x' = x) (ha : gr_Ans (hx_A th fr to wt) s u za) (hb : gr_Ans (hx_A th fr to wt) v t zb) : hx_on (hx_K th fr to wt) (hx_A th fr to wt) s t r j ↔ za ≠ -3000 ∧ za ≠ -4000 ∧ zb ≠ -3000 ∧ zb ≠ -4000 ∧ za + x + zb = r := by
  have gok := hx_grok ok
  constructor
  · rintro ⟨u', v', x', a, b, hk, m1, m2, e⟩
    obtain ⟨rfl, rfl, rfl⟩ := (kk _ _ _).mp hk
    obtain ⟨e1, f1, f2⟩ := gr_AnsN gok hs ha m1
    obtain ⟨e2, f3, f4⟩ := gr_AnsN gok hv hb m2
    exact ⟨f1, f2, f3, f4, by omega⟩
  · rintro ⟨f1, f2, f3, f4, e⟩
    exact ⟨u, v, x, za, zb, (kk _ _ _).mpr ⟨rfl, rfl, rfl⟩, (gr_AnsM gok hs ha).mp ⟨f1, f2⟩, (gr_AnsM gok hv hb).mp ⟨f3, f4⟩, e⟩
theorem i_vc_on {k : Nat} {u : SX} {v : SY} (I : i_Rel k u v) (hk : k + 4 ≤ 2048) (v1 : Int32) (v2 : Int32) : wpX_on (fun r u' => wpY_on (fun r' v' => r' = r ∧ i_Rel (k + 4) u' v') v v1 v2) u v1 v2 := by
  obtain ⟨f_queueStart, f_queueLength, f_leastTop, f_leastBottom, a_arcThere, a_arcFrom, a_arcTo, a_arcWeight, a_table, a_otherTable, a_squared, a_levels, a_setCells, a_onRingBelowZero, a_queue, a_queued, a_arcsUsed⟩ := u
  obtain ⟨f_top, f_bottom, f_ringPoints, a_there, a_froms, a_tos, a_weights, a_walks, a_ways⟩ := v
  obtain ⟨rfl, rfl, rfl, rfl, ok, hq⟩ := I
  have gok := hx_grok ok
  unfold wpX_on wpY_on
  dsimp only
  refine hx_isPoint (fun n1 => br_t rfl ?_) (fun h1 => br_f (by decide) ?_)
  · exact hy_point (fun _ => br_t rfl ⟨rfl, rfl, rfl, rfl, rfl, ok, hq⟩) (fun z => absurd z n1)
  refine hx_isPoint (fun n2 => br_t rfl ?_) (fun h2 => br_f (by decide) ?_)
  · exact hy_point (fun z => absurd h1 z) (fun _ => br_f (by decide) (hy_point (fun _ => br_t rfl ⟨rfl, rfl, rfl, rfl, rfl, ok, hq⟩) (fun z => absurd z n2)))
  have h1' := h1
  have h2' := h2
  obtain ⟨s, hs, rfl⟩ := h1'
  obtain ⟨t, ht, rfl⟩ := h2'
  have ck : (nI (7 * s + t)).toNatClampNeg = 7 * s + t := nI_clamp (by omega)
  refine hx_fill_table (e := 0) ok hq (by decide) fun st ln tb sq sc rb q qd us hqd ha => ?_
  dsimp only
  rw [hp_ix, ck]
  have hA := ha s t hs ht
  have rA := gr_Ansr gok hs hA
  refine ⟨vp_in_nI (by omega) (by decide), nm_e (hx_isFound (fun f => br_t rfl ?_) (fun f1 f2 => br_f (by decide) ?_))⟩
  · refine hy_point (fun z => absurd h1 z) (fun _ => br_f (by decide) (hy_point (fun z => absurd h2 z) (fun _ => br_f (by decide) (hy_way ok hs ht fun r b hr _ => ⟨1, ?_⟩))))
    have er : r = tb (7 * s + t) := hp_eq.mpr (gr_uniq gok hs hr hA)
    subst er
    have le : tb (7 * s + t) ≤ -1000 := by
      rw [hp_le, hp_B]
      omega
    exact br_f (by decide) (br_t le ⟨rfl, rfl, rfl, rfl, rfl, ok, hqd⟩)
  · refine loop_0 (fun n i (r : Int32) => wX_on_55 _ (nI s) (nI t) (tb (7 * s + t)) st ln f_leastTop f_leastBottom a_arcThere a_arcFrom a_arcTo a_arcWeight tb a_otherTable sq a_levels sc rb q qd us n r (nI i)) (fun i r => hx_set (hx_on (hx_K a_arcThere a_arcFrom a_arcTo a_arcWeight) (hx_A a_arcThere a_arcFrom a_arcTo a_arcWeight) s t (tb (7 * s + t)).toInt) i r) 20 0 (hx_set0 _) ?_ ?_
    · intro n r hr
      refine br_t (nI_le (Nat.le_refl 20) (by decide)) ?_
      refine hy_point (fun z => absurd h1 z) (fun _ => br_f (by decide) (hy_point (fun z => absurd h2 z) (fun _ => br_f (by decide) (hy_way ok hs ht fun w b hw _ => ?_))))
      have er : w = tb (7 * s + t) := hp_eq.mpr (gr_uniq gok hs hw hA)
      subst er
      have le : ¬ tb (7 * s + t) ≤ -1000 := by
        rw [hp_le, hp_B]
        omega
      refine loop_0 (fun n i (z : Int32 × (Nat → Int32)) => wY_on_33 _ (nI s) (nI t) (tb (7 * s + t)) n z.1 (nI i) f_top f_bottom f_ringPoints a_arcThere a_arcFrom a_arcTo a_arcWeight z.2 a_ways) (fun i z => hx_set (hx_on (hx_K a_arcThere a_arcFrom a_arcTo a_arcWeight) (hx_A a_arcThere a_arcFrom a_arcTo a_arcWeight) s t (tb (7 * s + t)).toInt) i z.1) 20 (0, b) (hx_set0 _) ?_ ?_
      · rintro n ⟨r', b'⟩ hr'
        exact br_t (nI_le (Nat.le_refl 20) (by decide)) ⟨hx_setU hr' hr fun _ _ => Iff.rfl, rfl, rfl, rfl, rfl, ok, hqd⟩
      · rintro n i ⟨r', b'⟩ hi hr' hn
        dsimp only at hr'
        obtain ⟨u, v, x, hu, hv, eu, ev, ew, hx1, hx2, hk0, hk1⟩ := hx_arc ok hi
        have ci : (nI i).toNatClampNeg = i := nI_clamp (by omega)
        have vi : vp_in (nI i) 20 := vp_in_nI hi (by decide)
        refine br_f (nI_ge (b := 20) hi (by decide)) (br_f le ?_)
        dsimp only
        rw [ci, eu]
        refine ⟨vi, br_c (fun t0 => ?_) (fun t0 => ⟨vi, hy_way ok hs hu fun w1 b1 hw1 _ => ?_⟩)⟩
        · unfold wY_on_75
          rw [ci]
          refine ⟨vi, br_t t0 ?_⟩
          unfold wY_on_105
          refine br_t (by decide) ?_
          rw [nI_1]
          refine nm_e (hn (r', b') (hx_setF hr' ?_))
          rintro ⟨u', v', x', _, _, hk, _⟩
          exact hk0 t0 _ _ _ hk
        · obtain ⟨kk, _⟩ := hk1 t0
          have r1 := gr_Ansr gok hs hw1
          dsimp only
          unfold wY_on_75
          rw [ci, ev]
          refine ⟨vi, br_f t0 ⟨vi, hy_way ok hv ht fun w2 b2 hw2 _ => ?_⟩⟩
          have r2 := gr_Ansr gok hv hw2
          have eP := hx_onI ok (r := (tb (7 * s + t)).toInt) hs hv kk hw1 hw2
          have es : (w1 + a_arcWeight i + w2).toInt = w1.toInt + x + w2.toInt ∨ w1.toInt ≤ -1000 ∨ w2.toInt ≤ -1000 := by
            by_cases c1 : w1.toInt ≤ -1000
            · exact Or.inr (Or.inl c1)
            · by_cases c2 : w2.toInt ≤ -1000
              · exact Or.inr (Or.inr c2)
              · exact Or.inl (hp_add (hp_add rfl ew (by omega) (by omega)) rfl (by omega) (by omega))
          dsimp only
          unfold wY_on_105
          rw [ci, nI_1]
          refine br_c (fun c1 => nm_e (hn (r', b2) (hx_setF hr' fun z => ?_))) (fun c1 => br_c (fun c2 => nm_e (hn (r', b2) (hx_setF hr' fun z => ?_))) (fun c2 => ⟨vi, br_c (fun c3 => nm_e (nm_e (hn (_, b2) (hx_setT hr' (by omega) (eP.mpr ?_))))) (fun c3 => nm_e (hn (r', b2) (hx_setF hr' fun z => ?_)))⟩))
          · rw [hp_le, hp_B] at c1
            have := eP.mp z
            omega
          · rw [hp_le, hp_B] at c2
            have := eP.mp z
            omega
          · rw [hp_le, hp_B] at c1 c2
            rw [hp_eq] at c3
            omega
          · rw [hp_le, hp_B] at c1 c2
            rw [hp_eq] at c3
            have := eP.mp z
            omega
    · intro n i r hi hr hn
      obtain ⟨u, v, x, hu, hv, eu, ev, ew, hx1, hx2, hk0, hk1⟩ := hx_arc ok hi
      have ci : (nI i).toNatClampNeg = i := nI_clamp (by omega)
      have cu : (nI (7 * s + u)).toNatClampNeg = 7 * s + u := nI_clamp (by omega)
      have cv : (nI (7 * v + t)).toNatClampNeg = 7 * v + t := nI_clamp (by omega)
      have vi : vp_in (nI i) 20 := vp_in_nI hi (by decide)
      refine br_f (nI_ge (b := 20) hi (by decide)) ?_
      simp only [ci, eu, ev, hp_ix, cu, cv, nI_1]
      refine ⟨vi, br_c (fun t0 => nm_e (hn r (hx_setF hr ?_))) (fun t0 => ⟨vi, vp_in_nI (by omega) (by decide), nm_e ⟨vi, vp_in_nI (by omega) (by decide), nm_e ?_⟩⟩)⟩
      · rintro ⟨u', v', x', _, _, hk, _⟩
        exact hk0 t0 _ _ _ hk
      obtain ⟨kk, _⟩ := hk1 t0
      have a1 := ha s u hs hu
      have a2 := ha v t hv ht
      have r1 := gr_Ansr gok hs a1
      have r2 := gr_Ansr gok hv a2
      have eP := hx_onI ok (r := (tb (7 * s + t)).toInt) hs hv kk a1 a2
      refine hx_isFound (fun f => br_t rfl (nm_e (hn r (hx_setF hr fun z => ?_)))) (fun g1 g2 => br_f (by decide) (hx_isFound (fun f => br_t rfl (nm_e (hn r (hx_setF hr fun z => ?_)))) (fun g3 g4 => br_f (by decide) ⟨vi, ?_⟩)))
      · have := eP.mp z
        omega
      · have := eP.mp z
        omega
      · have es : (tb (7 * s + u) + a_arcWeight i + tb (7 * v + t)).toInt = (tb (7 * s + u)).toInt + x + (tb (7 * v + t)).toInt := hp_add (hp_add rfl ew (by omega) (by omega)) rfl (by omega) (by omega)
        refine br_c (fun c3 => nm_e (nm_e (hn _ (hx_setT hr (by omega) (eP.mpr ?_))))) (fun c3 => nm_e (hn r (hx_setF hr fun z => ?_)))
        · rw [hp_eq, es] at c3
          exact ⟨g1, g2, g3, g4, c3⟩
        · rw [hp_eq, es] at c3
          exact c3 (eP.mp z).2.2.2.2
/-- the greatest found of the first c pairs of two points -/
def hx_mx (A : Nat → Nat → Int → Prop) (c : Nat) (r : Int) : Prop := (r = -3000 ∧ ∀ s t a, s < 7 → t < 7 → 7 * s + t < c → s ≠ t → ¬ gr_M A s t a) ∨ ((∃ s t, s < 7 ∧ t < 7 ∧ 7 * s + t < c ∧ s ≠ t ∧ gr_M A s t r) ∧ ∀ s t a, s < 7 → t < 7 → 7 * s + t < c → s ≠ t → gr_M A s t a → a ≤ r)
section
variable {A : Nat → Nat → Int → Prop}
theorem hx_mxU {c : Nat} {r r' : Int} (h : hx_mx A c r) (h' : hx_mx A c r') : r = r' := by
  rcases h with ⟨e, h⟩ | ⟨⟨s, t, g1, g2, g3, g4, g5⟩, h⟩ <;> rcases h' with ⟨e', h'⟩ | ⟨⟨s', t', k1, k2, k3, k4, k5⟩, h'⟩
  · omega
  · exact absurd k5 (h _ _ _ k1 k2 k3 k4)
  · exact absurd g5 (h' _ _ _ g1 g2 g3 g4)
  · have := h _ _ _ k1 k2 k3 k4 k5
    have := h' _ _ _ g1 g2 g3 g4 g5
    omega
theorem hx_mxK (ok : gr_ok A) {s t : Nat} {r : Int} (hs : s < 7) (ht : t < 7) (h : hx_mx A (7 * s + t) r) (hr : s ≠ t → ∀ a, gr_M A s t a → a ≤ r) : hx_mx A (7 * s + t + 1) r := by
  have new : ∀ s' t' a, s' < 7 → t' < 7 → 7 * s' + t' < 7 * s + t + 1 → s' ≠ t' → gr_M A s' t' a → 7 * s' + t' < 7 * s + t ∨ a ≤ r := by
    intro s' t' a h1 h2 h3 h4 h5
    by_cases e : 7 * s' + t' = 7 * s + t
    · have e1 : s' = s := by omega
      have e2 : t' = t := by omega
      subst e1 e2
      exact Or.inr (hr h4 a h5)
    · exact Or.inl (by omega)
  rcases h with ⟨e, h⟩ | ⟨⟨s', t', g1, g2, g3, g4, g5⟩, h⟩
  · refine Or.inl ⟨e, fun s' t' a h1 h2 h3 h4 h5 => ?_⟩
    rcases new s' t' a h1 h2 h3 h4 h5 with z | z
    · exact h s' t' a h1 h2 z h4 h5
    · have := gr_Mr ok h1 h5
      omega
  · refine Or.inr ⟨⟨s', t', g1, g2, by omega, g4, g5⟩, fun s' t' a h1 h2 h3 h4 h5 => ?_⟩
    rcases new s' t' a h1 h2 h3 h4 h5 with z | z
    · exact h s' t' a h1 h2 z h4 h5
    · exact z
theorem hx_mxT {s t : Nat} {r z : Int} (hs : s < 7) (ht : t < 7) (h : hx_mx A (7 * s + t) r) (hne : s ≠ t) (hm : gr_M A s t z) (hz : r ≤ z) : hx_mx A (7 * s + t + 1) z := by
  refine Or.inr ⟨⟨s, t, hs, ht, by omega, hne, hm⟩, fun s' t' a h1 h2 h3 h4 h5 => ?_⟩
  by_cases e : 7 * s' + t' = 7 * s + t
  · have e1 : s' = s := by omega
    have e2 : t' = t := by omega
    subst e1 e2
    obtain ⟨n, g⟩ := hm.1
    exact h5.2 n z g
  · rcases h with ⟨_, h⟩ | ⟨_, h⟩
    · exact absurd h5 (h s' t' a h1 h2 (by omega) h4)
    · exact Int.le_trans (h s' t' a h1 h2 (by omega) h4 h5) hz
theorem hx_mxr (ok : gr_ok A) {c : Nat} {r : Int} (h : hx_mx A c r) : r = -3000 ∨ (-120 ≤ r ∧ r ≤ 120) := by
  rcases h with ⟨e, _⟩ | ⟨⟨s, t, g1, g2, g3, g4, g5⟩, _⟩
  · exact Or.inl e
  · have := gr_Mr ok g1 g5
    exact Or.inr ⟨by omega, by omega⟩
end
theorem i_vc_widest {k : Nat} {u : SX} {v : SY} (I : i_Rel k u v) (hk : k + 4 ≤ 2048) : wpX_widest (fun r u' => wpY_widest (fun r' v' => r' = r ∧ i_Rel (k + 4) u' v') v) u := by
  obtain ⟨f_queueStart, f_queueLength, f_leastTop, f_leastBottom, a_arcThere, a_arcFrom, a_arcTo, a_arcWeight, a_table, a_otherTable, a_squared, a_levels, a_setCells, a_onRingBelowZero, a_queue, a_queued, a_arcsUsed⟩ := u
  obtain ⟨f_top, f_bottom, f_ringPoints, a_there, a_froms, a_tos, a_weights, a_walks, a_ways⟩ := v
  obtain ⟨rfl, rfl, rfl, rfl, ok, hq⟩ := I
  have gok := hx_grok ok
  unfold wpX_widest
  dsimp only
  refine hx_fill_table (e := 0) ok hq (by decide) fun st ln tb sq sc rb q qd us hqd ha => ?_
  have z0 : hx_mx (hx_A a_arcThere a_arcFrom a_arcTo a_arcWeight) 0 (-3000 : Int32).toInt := Or.inl ⟨hp_N, fun s t a _ _ h => absurd h (by omega)⟩
  refine loop_0 (fun n i (r : Int32) => wX_widest_15 _ st ln f_leastTop f_leastBottom a_arcThere a_arcFrom a_arcTo a_arcWeight tb a_otherTable sq a_levels sc rb q qd us n r (nI i)) (fun i r => hx_mx (hx_A a_arcThere a_arcFrom a_arcTo a_arcWeight) (7 * i) r.toInt) 7 (-3000) z0 ?_ ?_
  · intro n r hr
    refine br_t (nI_le (Nat.le_refl 7) (by decide)) ?_
    refine loop_0 (fun n i (z : Int32 × (Nat → Int32)) => wY_widest_6 _ n z.1 (nI i) f_top f_bottom f_ringPoints a_arcThere a_arcFrom a_arcTo a_arcWeight z.2 a_ways) (fun i z => hx_mx (hx_A a_arcThere a_arcFrom a_arcTo a_arcWeight) i z.1.toInt) 49 (-3000, a_walks) z0 ?_ ?_
    · rintro n ⟨r', b'⟩ hr'
      exact br_t (nI_le (Nat.le_refl 49) (by decide)) ⟨hp_eq.mpr (hx_mxU hr' hr), rfl, rfl, rfl, rfl, ok, hqd⟩
    · rintro n c ⟨r', b'⟩ hc hr' hn
      dsimp only at hr'
      obtain ⟨s, t, rfl, ht, hs⟩ : ∃ s t, c = 7 * s + t ∧ t < 7 ∧ s < 7 := ⟨c / 7, c % 7, by omega, by omega, by omega⟩
      obtain ⟨e1, e2⟩ := hp_c7 (i := s) ht (by omega)
      have n7 : ¬ (7 : Int32) = 0 := by decide
      refine br_f (nI_ge (b := 49) hc (by decide)) ?_
      dsimp only
      rw [e2, e1, nI_eq (by omega) (by omega)]
      refine ⟨n7, n7, br_c (fun c1 => ?_) (fun c1 => ⟨n7, n7, hy_way ok hs ht fun w b hw _ => ?_⟩)⟩
      · unfold wY_widest_41
        rw [nI_1]
        exact br_t (by decide) (nm_e (hn (r', b') (hx_mxK gok hs ht hr' fun z => absurd c1 z)))
      · have rw' := gr_Ansr gok hs hw
        dsimp only
        unfold wY_widest_41
        rw [nI_1]
        refine br_c (fun c2 => nm_e (hn (r', b) (hx_mxK gok hs ht hr' fun _ a hm => ?_))) (fun c2 => br_c (fun c3 => nm_e (hn (r', b) (hx_mxK gok hs ht hr' fun _ a hm => ?_))) (fun c3 => nm_e (hn (w, b) (hx_mxT hs ht hr' c1 ((gr_AnsM gok hs hw).mp ⟨?_, ?_⟩) ?_))))
        · rw [hp_le, hp_B] at c2
          obtain ⟨_, f1, f2⟩ := gr_AnsN gok hs hw hm
          omega
        · rw [hp_le] at c3
          obtain ⟨f0, f1, f2⟩ := gr_AnsN gok hs hw hm
          dsimp only
          omega
        · rw [hp_le, hp_B] at c2
          omega
        · rw [hp_le, hp_B] at c2
          omega
        · rw [hp_le] at c3
          dsimp only
          omega
  · intro n s r hs hr hn
    refine br_f (nI_ge (b := 7) hs (by decide)) ?_
    refine loop_0 (fun n' i (r : Int32) => wX_widest_23 _ (wX_widest_15 _ st ln f_leastTop f_leastBottom a_arcThere a_arcFrom a_arcTo a_arcWeight tb a_otherTable sq a_levels sc rb q qd us n) (nI s) st ln f_leastTop f_leastBottom a_arcThere a_arcFrom a_arcTo a_arcWeight tb a_otherTable sq a_levels sc rb q qd us n' r (nI i)) (fun i r => hx_mx (hx_A a_arcThere a_arcFrom a_arcTo a_arcWeight) (7 * s + i) r.toInt) 7 r hr ?_ ?_
    · intro n' r hr
      refine br_t (nI_le (Nat.le_refl 7) (by decide)) ?_
      rw [nI_1]
      exact nm_e (hn r hr)
    · intro n' t r ht hr hn'
      have ck : (nI (7 * s + t)).toNatClampNeg = 7 * s + t := nI_clamp (by omega)
      have hA := ha s t hs ht
      have rA := gr_Ansr gok hs hA
      refine br_f (nI_ge (b := 7) ht (by decide)) ?_
      rw [hp_ix, ck, nI_1, nI_eq (by omega) (by omega)]
      refine ⟨vp_in_nI (by omega) (by decide), nm_e (br_c (fun c1 => nm_e (hn' r (hx_mxK gok hs ht hr fun z => absurd c1 z))) (fun c1 => hx_isFound (fun f => br_t rfl (nm_e (hn' r (hx_mxK gok hs ht hr fun _ a hm => ?_)))) (fun f1 f2 => br_f (by decide) (br_c (fun c3 => nm_e (hn' r (hx_mxK gok hs ht hr fun _ a hm => ?_))) (fun c3 => nm_e (hn' _ (hx_mxT hs ht hr c1 ((gr_AnsM gok hs hA).mp ⟨f1, f2⟩) ?_)))))))⟩
      · obtain ⟨_, g1, g2⟩ := gr_AnsN gok hs hA hm
        omega
      · rw [hp_le] at c3
        obtain ⟨g0, g1, g2⟩ := gr_AnsN gok hs hA hm
        omega
      · rw [hp_le] at c3
        omega
end
section
/-! calm, the means, the points on a least ring -/
theorem gr_calm {A : Nat → Nat → Int → Prop} (ok : gr_ok A) {t b : Int} (h : gr_Mean A t b) : t < 0 ↔ ∃ p, p < 7 ∧ gr_L A p p := by
  constructor
  · intro hl
    obtain ⟨s, m, n, c, hr, hc⟩ := h.2.1
    have hs : s < 7 := by
      obtain ⟨n', u, c', x, g, a, _⟩ := hr
      exact (ok _ _ _ a).2.1
    have hn := gr_Rgn (gr_oki ok) hs hr
    refine ⟨s, hs, gr_Lneg (gr_RgW hr) ?_⟩
    refine Classical.byContradiction fun z => ?_
    have k1 : 0 ≤ b * c := Int.mul_nonneg (by have := h.1; omega) (by omega)
    have k2 : t * n < 0 * n := Int.mul_lt_mul_of_pos_right hl (by omega)
    omega
  · rintro ⟨p, hp, hL⟩
    obtain ⟨y, _, _, n, u, m, c, x, g, a, hx⟩ := gr_Lring ok hp hL
    have k := h.2.2 y m (n + 1) (c + x) ⟨n, u, c, x, g, a, rfl, rfl⟩
    refine Classical.byContradiction fun z => ?_
    have k1 : 0 ≤ t * ((n + 1 : Nat) : Int) := Int.mul_nonneg (by omega) (by omega)
    have k2 : b * (c + x) < b * 0 := Int.mul_lt_mul_of_pos_left hx h.1
    omega
theorem gr_calmN {A : Nat → Nat → Int → Prop} (ok : gr_ok A) (h : ∀ s m n c, ¬ gr_Rg A s m n c) : ¬ ∃ p, p < 7 ∧ gr_L A p p := by
  rintro ⟨p, hp, hL⟩
  obtain ⟨y, _, _, n, u, m, c, x, g, a, hx⟩ := gr_Lring ok hp hL
  exact h y m (n + 1) (c + x) ⟨n, u, c, x, g, a, rfl, rfl⟩
theorem i_vc_calm {k : Nat} {u : SX} {v : SY} (I : i_Rel k u v) (hk : k + 4 ≤ 2048) : wpX_calm (fun r u' => wpY_calm (fun r' v' => r' = r ∧ i_Rel (k + 4) u' v') v) u := by
  obtain ⟨f_queueStart, f_queueLength, f_leastTop, f_leastBottom, a_arcThere, a_arcFrom, a_arcTo, a_arcWeight, a_table, a_otherTable, a_squared, a_levels, a_setCells, a_onRingBelowZero, a_queue, a_queued, a_arcsUsed⟩ := u
  obtain ⟨f_top, f_bottom, f_ringPoints, a_there, a_froms, a_tos, a_weights, a_walks, a_ways⟩ := v
  obtain ⟨rfl, rfl, rfl, rfl, ok, hq⟩ := I
  have gok := hx_grok ok
  unfold wpX_calm wpY_calm
  dsimp only
  refine hx_fill_table (e := 0) ok hq (by decide) fun st ln tb sq sc rb q qd us hqd ha => ?_
  have step : ∀ p, p < 7 → (tb (7 * p + p) = -4000 ↔ gr_L (hx_A a_arcThere a_arcFrom a_arcTo a_arcWeight) p p) := by
    intro p hp
    rw [hp_eq, hp_L]
    exact gr_AnsL gok hp (ha p p hp hp)
  by_cases c : ∃ p, p < 7 ∧ gr_L (hx_A a_arcThere a_arcFrom a_arcTo a_arcWeight) p p
  · obtain ⟨p, ⟨hp, hL⟩, hl⟩ := pk_least _ c
    refine loop_0 (fun n i (_ : Unit) => wX_calm_11 _ st ln f_leastTop f_leastBottom a_arcThere a_arcFrom a_arcTo a_arcWeight tb a_otherTable sq a_levels sc rb q qd us n (nI i)) (fun _ _ => True) p () trivial ?_ ?_
    · intro n _ _
      have ck : (nI (7 * p + p)).toNatClampNeg = 7 * p + p := nI_clamp (by omega)
      refine br_f (nI_ge (b := 7) hp (by decide)) ?_
      rw [hp_ix, ck]
      refine ⟨vp_in_nI (by omega) (by decide), br_t ((step p hp).mpr hL) ?_⟩
      refine hy_rings ok fun t b r w P hP hr => ?_
      rcases gr_rbF gok hr with ⟨_, _, _, nr⟩ | ⟨h1, _, _, _, _, hM, _⟩
      · exact absurd c (gr_calmN gok nr)
      · refine br_f ?_ (br_t ?_ ⟨rfl, rfl, rfl, rfl, rfl, ok, hqd⟩)
        · rw [hp_eq, hp_N]
          exact h1
        · rw [hp_lt, hp_0]
          exact (gr_calm gok hM).mpr c
    · intro n i _ hi _ hn
      have ck : (nI (7 * i + i)).toNatClampNeg = 7 * i + i := nI_clamp (by omega)
      refine br_f (nI_ge (b := 7) (by omega) (by decide)) ?_
      rw [hp_ix, ck, nI_1]
      refine ⟨vp_in_nI (by omega) (by decide), br_f (fun z => ?_) (nm_e (hn () trivial))⟩
      exact hl i hi ⟨by omega, (step i (by omega)).mp z⟩
  · refine loop_0 (fun n i (_ : Unit) => wX_calm_11 _ st ln f_leastTop f_leastBottom a_arcThere a_arcFrom a_arcTo a_arcWeight tb a_otherTable sq a_levels sc rb q qd us n (nI i)) (fun _ _ => True) 7 () trivial ?_ ?_
    · intro n _ _
      refine br_t (nI_le (Nat.le_refl 7) (by decide)) ?_
      refine hy_rings ok fun t b r w P hP hr => ?_
      rcases gr_rbF gok hr with ⟨h1, _, _, nr⟩ | ⟨h1, _, _, _, _, hM, _⟩
      · refine br_t ?_ ⟨rfl, rfl, rfl, rfl, rfl, ok, hqd⟩
        rw [hp_eq, hp_N]
        exact h1
      · refine br_f ?_ (br_f ?_ ⟨rfl, rfl, rfl, rfl, rfl, ok, hqd⟩)
        · rw [hp_eq, hp_N]
          exact h1
        · rw [hp_lt, hp_0]
          exact fun z => c ((gr_calm gok hM).mp z)
    · intro n i _ hi _ hn
      have ck : (nI (7 * i + i)).toNatClampNeg = 7 * i + i := nI_clamp (by omega)
      refine br_f (nI_ge (b := 7) (by omega) (by decide)) ?_
      rw [hp_ix, ck, nI_1]
      refine ⟨vp_in_nI (by omega) (by decide), br_f (fun z => ?_) (nm_e (hn () trivial))⟩
      exact c ⟨i, hi, (step i hi).mp z⟩
def hx_me (p : Int32) : Prop := ∃ e, e < 2 ∧ p = nI e
theorem hx_isMean {post : Int32 → Prop} {p : Int32} (h0 : ¬ hx_me p → post 0) (h1 : hx_me p → post 1) : wpX_isMeanEngine post p := by
  have e := hx_rng (p := p) (N := 2) (by decide)
  refine br_c (fun c => h0 fun z => ?_) (fun c => br_c (fun c2 => h0 fun z => ?_) (fun c2 => h1 (e.mpr ?_)))
  · have := e.mp z
    rw [hp_lt, hp_0] at c
    omega
  · have := e.mp z
    rw [hp_le, hp_2] at c2
    omega
  · rw [hp_lt, hp_0] at c
    rw [hp_le, hp_2] at c2
    omega
theorem hy_mean {p : Int32} {P Q : Prop} (h0 : ¬ hx_me p → P) (h1 : hx_me p → Q) : ((p < 0 → P) ∧ (¬ p < 0 → ((p ≤ 1 → Q) ∧ (¬ p ≤ 1 → P)))) := by
  have e := hx_rng (p := p) (N := 2) (by decide)
  refine br_c (fun c => h0 fun z => ?_) (fun c => br_c (fun c2 => h1 (e.mpr ?_)) (fun c2 => h0 fun z => ?_))
  · have := e.mp z
    rw [hp_lt, hp_0] at c
    omega
  · rw [hp_lt, hp_0] at c
    rw [hp_le, hp_1] at c2
    omega
  · have := e.mp z
    rw [hp_le, hp_1] at c2
    omega
theorem hx_frac {A : Nat → Nat → Int → Prop} {t b t' b' : Int} {g : Nat} (h : hx_mred A t b) (hM : gr_Mean A t' b') (hb' : 1 ≤ b' ∧ b' ≤ 7) (g1 : 1 ≤ g) (g7 : g ≤ 7) (d1 : (g : Int) ∣ t') (d2 : (g : Int) ∣ b') (hn : gr_nc (g + 1) t' b') : t = t'.tdiv g ∧ b = b'.tdiv g ∧ 1 ≤ b := by
  obtain ⟨k1, k2, k3, k4⟩ := h.2.2.2.1 t' b' hM
  obtain ⟨t1, e1⟩ := d1
  obtain ⟨b1, e2⟩ := d2
  have q1 : t'.tdiv g = t1 := by
    rw [e1]
    exact Int.mul_tdiv_cancel_left _ (by omega)
  have q2 : b'.tdiv g = b1 := by
    rw [e2]
    exact Int.mul_tdiv_cancel_left _ (by omega)
  have r := hx_dv2 (d := (g : Int)) (x := b1) (by omega) (by omega)
  have r1 : 1 ≤ b1 := by
    refine Classical.byContradiction fun z => ?_
    have z0 : b1 = 0 := by omega
    rw [z0, Int.mul_zero] at e2
    omega
  have nc : gr_nc 2 t1 b1 := by
    intro e h1 h2 h3 h4
    obtain ⟨t2, rfl⟩ := h3
    obtain ⟨b2, rfl⟩ := h4
    have p1 : 1 ≤ b2 := by
      refine Classical.byContradiction fun z => ?_
      have : e * b2 ≤ 0 := Int.mul_nonpos_of_nonneg_of_nonpos (by omega) (by omega)
      omega
    have p2 : (g : Int) * e ≤ 7 := by
      have h5 : (g : Int) * e * 1 ≤ (g : Int) * e * b2 := Int.mul_le_mul_of_nonneg_left p1 (Int.mul_nonneg (by omega) (by omega))
      rw [Int.mul_assoc (g : Int) e b2] at h5
      omega
    have p3 : (g : Int) * 2 ≤ (g : Int) * e := Int.mul_le_mul_of_nonneg_left h1 (by omega)
    refine hn ((g : Int) * e) (by omega) p2 ⟨t2, ?_⟩ ⟨b2, ?_⟩
    · rw [e1, Int.mul_assoc]
    · rw [e2, Int.mul_assoc]
  have er : t * b1 = t1 * b := by
    have k5 : (g : Int) * (t * b1) = (g : Int) * (t1 * b) := by
      rw [← Int.mul_assoc (g : Int) t1 b, ← e1, ← k3, e2, Int.mul_left_comm]
    exact Int.eq_of_mul_eq_mul_left (by omega) k5
  obtain ⟨f1, f2⟩ := gr_ncU k1 k2 r1 (by omega) k4 nc er
  rw [q1, q2]
  exact ⟨f1, f2, k1⟩
theorem i_vc_meanTop {k : Nat} {u : SX} {v : SY} (I : i_Rel k u v) (hk : k + 4 ≤ 2048) (v1 : Int32) : wpX_meanTop (fun r u' => wpY_meanTop (fun r' v' => r' = r ∧ i_Rel (k + 4) u' v') v v1) u v1 := by
  obtain ⟨f_queueStart, f_queueLength, f_leastTop, f_leastBottom, a_arcThere, a_arcFrom, a_arcTo, a_arcWeight, a_table, a_otherTable, a_squared, a_levels, a_setCells, a_onRingBelowZero, a_queue, a_queued, a_arcsUsed⟩ := u
  obtain ⟨f_top, f_bottom, f_ringPoints, a_there, a_froms, a_tos, a_weights, a_walks, a_ways⟩ := v
  obtain ⟨rfl, rfl, rfl, rfl, ok, hq⟩ := I
  have gok := hx_grok ok
  unfold wpX_meanTop wpY_meanTop
  dsimp only
  refine hx_isMean (fun n1 => br_t rfl ?_) (fun h1 => br_f (by decide) ?_)
  · exact hy_mean (fun _ => ⟨rfl, rfl, rfl, rfl, rfl, ok, hq⟩) (fun z => absurd z n1)
  have h1' := h1
  obtain ⟨e, he, rfl⟩ := h1'
  refine hx_leastMean ok he fun t b lv hm => ?_
  dsimp only
  refine br_c (fun c => ?_) (fun c => ?_)
  · refine hy_mean (fun z => absurd h1 z) (fun _ => hy_rings ok fun t' b' r w P hP hr => ?_)
    rw [hp_eq, hp_0] at c
    rcases gr_rbF gok hr with ⟨z1, _, _, nr⟩ | ⟨z1, z2, z3, z4, z5, hM, _⟩
    · refine br_t ?_ ⟨rfl, rfl, rfl, rfl, rfl, ok, hq⟩
      rw [hp_eq, hp_N]
      exact z1
    · have := (hm.2.2.2.1 _ _ hM).1
      omega
  · refine hy_mean (fun z => absurd h1 z) (fun _ => hy_rings ok fun t' b' r w P hP hr => ?_)
    rw [hp_eq, hp_0] at c
    rcases gr_rbF gok hr with ⟨z1, _, _, nr⟩ | ⟨z1, z2, z3, z4, z5, hM, _⟩
    · exact absurd (hm.2.2.1 nr) c
    · refine br_f ?_ (hy_divisor ⟨z2, z3⟩ ⟨z4, z5⟩ fun g g1 g7 d1 d2 hn => ⟨nI_ne0 (by omega) (by omega), ?_, rfl, rfl, rfl, rfl, ok, hq⟩)
      · rw [hp_eq, hp_N]
        exact z1
      · obtain ⟨f1, f2, f3⟩ := hx_frac hm hM ⟨z4, z5⟩ g1 g7 d1 d2 hn
        rw [hp_eq, hp_quo g1 g7, f1]
theorem i_vc_meanBottom {k : Nat} {u : SX} {v : SY} (I : i_Rel k u v) (hk : k + 4 ≤ 2048) (v1 : Int32) : wpX_meanBottom (fun r u' => wpY_meanBottom (fun r' v' => r' = r ∧ i_Rel (k + 4) u' v') v v1) u v1 := by
  obtain ⟨f_queueStart, f_queueLength, f_leastTop, f_leastBottom, a_arcThere, a_arcFrom, a_arcTo, a_arcWeight, a_table, a_otherTable, a_squared, a_levels, a_setCells, a_onRingBelowZero, a_queue, a_queued, a_arcsUsed⟩ := u
  obtain ⟨f_top, f_bottom, f_ringPoints, a_there, a_froms, a_tos, a_weights, a_walks, a_ways⟩ := v
  obtain ⟨rfl, rfl, rfl, rfl, ok, hq⟩ := I
  have gok := hx_grok ok
  unfold wpX_meanBottom wpY_meanBottom
  dsimp only
  refine hx_isMean (fun n1 => br_t rfl ?_) (fun h1 => br_f (by decide) ?_)
  · exact hy_mean (fun _ => ⟨rfl, rfl, rfl, rfl, rfl, ok, hq⟩) (fun z => absurd z n1)
  have h1' := h1
  obtain ⟨e, he, rfl⟩ := h1'
  refine hx_leastMean ok he fun t b lv hm => ?_
  dsimp only
  refine br_c (fun c => ?_) (fun c => ?_)
  · refine hy_mean (fun z => absurd h1 z) (fun _ => hy_rings ok fun t' b' r w P hP hr => ?_)
    rw [hp_eq, hp_0] at c
    rcases gr_rbF gok hr with ⟨z1, _, _, nr⟩ | ⟨z1, z2, z3, z4, z5, hM, _⟩
    · refine br_t ?_ ⟨rfl, rfl, rfl, rfl, rfl, ok, hq⟩
      rw [hp_eq, hp_N]
      exact z1
    · have := (hm.2.2.2.1 _ _ hM).1
      omega
  · refine hy_mean (fun z => absurd h1 z) (fun _ => hy_rings ok fun t' b' r w P hP hr => ?_)
    rw [hp_eq, hp_0] at c
    rcases gr_rbF gok hr with ⟨z1, _, _, nr⟩ | ⟨z1, z2, z3, z4, z5, hM, _⟩
    · exact absurd (hm.2.2.1 nr) c
    · refine br_f ?_ (hy_divisor ⟨z2, z3⟩ ⟨z4, z5⟩ fun g g1 g7 d1 d2 hn => ⟨nI_ne0 (by omega) (by omega), ?_, rfl, rfl, rfl, rfl, ok, hq⟩)
      · rw [hp_eq, hp_N]
        exact z1
      · obtain ⟨f1, f2, f3⟩ := hx_frac hm hM ⟨z4, z5⟩ g1 g7 d1 d2 hn
        rw [hp_eq, hp_quo g1 g7, f2]
theorem i_vc_onLeastRing {k : Nat} {u : SX} {v : SY} (I : i_Rel k u v) (hk : k + 4 ≤ 2048) : wpX_onLeastRing (fun r u' => wpY_onLeastRing (fun r' v' => r' = r ∧ i_Rel (k + 4) u' v') v) u := by
  obtain ⟨f_queueStart, f_queueLength, f_leastTop, f_leastBottom, a_arcThere, a_arcFrom, a_arcTo, a_arcWeight, a_table, a_otherTable, a_squared, a_levels, a_setCells, a_onRingBelowZero, a_queue, a_queued, a_arcsUsed⟩ := u
  obtain ⟨f_top, f_bottom, f_ringPoints, a_there, a_froms, a_tos, a_weights, a_walks, a_ways⟩ := v
  obtain ⟨rfl, rfl, rfl, rfl, ok, hq⟩ := I
  have gok := hx_grok ok
  unfold wpX_onLeastRing wpY_onLeastRing
  dsimp only
  refine hx_leastMean (e := 0) ok (by decide) fun t b lv hm => ?_
  dsimp only
  refine br_c (fun c => ?_) (fun c => ?_)
  · refine hy_rings ok fun t' b' r w P hP hr => ?_
    rw [hp_eq, hp_0] at c
    rcases gr_rbF gok hr with ⟨z1, _, z3, nr⟩ | ⟨z1, z2, z3, z4, z5, hM, _⟩
    · subst z3
      exact ⟨hP, rfl, rfl, rfl, rfl, ok, hq⟩
    · have := (hm.2.2.2.1 _ _ hM).1
      omega
  · rw [hp_eq, hp_0] at c
    refine loop_0 (fun n i (z : Int32 × (Nat → Int32)) => wX_onLeastRing_18 _ n z.1 (nI i) f_queueStart f_queueLength t b a_arcThere a_arcFrom a_arcTo a_arcWeight a_table a_otherTable a_squared z.2 a_setCells a_onRingBelowZero a_queue a_queued a_arcsUsed) (fun i z => hx_set (fun p => ∃ n c, 1 ≤ n ∧ n ≤ 7 ∧ gr_W (hx_A a_arcThere a_arcFrom a_arcTo a_arcWeight) n p p c ∧ (∀ d, gr_W (hx_A a_arcThere a_arcFrom a_arcTo a_arcWeight) n p p d → c ≤ d) ∧ c * b.toInt = t.toInt * (n : Int)) i z.1) 7 (0, lv) (hx_set0 _) ?_ ?_
    · rintro n ⟨r, lv'⟩ hr
      dsimp only at hr
      refine br_t (nI_le (Nat.le_refl 7) (by decide)) (hy_rings ok fun t' b' r' w P hP hr' => ?_)
      rcases gr_rbF gok hr' with ⟨z1, _, z3, nr⟩ | ⟨z1, z2, z3, z4, z5, hM, p1, p2⟩
      · exact absurd (hm.2.2.1 nr) c
      · obtain ⟨k1, k2, k3, _⟩ := hm.2.2.2.1 _ _ hM
        have hs' : hx_set (fun p => ∃ m n c, gr_Rg (hx_A a_arcThere a_arcFrom a_arcTo a_arcWeight) p m n c ∧ b'.toInt * c = t'.toInt * n) 7 r' := by
          refine ⟨P, hP, p1, fun i => ?_⟩
          refine ⟨fun z => ⟨?_, (p2 i).mp z⟩, fun z => (p2 i).mpr z.2⟩
          refine Classical.byContradiction fun hn => ?_
          have le : 2 ^ 7 ≤ 2 ^ i := Nat.pow_le_pow_right (by decide) (by omega)
          rw [Nat.testBit_lt_two_pow (by omega)] at z
          exact absurd z (by decide)
        refine ⟨hx_setU hs' hr fun p hp => ⟨?_, ?_⟩, rfl, rfl, rfl, rfl, ok, hq⟩
        · rintro ⟨m, n, c, g1, g2⟩
          exact ⟨n, c, gr_onr' gok hM k1 k3 hp g1 g2⟩
        · intro z
          exact gr_onr hM k1 k3 z
    · rintro n p ⟨r, lv'⟩ hp hr hn
      dsimp only at hr
      refine br_f (nI_ge (b := 7) hp (by decide)) ?_
      refine hx_levelsFrom ok hp fun lv2 hlv => ?_
      dsimp only
      rw [nI_1]
      exact hx_closesM ok hp hlv ⟨hm.1, hm.2.1⟩ hm.2.2.2.2 (fun z => br_f (by decide) (nm_e (nm_e (hn (_, lv2) (hx_setT hr (by omega) z))))) (fun z => br_t rfl (nm_e (hn (r, lv2) (hx_setF hr z))))
end
