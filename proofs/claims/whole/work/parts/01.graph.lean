/-! walks, reach, bottomless, simple walks: over any arc relation A u v x -/
def gr_W (A : Nat → Nat → Int → Prop) : Nat → Nat → Nat → Int → Prop
  | 0, s, v, c => s = v ∧ c = 0
  | n + 1, s, v, c => ∃ u c' x, gr_W A n s u c' ∧ A u v x ∧ c = c' + x
def gr_R (A : Nat → Nat → Int → Prop) (s v : Nat) : Prop := ∃ n c, gr_W A n s v c
def gr_L (A : Nat → Nat → Int → Prop) (s v : Nat) : Prop := ∀ B : Int, ∃ n c, gr_W A n s v c ∧ c < B
def gr_S (A : Nat → Nat → Int → Prop) (Q : Nat → Int → Prop) (s : Nat) : Nat → Nat → Nat → Int → Prop
  | 0, v, m, c => v = s ∧ m = 2 ^ s ∧ c = 0 ∧ Q v c
  | n + 1, v, m, c => ∃ u m' c' x, gr_S A Q s n u m' c' ∧ A u v x ∧ c = c' + x ∧ m'.testBit v = false ∧ m = m' ||| 2 ^ v ∧ Q v c
def gr_T (_ : Nat) (_ : Int) : Prop := True
def gr_NR (A : Nat → Nat → Int → Prop) (p : Nat) : Prop := ∃ n u m c x, gr_S A gr_T p n u m c ∧ A u p x ∧ c + x < 0
def gr_ok (A : Nat → Nat → Int → Prop) : Prop := ∀ u v x, A u v x → u < 7 ∧ v < 7 ∧ -20 ≤ x ∧ x ≤ 20
def gr_in (A : Nat → Nat → Int → Prop) : Prop := ∀ u v x, A u v x → u < 7 ∧ v < 7
def gr_M (A : Nat → Nat → Int → Prop) (s v : Nat) (r : Int) : Prop := (∃ n, gr_W A n s v r) ∧ ∀ n c, gr_W A n s v c → r ≤ c
def gr_Ans (A : Nat → Nat → Int → Prop) (s v : Nat) (r : Int) : Prop := (r = -3000 ∧ ¬ gr_R A s v) ∨ (r = -4000 ∧ gr_L A s v) ∨ gr_M A s v r
section
variable {A : Nat → Nat → Int → Prop} {Q : Nat → Int → Prop}
theorem gr_oki (h : gr_ok A) : gr_in A := fun u v x a => ⟨(h u v x a).1, (h u v x a).2.1⟩
theorem gr_W0 (s : Nat) : gr_W A 0 s s 0 := ⟨rfl, rfl⟩
theorem gr_Ws {n s u v : Nat} {c x : Int} (h : gr_W A n s u c) (a : A u v x) : gr_W A (n + 1) s v (c + x) := ⟨u, c, x, h, a, rfl⟩
theorem gr_W1 {u v : Nat} {x : Int} (a : A u v x) : gr_W A 1 u v x := ⟨u, 0, x, ⟨rfl, rfl⟩, a, by omega⟩
theorem gr_Wapp {n s u : Nat} {c : Int} (h : gr_W A n s u c) : ∀ {m v : Nat} {d : Int}, gr_W A m u v d → gr_W A (n + m) s v (c + d) := by
  intro m
  induction m with
  | zero =>
    intro v d hd
    obtain ⟨rfl, rfl⟩ := hd
    rw [Int.add_zero]
    exact h
  | succ m ih =>
    intro v d hd
    obtain ⟨y, d', x, h1, a, rfl⟩ := hd
    exact ⟨y, c + d', x, ih h1, a, by omega⟩
theorem gr_Rr (s : Nat) : gr_R A s s := ⟨0, 0, gr_W0 s⟩
theorem gr_Rs {s u v : Nat} {x : Int} (h : gr_R A s u) (a : A u v x) : gr_R A s v := by
  obtain ⟨n, c, h⟩ := h
  exact ⟨n + 1, c + x, gr_Ws h a⟩
theorem gr_Rt {s u v : Nat} (h : gr_R A s u) (g : gr_R A u v) : gr_R A s v := by
  obtain ⟨n, c, h⟩ := h
  obtain ⟨m, d, g⟩ := g
  exact ⟨n + m, c + d, gr_Wapp h g⟩
theorem gr_R1 {u v : Nat} {x : Int} (a : A u v x) : gr_R A u v := ⟨1, x, gr_W1 a⟩
theorem gr_Ls {s u v : Nat} {x : Int} (h : gr_L A s u) (a : A u v x) : gr_L A s v := by
  intro B
  obtain ⟨n, c, h, hc⟩ := h (B - x)
  exact ⟨n + 1, c + x, gr_Ws h a, by omega⟩
theorem gr_LR {s u v : Nat} (h : gr_L A s u) (g : gr_R A u v) : gr_L A s v := by
  obtain ⟨m, d, g⟩ := g
  intro B
  obtain ⟨n, c, h, hc⟩ := h (B - d)
  exact ⟨n + m, c + d, gr_Wapp h g, by omega⟩
theorem gr_RL {s u v : Nat} (g : gr_R A s u) (h : gr_L A u v) : gr_L A s v := by
  obtain ⟨m, d, g⟩ := g
  intro B
  obtain ⟨n, c, h, hc⟩ := h (B - d)
  exact ⟨m + n, d + c, gr_Wapp g h, by omega⟩
theorem gr_L_R {s v : Nat} (h : gr_L A s v) : gr_R A s v := by
  obtain ⟨n, c, h, _⟩ := h 0
  exact ⟨n, c, h⟩
theorem gr_Lneg {p n : Nat} {d : Int} (h : gr_W A n p p d) (hd : d < 0) : gr_L A p p := by
  have key : ∀ j : Nat, ∃ n' c', gr_W A n' p p c' ∧ c' ≤ -(j : Int) := by
    intro j
    induction j with
    | zero => exact ⟨0, 0, gr_W0 p, by omega⟩
    | succ j ih =>
      obtain ⟨n', c', h', hc⟩ := ih
      exact ⟨n' + n, c' + d, gr_Wapp h' h, by omega⟩
  intro B
  obtain ⟨n', c', h', hc⟩ := key (B.natAbs + 1)
  exact ⟨n', c', h', by omega⟩
theorem gr_Wb (ok : gr_ok A) {s : Nat} : ∀ {n v : Nat} {c : Int}, gr_W A n s v c → -20 * (n : Int) ≤ c ∧ c ≤ 20 * (n : Int) := by
  intro n
  induction n with
  | zero =>
    intro v c h
    obtain ⟨_, rfl⟩ := h
    omega
  | succ n ih =>
    intro v c h
    obtain ⟨u, c', x, h, a, rfl⟩ := h
    have h1 := ih h
    have h2 := ok _ _ _ a
    omega
theorem gr_Wv (ok : gr_in A) {s : Nat} (hs : s < 7) {n v : Nat} {c : Int} (h : gr_W A n s v c) : v < 7 := by
  cases n with
  | zero =>
    obtain ⟨rfl, _⟩ := h
    exact hs
  | succ n =>
    obtain ⟨u, c', x, h, a, rfl⟩ := h
    exact (ok _ _ _ a).2
theorem gr_SW {s : Nat} : ∀ {n v m : Nat} {c : Int}, gr_S A Q s n v m c → gr_W A n s v c := by
  intro n
  induction n with
  | zero =>
    intro v m c h
    exact ⟨h.1.symm, h.2.2.1⟩
  | succ n ih =>
    intro v m c h
    obtain ⟨u, m', c', x, h, a, e, _⟩ := h
    exact ⟨u, c', x, ih h, a, e⟩
theorem gr_ST {s : Nat} : ∀ {n v m : Nat} {c : Int}, gr_S A Q s n v m c → gr_S A gr_T s n v m c := by
  intro n
  induction n with
  | zero =>
    intro v m c h
    exact ⟨h.1, h.2.1, h.2.2.1, trivial⟩
  | succ n ih =>
    intro v m c h
    obtain ⟨u, m', c', x, h, a, e, b, b', _⟩ := h
    exact ⟨u, m', c', x, ih h, a, e, b, b', trivial⟩
theorem gr_SQ {Q' : Nat → Int → Prop} (hQ : ∀ v c, Q v c → Q' v c) {s : Nat} : ∀ {n v m : Nat} {c : Int}, gr_S A Q s n v m c → gr_S A Q' s n v m c := by
  intro n
  induction n with
  | zero =>
    intro v m c h
    exact ⟨h.1, h.2.1, h.2.2.1, hQ _ _ h.2.2.2⟩
  | succ n ih =>
    intro v m c h
    obtain ⟨u, m', c', x, h, a, e, b, b', q⟩ := h
    exact ⟨u, m', c', x, ih h, a, e, b, b', hQ _ _ q⟩
theorem gr_S0 {s : Nat} : gr_S A gr_T s 0 s (2 ^ s) 0 := ⟨rfl, rfl, rfl, trivial⟩
theorem gr_Sq {s n v m : Nat} {c : Int} (h : gr_S A Q s n v m c) : Q v c := by
  cases n with
  | zero => exact h.2.2.2
  | succ n =>
    obtain ⟨u, m', c', x, h, a, e, b, b', q⟩ := h
    exact q
theorem gr_Sv {s n v m : Nat} {c : Int} (h : gr_S A Q s n v m c) : m.testBit v = true := by
  cases n with
  | zero =>
    obtain ⟨rfl, rfl, _, _⟩ := h
    exact Nat.testBit_two_pow_self
  | succ n =>
    obtain ⟨u, m', c', x, h, a, e, b, rfl, q⟩ := h
    rw [Nat.testBit_or, Nat.testBit_two_pow_self, Bool.or_true]
theorem gr_Ss {s : Nat} : ∀ {n v m : Nat} {c : Int}, gr_S A Q s n v m c → m.testBit s = true := by
  intro n
  induction n with
  | zero =>
    intro v m c h
    obtain ⟨rfl, rfl, _, _⟩ := h
    exact Nat.testBit_two_pow_self
  | succ n ih =>
    intro v m c h
    obtain ⟨u, m', c', x, h, a, e, b, rfl, q⟩ := h
    rw [Nat.testBit_or, ih h, Bool.true_or]
def gr_pc (m : Nat) : Nat := (m.testBit 0).toNat + (m.testBit 1).toNat + (m.testBit 2).toNat + (m.testBit 3).toNat + (m.testBit 4).toNat + (m.testBit 5).toNat + (m.testBit 6).toNat
theorem gr_pc_le (m : Nat) : gr_pc m ≤ 7 := by
  have h0 := Bool.toNat_le (m.testBit 0)
  have h1 := Bool.toNat_le (m.testBit 1)
  have h2 := Bool.toNat_le (m.testBit 2)
  have h3 := Bool.toNat_le (m.testBit 3)
  have h4 := Bool.toNat_le (m.testBit 4)
  have h5 := Bool.toNat_le (m.testBit 5)
  have h6 := Bool.toNat_le (m.testBit 6)
  unfold gr_pc
  omega
theorem gr_pc_add : ∀ m, m < 128 → ∀ v, v < 7 → m.testBit v = false → gr_pc (m ||| 2 ^ v) = gr_pc m + 1 ∧ m ||| 2 ^ v < 128 := by decide +kernel
theorem gr_pc_pow : ∀ s, s < 7 → gr_pc (2 ^ s) = 1 ∧ 2 ^ s < 128 := by decide +kernel
theorem gr_Spc (ok : gr_in A) {s : Nat} (hs : s < 7) : ∀ {n v m : Nat} {c : Int}, gr_S A Q s n v m c → m < 128 ∧ gr_pc m = n + 1 := by
  intro n
  induction n with
  | zero =>
    intro v m c h
    obtain ⟨rfl, rfl, _, _⟩ := h
    have := gr_pc_pow v hs
    omega
  | succ n ih =>
    intro v m c h
    obtain ⟨u, m', c', x, h, a, e, b, rfl, q⟩ := h
    have h1 := ih h
    have h2 := gr_pc_add m' h1.1 v (ok _ _ _ a).2 b
    omega
theorem gr_Sn6 (ok : gr_in A) {s : Nat} (hs : s < 7) {n v m : Nat} {c : Int} (h : gr_S A Q s n v m c) : n ≤ 6 := by
  have h1 := gr_Spc ok hs h
  have h2 := gr_pc_le m
  omega
theorem gr_split {s p : Nat} : ∀ {n u m : Nat} {c : Int}, gr_S A Q s n u m c → m.testBit p = true → ∃ n1 m1 c1 n2 m2 c2, gr_S A Q s n1 p m1 c1 ∧ gr_S A gr_T p n2 u m2 c2 ∧ c = c1 + c2 ∧ n = n1 + n2 ∧ (∀ i, m.testBit i = (m1.testBit i || m2.testBit i)) ∧ (∀ i, m1.testBit i = true → m2.testBit i = true → i = p) := by
  intro n
  induction n with
  | zero =>
    intro u m c h hp
    have h0 := h
    obtain ⟨rfl, rfl, rfl, q⟩ := h
    rw [Nat.testBit_two_pow] at hp
    have e : u = p := of_decide_eq_true hp
    subst e
    refine ⟨0, 2 ^ u, 0, 0, 2 ^ u, 0, h0, gr_S0, rfl, rfl, fun i => (Bool.or_self _).symm, fun i h1 _ => ?_⟩
    rw [Nat.testBit_two_pow] at h1
    exact (of_decide_eq_true h1).symm
  | succ n ih =>
    intro u m c h hp
    by_cases e : u = p
    · subst e
      refine ⟨n + 1, m, c, 0, 2 ^ u, 0, h, gr_S0, by omega, rfl, fun i => ?_, fun i _ h2 => ?_⟩
      · rw [Nat.testBit_two_pow]
        by_cases ei : u = i
        · subst ei
          rw [hp]
          rfl
        · rw [decide_eq_false ei, Bool.or_false]
      · rw [Nat.testBit_two_pow] at h2
        exact (of_decide_eq_true h2).symm
    · obtain ⟨w, m', c', x, h, a, rfl, b, rfl, q⟩ := h
      rw [Nat.testBit_or, Nat.testBit_two_pow, decide_eq_false e, Bool.or_false] at hp
      obtain ⟨n1, m1, c1, n2, m2, c2, g1, g2, rfl, rfl, h3, h4⟩ := ih h hp
      have b1 : m1.testBit u = false ∧ m2.testBit u = false := by
        have := h3 u
        rw [b] at this
        cases z1 : m1.testBit u <;> cases z2 : m2.testBit u <;> simp [z1, z2] at this ⊢
      refine ⟨n1, m1, c1, n2 + 1, m2 ||| 2 ^ u, c2 + x, g1, ⟨w, m2, c2, x, g2, a, rfl, b1.2, rfl, trivial⟩, by omega, by omega, fun i => ?_, fun i i1 i2 => ?_⟩
      · rw [Nat.testBit_or, Nat.testBit_or, h3 i, Bool.or_assoc]
      · rw [Nat.testBit_or, Nat.testBit_two_pow] at i2
        by_cases ei : u = i
        · subst ei
          rw [b1.1] at i1
          exact absurd i1 (by decide)
        · rw [decide_eq_false ei, Bool.or_false] at i2
          exact h4 i i1 i2
theorem gr_NRL {p : Nat} (h : gr_NR A p) : gr_L A p p := by
  obtain ⟨n, u, m, c, x, h, a, hx⟩ := h
  exact gr_Lneg (gr_Ws (gr_SW h) a) hx
theorem gr_simple {s : Nat} : ∀ {n v : Nat} {c : Int}, gr_W A n s v c → (∃ p, gr_R A s p ∧ gr_R A p v ∧ gr_NR A p) ∨ ∃ n' m c', gr_S A gr_T s n' v m c' ∧ c' ≤ c := by
  intro n
  induction n with
  | zero =>
    intro v c h
    obtain ⟨rfl, rfl⟩ := h
    exact Or.inr ⟨0, 2 ^ s, 0, gr_S0, by omega⟩
  | succ n ih =>
    intro v c h
    obtain ⟨u, c', x, h, a, rfl⟩ := h
    rcases ih h with ⟨p, h1, h2, h3⟩ | ⟨n', m, c2, h1, h2⟩
    · exact Or.inl ⟨p, h1, gr_Rs h2 a, h3⟩
    · cases b : m.testBit v with
      | false => exact Or.inr ⟨n' + 1, m ||| 2 ^ v, c2 + x, ⟨u, m, c2, x, h1, a, rfl, b, rfl, trivial⟩, by omega⟩
      | true =>
        obtain ⟨n1, m1, c1, n2, m2, d2, g1, g2, e, _, _, _⟩ := gr_split h1 b
        by_cases z : d2 + x < 0
        · exact Or.inl ⟨v, ⟨_, _, gr_SW g1⟩, gr_Rr v, ⟨_, _, _, _, _, g2, a, z⟩⟩
        · exact Or.inr ⟨n1, m1, c1, g1, by omega⟩
theorem gr_Lring (ok : gr_ok A) {s v : Nat} (hs : s < 7) (h : gr_L A s v) : ∃ p, gr_R A s p ∧ gr_R A p v ∧ gr_NR A p := by
  obtain ⟨n, c, h, hc⟩ := h (-121)
  rcases gr_simple h with h1 | ⟨n', m, c', h1, h2⟩
  · exact h1
  · have h3 := gr_Sn6 (gr_oki ok) hs h1
    have h4 := gr_Wb ok (gr_SW h1)
    omega
theorem gr_small (ok : gr_ok A) {s v n : Nat} {c : Int} (hs : s < 7) (h : gr_W A n s v c) (hl : ¬ gr_L A s v) : ∃ n' c', n' ≤ 6 ∧ gr_W A n' s v c' ∧ c' ≤ c := by
  rcases gr_simple h with ⟨p, h1, h2, h3⟩ | ⟨n', m, c', h1, h2⟩
  · exact absurd (gr_LR (gr_RL h1 (gr_NRL h3)) h2) hl
  · exact ⟨n', c', gr_Sn6 (gr_oki ok) hs h1, gr_SW h1, h2⟩
def gr_A0 (A : Nat → Nat → Int → Prop) (u v : Nat) (x : Int) : Prop := x = 0 ∧ ∃ y, A u v y
theorem gr_W_A0 {s : Nat} : ∀ {n v : Nat} {c : Int}, gr_W A n s v c → gr_W (gr_A0 A) n s v 0 := by
  intro n
  induction n with
  | zero =>
    intro v c h
    exact ⟨h.1, rfl⟩
  | succ n ih =>
    intro v c h
    obtain ⟨u, c', x, h, a, rfl⟩ := h
    exact ⟨u, 0, 0, ih h, ⟨rfl, x, a⟩, rfl⟩
theorem gr_A0_W {s : Nat} : ∀ {n v : Nat} {c : Int}, gr_W (gr_A0 A) n s v c → c = 0 ∧ ∃ d, gr_W A n s v d := by
  intro n
  induction n with
  | zero =>
    intro v c h
    exact ⟨h.2, 0, h.1, rfl⟩
  | succ n ih =>
    intro v c h
    obtain ⟨u, c', x, h, ⟨rfl, y, a⟩, rfl⟩ := h
    obtain ⟨e, d, g⟩ := ih h
    exact ⟨by omega, d + y, gr_Ws g a⟩
theorem gr_R6 (ok : gr_in A) {s v : Nat} (hs : s < 7) (h : gr_R A s v) : ∃ n c, n ≤ 6 ∧ gr_W A n s v c := by
  obtain ⟨n, c, h⟩ := h
  have ok' : gr_in (gr_A0 A) := fun u v x ⟨_, y, a⟩ => ok u v y a
  rcases gr_simple (gr_W_A0 h) with ⟨p, h1, h2, n', u, m, c', x, h3, ⟨h4, _⟩, h5⟩ | ⟨n', m, c', h1, h2⟩
  · have := (gr_A0_W (gr_SW h3)).1
    omega
  · obtain ⟨_, d, g⟩ := gr_A0_W (gr_SW h1)
    exact ⟨n', d, gr_Sn6 ok' hs h1, g⟩
theorem gr_ML {s v : Nat} {r : Int} (h : gr_M A s v r) : ¬ gr_L A s v := by
  intro hl
  obtain ⟨n, c, g, hc⟩ := hl r
  have := h.2 n c g
  omega
theorem gr_Mr (ok : gr_ok A) {s v : Nat} (hs : s < 7) {r : Int} (h : gr_M A s v r) : -120 ≤ r ∧ r ≤ 120 ∧ ∃ n, n ≤ 6 ∧ gr_W A n s v r := by
  obtain ⟨n, g⟩ := h.1
  obtain ⟨n', c', h1, h2, h3⟩ := gr_small ok hs g (gr_ML h)
  have h4 := h.2 _ _ h2
  have e : r = c' := by omega
  subst e
  have h5 := gr_Wb ok h2
  exact ⟨by omega, by omega, n', h1, h2⟩
theorem gr_uniq (ok : gr_ok A) {s v : Nat} (hs : s < 7) {r r' : Int} (h : gr_Ans A s v r) (h' : gr_Ans A s v r') : r = r' := by
  rcases h with ⟨e, h⟩ | ⟨e, h⟩ | h <;> rcases h' with ⟨e', h'⟩ | ⟨e', h'⟩ | h'
  · omega
  · exact absurd (gr_L_R h') h
  · exact absurd ⟨_, _, h'.1.choose_spec⟩ h
  · exact absurd (gr_L_R h) h'
  · omega
  · exact absurd h (gr_ML h')
  · exact absurd ⟨_, _, h.1.choose_spec⟩ h'
  · exact absurd h' (gr_ML h)
  · obtain ⟨n, g⟩ := h.1
    obtain ⟨n', g'⟩ := h'.1
    have h1 := h.2 _ _ g'
    have h2 := h'.2 _ _ g
    omega
/-- found, or one of the codes -/
theorem gr_Ansr (ok : gr_ok A) {s v : Nat} (hs : s < 7) {r : Int} (h : gr_Ans A s v r) : r = -3000 ∨ r = -4000 ∨ (-120 ≤ r ∧ r ≤ 120) := by
  rcases h with ⟨e, h⟩ | ⟨e, h⟩ | h
  · exact Or.inl e
  · exact Or.inr (Or.inl e)
  · have := gr_Mr ok hs h
    omega
/-- a cell that is sound: no walk known, or bottomless, or the weight of a walk of at most b arcs -/
def gr_C (A : Nat → Nat → Int → Prop) (b s v : Nat) (z : Int) : Prop := z = 1000000 ∨ (z = -1000000 ∧ gr_L A s v) ∨ ∃ n, n ≤ b ∧ gr_W A n s v z
def gr_cv (z : Int) : Int := if z = 1000000 then -3000 else if z = -1000000 then -4000 else z
theorem gr_fin (ok : gr_ok A) {b s v : Nat} (hs : s < 7) (hb : b ≤ 10000) {z : Int} (h : gr_C A b s v z) (hL : gr_L A s v → z = -1000000) (h6 : ∀ n c, n ≤ 6 → gr_W A n s v c → z ≤ c) : gr_Ans A s v (gr_cv z) := by
  rcases h with e | ⟨e, h⟩ | ⟨n, hn, h⟩
  · subst e
    refine Or.inl ⟨rfl, fun hR => ?_⟩
    obtain ⟨n, c, hn, h⟩ := gr_R6 (gr_oki ok) hs hR
    have h1 := h6 n c hn h
    have h2 := gr_Wb ok h
    omega
  · subst e
    exact Or.inr (Or.inl ⟨rfl, h⟩)
  · have h1 := gr_Wb ok h
    have e : gr_cv z = z := by
      unfold gr_cv
      rw [if_neg (by omega), if_neg (by omega)]
    rw [e]
    refine Or.inr (Or.inr ⟨⟨n, h⟩, fun n' c' g => ?_⟩)
    have hl : ¬ gr_L A s v := fun hl => by
      have := hL hl
      omega
    obtain ⟨n2, c2, g1, g2, g3⟩ := gr_small ok hs g hl
    have := h6 n2 c2 g1 g2
    omega
theorem gr_finD (ok : gr_ok A) {b s v : Nat} (hs : s < 7) (hb : b ≤ 10000) {z : Int} (h : gr_C A b s v z) (hD : z = -1000000 ∨ ∀ n c, gr_W A n s v c → z ≤ c) : gr_Ans A s v (gr_cv z) := by
  refine gr_fin ok hs hb h (fun hl => ?_) (fun n c hn g => ?_)
  · rcases hD with e | hD
    · exact e
    · obtain ⟨n, c, g, hc⟩ := hl z
      have := hD n c g
      omega
  · rcases hD with e | hD
    · have := gr_Wb ok g
      omega
    · exact hD n c g
end
