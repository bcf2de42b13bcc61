section
variable {A : Nat → Nat → Int → Prop} {Q : Nat → Int → Prop}
/-- the reference's test for bottomless -/
theorem gr_lowY (ok : gr_ok A) {s t : Nat} (hs : s < 7) : gr_L A s t ↔ ∃ v, gr_R A v t ∧ ∃ c, gr_W A 7 s v c ∧ ∀ k d, k ≤ 6 → gr_W A k s v d → c < d := by
  constructor
  · intro hl
    refine Classical.byContradiction fun hn => ?_
    have key : ∀ n v c, gr_W A n s v c → gr_R A v t → ∃ k d, k ≤ 6 ∧ gr_W A k s v d ∧ d ≤ c := by
      intro n
      induction n with
      | zero =>
        intro v c h _
        exact ⟨0, c, by omega, h, by omega⟩
      | succ n ih =>
        intro v c h hR
        obtain ⟨u, c', x, h, a, rfl⟩ := h
        obtain ⟨k, d, hk, g, hd⟩ := ih u c' h (gr_Rt (gr_R1 a) hR)
        by_cases hk6 : k ≤ 5
        · exact ⟨k + 1, d + x, by omega, gr_Ws g a, by omega⟩
        · have e : k = 6 := by omega
          subst e
          refine Classical.byContradiction fun hn2 => hn ⟨v, hR, d + x, gr_Ws g a, fun k' d' hk' g' => ?_⟩
          refine Classical.byContradiction fun hn3 => hn2 ⟨k', d', hk', g', by omega⟩
    obtain ⟨n, c, h, hc⟩ := hl (-120)
    obtain ⟨k, d, hk, g, hd⟩ := key n t c h (gr_Rr t)
    have := gr_Wb ok g
    omega
  · rintro ⟨v, hR, c, h, hm⟩
    refine gr_LR ?_ hR
    refine Classical.byContradiction fun hl => ?_
    obtain ⟨n', c', h1, h2, h3⟩ := gr_small ok hs h hl
    have := hm n' c' h1 h2
    omega
/-- walks whose points between are below m -/
def gr_F (A : Nat → Nat → Int → Prop) (m : Nat) : Nat → Nat → Nat → Int → Prop
  | 0, s, v, c => s = v ∧ c = 0
  | n + 1, s, v, c => ∃ u c' x, gr_F A m n s u c' ∧ A u v x ∧ c = c' + x ∧ (n = 0 ∨ u < m)
theorem gr_F7 (ok : gr_in A) {s : Nat} : ∀ {n v : Nat} {c : Int}, gr_W A n s v c → gr_F A 7 n s v c := by
  intro n
  induction n with
  | zero =>
    intro v c h
    exact h
  | succ n ih =>
    intro v c h
    obtain ⟨u, c', x, h, a, rfl⟩ := h
    exact ⟨u, c', x, ih h, a, rfl, Or.inr (ok _ _ _ a).1⟩
theorem gr_Fs {m : Nat} {neg : Prop} (hz : ¬ neg → ∀ n c, gr_F A m n m m c → 0 ≤ c) {s : Nat} : ∀ {n v : Nat} {c : Int}, gr_F A (m + 1) n s v c → gr_F A m n s v c ∨ ∃ n1 c1 n2 c2, gr_F A m n1 s m c1 ∧ gr_F A m n2 m v c2 ∧ (neg ∨ c1 + c2 ≤ c) := by
  intro n
  induction n with
  | zero =>
    intro v c h
    exact Or.inl h
  | succ n ih =>
    intro v c h
    obtain ⟨u, c', x, h, a, rfl, hu⟩ := h
    by_cases n0 : n = 0
    · subst n0
      exact Or.inl ⟨u, c', x, h, a, rfl, Or.inl rfl⟩
    · have hu' : u < m + 1 := by omega
      by_cases um : u < m
      · rcases ih h with h1 | ⟨n1, c1, n2, c2, h1, h2, h3⟩
        · exact Or.inl ⟨u, c', x, h1, a, rfl, Or.inr um⟩
        · refine Or.inr ⟨n1, c1, n2 + 1, c2 + x, h1, ⟨u, c2, x, h2, a, rfl, Or.inr um⟩, ?_⟩
          rcases h3 with h3 | h3
          · exact Or.inl h3
          · exact Or.inr (by omega)
      · have e : u = m := by omega
        subst e
        rcases ih h with h1 | ⟨n1, c1, n2, c2, h1, h2, h3⟩
        · exact Or.inr ⟨n, c', 1, x, h1, ⟨u, 0, x, ⟨rfl, rfl⟩, a, by omega, Or.inl rfl⟩, Or.inr (by omega)⟩
        · refine Or.inr ⟨n1, c1, 1, x, h1, ⟨u, 0, x, ⟨rfl, rfl⟩, a, by omega, Or.inl rfl⟩, ?_⟩
          rcases h3 with h3 | h3
          · exact Or.inl h3
          · by_cases ng : neg
            · exact Or.inl ng
            · have := hz ng n2 c2 h2
              exact Or.inr (by omega)
/-- a ring from s with the points m, n arcs, weight c -/
def gr_Rg (A : Nat → Nat → Int → Prop) (s m n : Nat) (c : Int) : Prop := ∃ n' u c' x, gr_S A gr_T s n' u m c' ∧ A u s x ∧ n = n' + 1 ∧ c = c' + x
theorem gr_RgW {s m n : Nat} {c : Int} (h : gr_Rg A s m n c) : gr_W A n s s c := by
  obtain ⟨n', u, c', x, h, a, rfl, rfl⟩ := h
  exact gr_Ws (gr_SW h) a
theorem gr_Rgn (ok : gr_in A) {s m n : Nat} {c : Int} (hs : s < 7) (h : gr_Rg A s m n c) : 1 ≤ n ∧ n ≤ 7 ∧ m < 128 ∧ gr_pc m = n := by
  obtain ⟨n', u, c', x, h, a, rfl, rfl⟩ := h
  have h1 := gr_Sn6 ok hs h
  have h2 := gr_Spc ok hs h
  omega
theorem gr_cat {p n2 u s m2 : Nat} {c2 x : Int} (h : gr_S A gr_T p n2 u m2 c2) (a : A u s x) : ∀ {k y m1 : Nat} {c1 : Int}, gr_S A gr_T s k y m1 c1 → (∀ i, m1.testBit i = true → m2.testBit i = false) → gr_S A gr_T p (n2 + 1 + k) y (m2 ||| m1) (c2 + x + c1) := by
  intro k
  induction k with
  | zero =>
    intro y m1 c1 h1 hd
    obtain ⟨rfl, rfl, rfl, _⟩ := h1
    exact ⟨u, m2, c2, x, h, a, by omega, hd y Nat.testBit_two_pow_self, rfl, trivial⟩
  | succ k ih =>
    intro y m1 c1 h1 hd
    have hy := gr_Sv h1
    obtain ⟨w, m', c', x', h1, a', rfl, b, rfl, _⟩ := h1
    refine ⟨w, m2 ||| m', c2 + x + c', x', ih h1 (fun i hi => hd i ?_), a', by omega, ?_, (Nat.or_assoc _ _ _).symm, trivial⟩
    · rw [Nat.testBit_or, hi, Bool.true_or]
    · rw [Nat.testBit_or, b, hd y hy]
      rfl
theorem gr_rot {s p m n : Nat} {c : Int} (h : gr_Rg A s m n c) (hp : m.testBit p = true) : gr_Rg A p m n c := by
  by_cases e : p = s
  · subst e
    exact h
  · obtain ⟨n', u, c', x, h, a, rfl, rfl⟩ := h
    obtain ⟨n1, m1, c1, n2, m2, c2, g1, g2, rfl, rfl, h3, h4⟩ := gr_split h hp
    cases n1 with
    | zero => exact absurd g1.1 e
    | succ k =>
      have p2 := gr_Ss g2
      obtain ⟨y, m', d, x', g1, a', rfl, b, rfl, _⟩ := g1
      have hd : ∀ i, m'.testBit i = true → m2.testBit i = false := by
        intro i hi
        cases z : m2.testBit i with
        | false => rfl
        | true =>
          have := h4 i (by rw [Nat.testBit_or, hi, Bool.true_or]) z
          subst this
          rw [b] at hi
          exact absurd hi (by decide)
      have em : m2 ||| m' = m := by
        apply Nat.eq_of_testBit_eq
        intro i
        rw [h3 i, Nat.testBit_or, Nat.testBit_or, Nat.testBit_two_pow]
        by_cases ei : p = i
        · subst ei
          rw [p2, Bool.or_true, Bool.true_or]
        · rw [decide_eq_false ei, Bool.or_false, Bool.or_comm]
      have g := gr_cat g2 a g1 hd
      rw [em] at g
      exact ⟨_, y, _, x', g, a', by omega, by omega⟩
/-- a closed walk below 0 holds a ring below 0 -/
theorem gr_closed {v n : Nat} {c : Int} (h : gr_W A n v v c) (hc : c < 0) : ∃ p, gr_R A v p ∧ gr_NR A p := by
  rcases gr_simple h with ⟨p, h1, h2, h3⟩ | ⟨n', m, c', h1, h2⟩
  · exact ⟨p, h1, h3⟩
  · cases n' with
    | zero =>
      have := h1.2.2.1
      omega
    | succ k =>
      obtain ⟨u, m', d, x, g, a, e, b, _, _⟩ := h1
      have := gr_Ss g
      rw [b] at this
      exact absurd this (by decide)
theorem gr_zero (hn : ∀ p, gr_R A p p → ¬ gr_NR A p) {v n : Nat} {c : Int} (h : gr_W A (n + 1) v v c) : ∃ m n' c', gr_Rg A v m n' c' ∧ c' ≤ c ∧ m.testBit v = true := by
  obtain ⟨u, c', x, h, a, rfl⟩ := h
  rcases gr_simple h with ⟨p, _, _, h3⟩ | ⟨n', m, d, h1, h2⟩
  · exact absurd h3 (hn p (gr_Rr p))
  · exact ⟨m, n' + 1, d + x, ⟨n', u, d, x, h1, a, rfl, rfl⟩, by omega, gr_Ss h1⟩
theorem gr_noring (hn : ∀ s m n c, ¬ gr_Rg A s m n c) {s : Nat} : ∀ {n v : Nat} {c : Int}, gr_W A n s v c → ∃ m, gr_S A gr_T s n v m c := by
  intro n
  induction n with
  | zero =>
    intro v c h
    exact ⟨2 ^ s, h.1.symm, rfl, h.2, trivial⟩
  | succ n ih =>
    intro v c h
    obtain ⟨u, c', x, h, a, rfl⟩ := h
    obtain ⟨m, g⟩ := ih h
    cases b : m.testBit v with
    | false => exact ⟨m ||| 2 ^ v, u, m, c', x, g, a, rfl, b, rfl, trivial⟩
    | true =>
      obtain ⟨n1, m1, c1, n2, m2, c2, g1, g2, _⟩ := gr_split g b
      exact absurd ⟨n2, u, c2, x, g2, a, rfl, rfl⟩ (hn v m2 (n2 + 1) (c2 + x))
theorem gr_cut {s : Nat} : ∀ {b a : Nat} {t : Nat} {c : Int}, gr_W A (a + b) s t c → ∃ v c1 c2, gr_W A a s v c1 ∧ gr_W A b v t c2 ∧ c = c1 + c2 := by
  intro b
  induction b with
  | zero =>
    intro a t c h
    exact ⟨t, c, 0, h, gr_W0 t, by omega⟩
  | succ b ih =>
    intro a t c h
    obtain ⟨u, c', x, h, ar, rfl⟩ := h
    obtain ⟨v, c1, c2, h1, h2, rfl⟩ := ih h
    exact ⟨v, c1, c2 + x, h1, gr_Ws h2 ar, by omega⟩
/-- the shifted weights -/
def gr_H (A : Nat → Nat → Int → Prop) (p q : Int) (u v : Nat) (y : Int) : Prop := ∃ x, A u v x ∧ y = q * x - p
theorem gr_Hin (ok : gr_in A) (p q : Int) : gr_in (gr_H A p q) := fun u v _ ⟨x, a, _⟩ => ok u v x a
theorem gr_ar (p q c x n : Int) : q * (c + x) - p * (n + 1) = (q * c - p * n) + (q * x - p) := by
  rw [Int.mul_add, Int.mul_add, Int.mul_one]
  omega
theorem gr_WH (p q : Int) {s : Nat} : ∀ {n v : Nat} {c : Int}, gr_W A n s v c → gr_W (gr_H A p q) n s v (q * c - p * n) := by
  intro n
  induction n with
  | zero =>
    intro v c h
    obtain ⟨rfl, rfl⟩ := h
    exact ⟨rfl, by simp⟩
  | succ n ih =>
    intro v c h
    obtain ⟨u, c', x, h, a, rfl⟩ := h
    exact ⟨u, _, _, ih h, ⟨x, a, rfl⟩, gr_ar p q c' x n⟩
theorem gr_HW (p q : Int) {s : Nat} : ∀ {n v : Nat} {d : Int}, gr_W (gr_H A p q) n s v d → ∃ c, gr_W A n s v c ∧ d = q * c - p * n := by
  intro n
  induction n with
  | zero =>
    intro v c h
    obtain ⟨rfl, rfl⟩ := h
    exact ⟨0, ⟨rfl, rfl⟩, by simp⟩
  | succ n ih =>
    intro v d h
    obtain ⟨u, d', y, h, ⟨x, a, rfl⟩, rfl⟩ := h
    obtain ⟨c, g, rfl⟩ := ih h
    exact ⟨c + x, gr_Ws g a, (gr_ar p q c x n).symm⟩
theorem gr_SH (p q : Int) {s : Nat} : ∀ {n v m : Nat} {c : Int}, gr_S A gr_T s n v m c → gr_S (gr_H A p q) gr_T s n v m (q * c - p * n) := by
  intro n
  induction n with
  | zero =>
    intro v m c h
    obtain ⟨rfl, rfl, rfl, _⟩ := h
    exact ⟨rfl, rfl, by simp, trivial⟩
  | succ n ih =>
    intro v m c h
    obtain ⟨u, m', c', x, h, a, rfl, b, rfl, _⟩ := h
    exact ⟨u, m', _, _, ih h, ⟨x, a, rfl⟩, gr_ar p q c' x n, b, rfl, trivial⟩
theorem gr_HS (p q : Int) {s : Nat} : ∀ {n v m : Nat} {d : Int}, gr_S (gr_H A p q) gr_T s n v m d → ∃ c, gr_S A gr_T s n v m c ∧ d = q * c - p * n := by
  intro n
  induction n with
  | zero =>
    intro v m c h
    obtain ⟨rfl, rfl, rfl, _⟩ := h
    exact ⟨0, ⟨rfl, rfl, rfl, trivial⟩, by simp⟩
  | succ n ih =>
    intro v m d h
    obtain ⟨u, m', d', y, h, ⟨x, a, rfl⟩, rfl, b, rfl, _⟩ := h
    obtain ⟨c, g, rfl⟩ := ih h
    exact ⟨c + x, ⟨u, m', c, x, g, a, rfl, b, rfl, trivial⟩, (gr_ar p q c x n).symm⟩
/-- p / q is the least mean of a ring -/
def gr_Mean (A : Nat → Nat → Int → Prop) (p q : Int) : Prop := 0 < q ∧ (∃ s m n c, gr_Rg A s m n c ∧ q * c = p * n) ∧ ∀ s m n c, gr_Rg A s m n c → p * n ≤ q * c
theorem gr_Mn {p q : Int} (h : gr_Mean A p q) (v : Nat) : ¬ gr_NR (gr_H A p q) v := by
  rintro ⟨n, u, m, c, x, g, ⟨y, a, rfl⟩, hx⟩
  obtain ⟨c', g', rfl⟩ := gr_HS p q g
  have h1 := h.2.2 v m (n + 1) (c' + y) ⟨n, u, c', y, g', a, rfl, rfl⟩
  have h2 := gr_ar p q c' y n
  have h3 : p * ((n + 1 : Nat) : Int) = p * ((n : Int) + 1) := by rw [show ((n + 1 : Nat) : Int) = (n : Int) + 1 from by omega]
  omega
theorem gr_M1 {p q : Int} (h : gr_Mean A p q) {v n : Nat} {c : Int} (g : gr_W A n v v c) : p * n ≤ q * c := by
  refine Classical.byContradiction fun hn => ?_
  obtain ⟨y, _, hy⟩ := gr_closed (gr_WH p q g) (by omega)
  exact gr_Mn h y hy
theorem gr_M4 {p q : Int} (h : gr_Mean A p q) {v n : Nat} {c : Int} (g : gr_W A (n + 1) v v c) (hc : q * c = p * ((n + 1 : Nat) : Int)) : ∃ m n' c', gr_Rg A v m n' c' ∧ q * c' = p * n' ∧ m.testBit v = true := by
  obtain ⟨m, n', d, ⟨k, u, d', y, g1, ⟨x, a, rfl⟩, rfl, rfl⟩, h2, h3⟩ := gr_zero (fun y _ => gr_Mn h y) (gr_WH p q g)
  obtain ⟨c', g1', rfl⟩ := gr_HS p q g1
  have h4 : gr_Rg A v m (k + 1) (c' + x) := ⟨k, u, c', x, g1', a, rfl, rfl⟩
  have h5 := h.2.2 _ _ _ _ h4
  have h6 := gr_ar p q c' x k
  have h7 : p * ((k + 1 : Nat) : Int) = p * ((k : Int) + 1) := by rw [show ((k + 1 : Nat) : Int) = (k : Int) + 1 from by omega]
  exact ⟨m, k + 1, c' + x, h4, by omega, h3⟩
/-- a least element of a set of numbers that is bounded below -/
theorem gr_least (P : Int → Prop) (B : Int) (hB : ∀ c, P c → B ≤ c) (h : ∃ c, P c) : ∃ c, P c ∧ ∀ d, P d → c ≤ d := by
  have key : ∀ k : Nat, ∀ c, P c → c - B ≤ k → ∃ c, P c ∧ ∀ d, P d → c ≤ d := by
    intro k
    induction k with
    | zero =>
      intro c hc hk
      refine ⟨c, hc, fun d hd => ?_⟩
      have := hB d hd
      omega
    | succ k ih =>
      intro c hc hk
      by_cases z : ∃ d, P d ∧ d < c
      · obtain ⟨d, hd, hl⟩ := z
        exact ih d hd (by omega)
      · refine ⟨c, hc, fun d hd => ?_⟩
        refine Classical.byContradiction fun hn => z ⟨d, hd, by omega⟩
  obtain ⟨c, hc⟩ := h
  have := hB c hc
  exact key (c - B).toNat c hc (by omega)
/-- Karp, the lower side: every point with a walk of seven arcs -/
theorem gr_K1 (ok : gr_in A) {p q : Int} (h : gr_Mean A p q) {s v : Nat} (hs : s < 7) {c : Int} (g : gr_W A 7 s v c) : ∃ k d, k ≤ 6 ∧ gr_W A k s v d ∧ p * (7 - k) ≤ q * (c - d) := by
  rcases gr_simple (gr_WH p q g) with ⟨y, _, _, hy⟩ | ⟨n', m, c', h1, h2⟩
  · exact absurd hy (gr_Mn h y)
  · have h3 := gr_Sn6 (gr_Hin ok p q) hs h1
    obtain ⟨d, h4, rfl⟩ := gr_HW p q (gr_SW h1)
    refine ⟨n', d, h3, h4, ?_⟩
    rw [Int.mul_sub, Int.mul_sub]
    have e : ((7 : Nat) : Int) = 7 := rfl
    rw [e] at h2
    omega
theorem gr_iter {v n : Nat} (h : gr_W A n v v 0) : ∀ i : Nat, gr_W A (n * i) v v 0 := by
  intro i
  induction i with
  | zero => exact gr_W0 v
  | succ i ih =>
    have := gr_Wapp ih h
    rw [Nat.mul_succ]
    simpa using this
/-- Karp, the upper side: some point on a ring of least mean -/
theorem gr_K2 (ok : gr_ok A) {p q : Int} (h : gr_Mean A p q) : ∃ s v c, s < 7 ∧ v < 7 ∧ gr_W A 7 s v c ∧ ∀ k s' d, gr_W A k s' v d → q * (c - d) ≤ p * (7 - k) := by
  obtain ⟨s, m, n, c, hr, hc⟩ := h.2.1
  have hn1 : 1 ≤ n ∧ s < 7 := by
    obtain ⟨n', u, c', x, g, a, rfl, _⟩ := hr
    exact ⟨by omega, (ok _ _ _ a).2.1⟩
  have z : gr_W (gr_H A p q) n s s 0 := by
    have := gr_WH p q (gr_RgW hr)
    rw [hc, Int.sub_self] at this
    exact this
  have simp6 : ∀ s' v n d, s' < 7 → gr_W (gr_H A p q) n s' v d → ∃ n' d', n' ≤ 6 ∧ gr_W (gr_H A p q) n' s' v d' ∧ d' ≤ d := by
    intro s' v n d hs' g
    rcases gr_simple g with ⟨y, _, _, hy⟩ | ⟨n', m, c', h1, h2⟩
    · exact absurd hy (gr_Mn h y)
    · exact ⟨n', c', gr_Sn6 (gr_Hin (gr_oki ok) p q) hs' h1, gr_SW h1, h2⟩
  have src : ∀ n s' v d, v < 7 → gr_W (gr_H A p q) n s' v d → s' < 7 := by
    intro n
    induction n with
    | zero =>
      intro s' v d hv g
      obtain ⟨rfl, _⟩ := g
      exact hv
    | succ n ih =>
      intro s' v d hv g
      obtain ⟨u, d', y, g, ⟨x, a, _⟩, _⟩ := g
      exact ih s' u d' (ok _ _ _ a).1 g
  obtain ⟨δ, ⟨j, s0, hs0, hj, gδ⟩, hδ⟩ := gr_least (fun d => ∃ j s0, s0 < 7 ∧ j ≤ 6 ∧ gr_W (gr_H A p q) j s0 s d) (-(6 * (20 * q + p.natAbs))) (by
    rintro d ⟨j, s0, hs0, hj, g⟩
    obtain ⟨e, g', rfl⟩ := gr_HW p q g
    have b := gr_Wb ok g'
    have q0 := h.1
    have b1 : q * (-120) ≤ q * e := Int.mul_le_mul_of_nonneg_left (by omega) (by omega)
    have b2 : p * j ≤ 6 * p.natAbs := by
      have b3 : p * j ≤ (p.natAbs : Int) * j := Int.mul_le_mul_of_nonneg_right (by omega) (by omega)
      have b4 : (p.natAbs : Int) * j ≤ (p.natAbs : Int) * 6 := Int.mul_le_mul_of_nonneg_left (by omega) (by omega)
      omega
    omega) ⟨0, 0, s, hn1.2, by omega, gr_W0 s⟩
  have hδ' : ∀ k s' d, gr_W (gr_H A p q) k s' s d → δ ≤ d := by
    intro k s' d g
    have hs' := src _ _ _ _ hn1.2 g
    obtain ⟨n', d', h1, h2, h3⟩ := simp6 _ _ _ _ hs' g
    have := hδ d' ⟨n', s', hs', h1, h2⟩
    omega
  have big : gr_W (gr_H A p q) ((7 - j) + (n * 7 - (7 - j))) s s 0 := by
    have e : (7 - j) + (n * 7 - (7 - j)) = n * 7 := by omega
    rw [e]
    exact gr_iter z 7
  obtain ⟨v, c1, c2, g1, g2, e12⟩ := gr_cut big
  have g7 : gr_W (gr_H A p q) 7 s0 v (δ + c1) := by
    have := gr_Wapp gδ g1
    have e : j + (7 - j) = 7 := by omega
    rw [e] at this
    exact this
  obtain ⟨c', g7', e7⟩ := gr_HW p q g7
  refine ⟨s0, v, c', hs0, gr_Wv (gr_oki ok) hs0 g7', g7', fun k s' d g => ?_⟩
  have h1 := hδ' _ _ _ (gr_Wapp (gr_WH p q g) g2)
  rw [Int.mul_sub, Int.mul_sub]
  have e : ((7 : Nat) : Int) = 7 := rfl
  rw [e] at e7
  omega
theorem gr_ratio {p q p' q' : Int} (h : gr_Mean A p q) (h' : gr_Mean A p' q') : p * q' = p' * q := by
  have key : ∀ p q p' q' : Int, gr_Mean A p q → gr_Mean A p' q' → p' * q ≤ p * q' := by
    intro p q p' q' h h'
    obtain ⟨s, m, n, c, hr, hc⟩ := h.2.1
    have h1 := h'.2.2 _ _ _ _ hr
    have hn : (0 : Int) < n := by
      obtain ⟨n', u, c', x, g, a, rfl, _⟩ := hr
      omega
    have h2 : (p' * n) * q ≤ (q' * c) * q := Int.mul_le_mul_of_nonneg_right h1 (by have := h.1; omega)
    have h3 : (q' * c) * q = (p * q') * n := by
      rw [Int.mul_assoc, Int.mul_comm c q, hc, ← Int.mul_assoc, Int.mul_comm q' p]
    have h4 : (p' * n) * q = (p' * q) * n := by
      rw [Int.mul_assoc, Int.mul_comm (n : Int) q, ← Int.mul_assoc]
    rw [h3, h4] at h2
    exact Int.le_of_mul_le_mul_right h2 hn
  have h1 := key p q p' q' h h'
  have h2 := key p' q' p q h' h
  omega
end
