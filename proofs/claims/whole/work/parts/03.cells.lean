def gr_j (a b : Int) : Int := if a = 1000000 ∨ b = 1000000 then 1000000 else if a = -1000000 ∨ b = -1000000 then -1000000 else a + b
def gr_rg (z : Int) : Prop := z = 1000000 ∨ z = -1000000 ∨ (-300000 ≤ z ∧ z ≤ 300000)
theorem gr_j_F {x : Int} : gr_j 1000000 x = 1000000 := if_pos (Or.inl rfl)
theorem gr_j_F' {x : Int} : gr_j x 1000000 = 1000000 := if_pos (Or.inr rfl)
theorem gr_j_D {x : Int} (h : x ≠ 1000000) : gr_j (-1000000) x = -1000000 := by
  unfold gr_j
  rw [if_neg (by omega), if_pos (Or.inl rfl)]
theorem gr_j_D' {x : Int} (h : x ≠ 1000000) : gr_j x (-1000000) = -1000000 := by
  unfold gr_j
  rw [if_neg (by omega), if_pos (Or.inr rfl)]
theorem gr_j_n {a x : Int} (h1 : a ≠ 1000000) (h2 : a ≠ -1000000) (h3 : x ≠ 1000000) (h4 : x ≠ -1000000) : gr_j a x = a + x := by
  unfold gr_j
  rw [if_neg (by omega), if_neg (by omega)]
/-- the three ways of a joined pair -/
theorem gr_jc {a x : Int} : (gr_j a x = 1000000 ∧ (a = 1000000 ∨ x = 1000000)) ∨ (gr_j a x = -1000000 ∧ a ≠ 1000000 ∧ x ≠ 1000000 ∧ (a = -1000000 ∨ x = -1000000)) ∨ (gr_j a x = a + x ∧ a ≠ 1000000 ∧ x ≠ 1000000 ∧ a ≠ -1000000 ∧ x ≠ -1000000) := by
  unfold gr_j
  by_cases h1 : a = 1000000 ∨ x = 1000000
  · exact Or.inl ⟨if_pos h1, h1⟩
  · by_cases h2 : a = -1000000 ∨ x = -1000000
    · refine Or.inr (Or.inl ⟨?_, by omega, by omega, h2⟩)
      rw [if_neg h1, if_pos h2]
    · refine Or.inr (Or.inr ⟨?_, by omega, by omega, by omega, by omega⟩)
      rw [if_neg h1, if_neg h2]
section
variable {A : Nat → Nat → Int → Prop} {Q : Nat → Int → Prop}
theorem gr_Crg (ok : gr_ok A) {b s v : Nat} {z : Int} (hb : b ≤ 10000) (h : gr_C A b s v z) : gr_rg z ∧ (z ≠ 1000000 → z ≠ -1000000 → -300000 ≤ z ∧ z ≤ 300000) := by
  rcases h with e | ⟨e, _⟩ | ⟨n, hn, h⟩
  · exact ⟨Or.inl e, by omega⟩
  · exact ⟨Or.inr (Or.inl e), by omega⟩
  · have := gr_Wb ok h
    exact ⟨Or.inr (Or.inr (by omega)), by omega⟩
theorem gr_Cm {b b' s v : Nat} {z : Int} (hb : b ≤ b') (h : gr_C A b s v z) : gr_C A b' s v z := by
  rcases h with e | h | ⟨n, hn, h⟩
  · exact Or.inl e
  · exact Or.inr (Or.inl h)
  · exact Or.inr (Or.inr ⟨n, by omega, h⟩)
theorem gr_CL {b s v : Nat} (h : gr_L A s v) : gr_C A b s v (-1000000) := Or.inr (Or.inl ⟨rfl, h⟩)
theorem gr_CR {b s v : Nat} {z : Int} (h : gr_C A b s v z) (hz : z ≠ 1000000) : gr_R A s v := by
  rcases h with e | ⟨_, h⟩ | ⟨n, hn, h⟩
  · exact absurd e hz
  · exact gr_L_R h
  · exact ⟨n, z, h⟩
theorem gr_jC (ok : gr_ok A) {b s u v : Nat} {z x : Int} (hb : b ≤ 10000) (h : gr_C A b s u z) (a : A u v x) : gr_C A (b + 1) s v (gr_j z x) := by
  have hx := ok _ _ _ a
  rcases h with e | ⟨e, h⟩ | ⟨n, hn, h⟩
  · subst e
    exact Or.inl gr_j_F
  · subst e
    exact Or.inr (Or.inl ⟨gr_j_D (by omega), gr_Ls h a⟩)
  · have hz := gr_Wb ok h
    rw [gr_j_n (by omega) (by omega) (by omega) (by omega)]
    exact Or.inr (Or.inr ⟨n + 1, by omega, gr_Ws h a⟩)
theorem gr_jj (ok : gr_ok A) {b s u v : Nat} {z y : Int} (hb : b ≤ 10000) (h : gr_C A b s u z) (g : gr_C A b u v y) : gr_C A (b + b) s v (gr_j z y) := by
  rcases h with e | ⟨e, h⟩ | ⟨n, hn, h⟩
  · subst e
    exact Or.inl gr_j_F
  · subst e
    rcases g with e | g
    · subst e
      exact Or.inl gr_j_F'
    · have hy : y ≠ 1000000 := by
        rcases g with ⟨e, _⟩ | ⟨m, hm, g⟩
        · omega
        · have := gr_Wb ok g
          omega
      exact Or.inr (Or.inl ⟨gr_j_D hy, gr_LR h (gr_CR (Or.inr g) hy)⟩)
  · have hz := gr_Wb ok h
    rcases g with e | ⟨e, g⟩ | ⟨m, hm, g⟩
    · subst e
      exact Or.inl gr_j_F'
    · subst e
      exact Or.inr (Or.inl ⟨gr_j_D' (by omega), gr_RL ⟨n, z, h⟩ g⟩)
    · have hy := gr_Wb ok g
      rw [gr_j_n (by omega) (by omega) (by omega) (by omega)]
      exact Or.inr (Or.inr ⟨n + m, by omega, gr_Wapp h g⟩)
theorem gr_jm {a a' x : Int} (ha : gr_rg a) (ha' : gr_rg a') (h : a ≤ a') (hx : -20 ≤ x ∧ x ≤ 20) : gr_j a x ≤ gr_j a' x := by
  have h1 := @gr_jc a x
  have h2 := @gr_jc a' x
  unfold gr_rg at ha ha'
  omega
/-- rounds over all arcs, of one row -/
theorem gr_rowD (ok : gr_ok A) {s r : Nat} (hr5 : r ≤ 5) {z z' : Nat → Int} (hm : ∀ v, v < 7 → z' v ≤ z v) (hr : ∀ u v x, A u v x → z' v ≤ gr_j (z u) x) (hs : s < 7) (h : ∀ n v c, n ≤ r → gr_W A n s v c → z v ≤ c) : ∀ n v c, n ≤ r + 1 → gr_W A n s v c → z' v ≤ c := by
  intro n v c hn g
  by_cases e : n ≤ r
  · have h1 := h n v c e g
    have h2 := hm v (gr_Wv (gr_oki ok) hs g)
    omega
  · have e : n = r + 1 := by omega
    subst e
    obtain ⟨u, c', x, g, a, rfl⟩ := g
    have h1 := h r u c' (Nat.le_refl r) g
    have h2 := hr u v x a
    have h3 := ok _ _ _ a
    have h4 := gr_Wb ok g
    have h5 := @gr_jc (z u) x
    omega
theorem gr_rowL (ok : gr_ok A) {s t : Nat} {z z' : Nat → Int} (hs : s < 7) (hm : ∀ v, v < 7 → z' v ≤ z v) (hr : ∀ u v x, A u v x → z' v ≤ gr_j (z u) x) (hq : ∀ v, v < 7 → z' v = z v ∨ z' v = -1000000) (h6 : ∀ n v c, n ≤ 6 → gr_W A n s v c → z v ≤ c) (hl : gr_L A s t) : ∃ v n c, z' v = -1000000 ∧ n ≤ 6 ∧ gr_W A n v t c := by
  refine Classical.byContradiction fun hn => ?_
  have nd : ∀ v, gr_R A s v → gr_R A v t → z' v = z v ∧ z v ≠ -1000000 := by
    intro v h1 h2
    obtain ⟨n1, c1, g1⟩ := h1
    have hv := gr_Wv (gr_oki ok) hs g1
    obtain ⟨n, c, h3, h4⟩ := gr_R6 (gr_oki ok) hv h2
    have h5 : z' v ≠ -1000000 := fun e => hn ⟨v, n, c, e, h3, h4⟩
    rcases hq v hv with e | e
    · exact ⟨e, by omega⟩
    · exact absurd e h5
  have key : ∀ n v c, gr_W A n s v c → gr_R A v t → z v ≤ c := by
    intro n
    induction n with
    | zero =>
      intro v c g _
      exact h6 0 v c (by omega) g
    | succ n ih =>
      intro v c g hR
      have h0 := nd v ⟨_, _, g⟩ hR
      obtain ⟨u, c', x, g, a, rfl⟩ := g
      have hR' := gr_Rt (gr_R1 a) hR
      have h1 := ih u c' g hR'
      have h2 := hr u v x a
      have h3 := ok _ _ _ a
      have h4 := nd u ⟨_, _, g⟩ hR'
      obtain ⟨k, d, hk, gd⟩ := gr_R6 (gr_oki ok) hs ⟨_, _, g⟩
      have h5 := h6 k u d hk gd
      have h6 := gr_Wb ok gd
      have h7 := @gr_jc (z u) x
      omega
  obtain ⟨n, c, g, hc⟩ := hl (z t)
  have := key n t c g (gr_Rr t)
  omega
theorem gr_rowS (ok : gr_ok A) {t k : Nat} {z z' : Nat → Int} (ht : t < 7) (hg : ∀ v, v < 7 → gr_rg (z' v)) (hm : ∀ v, v < 7 → z' v ≤ z v) (hr : ∀ u v x, A u v x → z' v ≤ gr_j (z u) x) (h : ∃ v n c, z v = -1000000 ∧ n ≤ k + 1 ∧ gr_W A n v t c) : ∃ v n c, z' v = -1000000 ∧ n ≤ k ∧ gr_W A n v t c := by
  obtain ⟨v, n, c, hz, hn, g⟩ := h
  cases n with
  | zero =>
    obtain ⟨rfl, rfl⟩ := g
    have h1 := hm v ht
    have h2 := hg v ht
    unfold gr_rg at h2
    exact ⟨v, 0, 0, by omega, by omega, gr_W0 v⟩
  | succ n =>
    have e : n + 1 = 1 + n := by omega
    rw [e] at g
    obtain ⟨y, c1, c2, ⟨u, c', x, ⟨rfl, _⟩, a, _⟩, g2, _⟩ := gr_cut g
    have h1 := hr _ _ _ a
    have h2 := ok _ _ _ a
    have h3 := hg y h2.2.1
    rw [hz, gr_j_D (by omega)] at h1
    unfold gr_rg at h3
    exact ⟨y, n, c2, by omega, by omega, g2⟩
/-- engine 3: what a cell and its count of arcs mean -/
def gr_I (A : Nat → Nat → Int → Prop) (s : Nat) (C : Nat → Int) (v : Nat) (z k : Int) : Prop := z = 1000000 ∨ (z = -1000000 ∧ gr_L A s v ∧ 7 ≤ k) ∨ ∃ n : Nat, n ≤ 6 ∧ k = n ∧ gr_W A n s v z ∧ (gr_L A s v ∨ ∃ m, gr_S A (fun y d => C y ≤ d) s n v m z)
theorem gr_Im {s v : Nat} {C C' : Nat → Int} {z k : Int} (hC : ∀ y, C' y ≤ C y) (h : gr_I A s C v z k) : gr_I A s C' v z k := by
  rcases h with e | h | ⟨n, h1, h2, h3, h4⟩
  · exact Or.inl e
  · exact Or.inr (Or.inl h)
  · refine Or.inr (Or.inr ⟨n, h1, h2, h3, ?_⟩)
    rcases h4 with h4 | ⟨m, h4⟩
    · exact Or.inl h4
    · exact Or.inr ⟨m, gr_SQ (fun y d hd => Int.le_trans (hC y) hd) h4⟩
theorem gr_IC {s v : Nat} {C : Nat → Int} {z k : Int} (h : gr_I A s C v z k) : gr_C A 6 s v z := by
  rcases h with e | h | ⟨n, h1, h2, h3, h4⟩
  · exact Or.inl e
  · exact Or.inr (Or.inl ⟨h.1, h.2.1⟩)
  · exact Or.inr (Or.inr ⟨n, h1, h3⟩)
theorem gr_sink (ok : gr_ok A) {s p y : Nat} {C : Nat → Int} {k x : Int} (hs : s < 7) (hI : gr_I A s C p (C p) k) (a : A p y x) (hf : gr_j (C p) x < C y) (hg : gr_rg (C y)) (C' : Nat → Int) (hC : ∀ i, C' i ≤ C i) (hy : C' y = if k + 1 < 7 then gr_j (C p) x else -1000000) : gr_I A s C' y (C' y) (k + 1) := by
  have hx := ok _ _ _ a
  rcases hI with e | ⟨e, h1, h2⟩ | ⟨n, h1, h2, h3, h4⟩
  · rw [e, gr_j_F] at hf
    unfold gr_rg at hg
    omega
  · rw [if_neg (by omega)] at hy
    exact Or.inr (Or.inl ⟨hy, gr_Ls h1 a, by omega⟩)
  · have hz := gr_Wb ok h3
    have ej : gr_j (C p) x = C p + x := gr_j_n (by omega) (by omega) (by omega) (by omega)
    rw [ej] at hf hy
    have key : gr_L A s y ∨ ∃ m m', gr_S A (fun y d => C y ≤ d) s n p m (C p) ∧ m.testBit y = false ∧ m' = m ||| 2 ^ y := by
      rcases h4 with h4 | ⟨m, h4⟩
      · exact Or.inl (gr_Ls h4 a)
      · cases b : m.testBit y with
        | false => exact Or.inr ⟨m, _, h4, b, rfl⟩
        | true =>
          obtain ⟨n1, m1, c1, n2, m2, c2, g1, g2, e, _⟩ := gr_split h4 b
          have q := gr_Sq g1
          have q : C y ≤ c1 := q
          exact Or.inl (gr_RL ⟨_, _, gr_SW g1⟩ (gr_Lneg (gr_Ws (gr_SW g2) a) (by omega)))
    by_cases h7 : k + 1 < 7
    · rw [if_pos h7] at hy
      refine Or.inr (Or.inr ⟨n + 1, by omega, by omega, ?_, ?_⟩)
      · rw [hy]
        exact gr_Ws h3 a
      · rcases key with key | ⟨m, m', g, b, e⟩
        · exact Or.inl key
        · refine Or.inr ⟨m', p, m, C p, x, gr_SQ (fun i d hd => Int.le_trans (hC i) hd) g, a, hy, b, e, ?_⟩
          show C' y ≤ C' y
          omega
    · rw [if_neg h7] at hy
      refine Or.inr (Or.inl ⟨hy, ?_, by omega⟩)
      rcases key with key | ⟨m, m', g, b, e⟩
      · exact key
      · have g7 : gr_S A gr_T s (n + 1) y m' (C p + x) := ⟨p, m, C p, x, gr_ST g, a, rfl, b, e, trivial⟩
        have := gr_Sn6 (gr_oki ok) hs g7
        omega
/-- at rest: every cell is below each walk -/
theorem gr_rest (ok : gr_ok A) {s : Nat} {C : Nat → Int} (hs : s < 7) (h0 : C s ≤ 0) (hg : ∀ v, v < 7 → gr_rg (C v)) (h : ∀ u v x, A u v x → C u ≠ 1000000 → C v ≤ gr_j (C u) x) : ∀ n v c, gr_W A n s v c → C v = -1000000 ∨ (C v ≤ c ∧ C v ≠ 1000000) := by
  intro n
  induction n with
  | zero =>
    intro v c g
    obtain ⟨rfl, rfl⟩ := g
    exact Or.inr ⟨h0, by omega⟩
  | succ n ih =>
    intro v c g
    obtain ⟨u, c', x, g, a, rfl⟩ := g
    have h1 := ok _ _ _ a
    have h2 := hg u h1.1
    have h3 := hg v h1.2.1
    have h5 := @gr_jc (C u) x
    unfold gr_rg at h2 h3
    rcases ih u c' g with e | ⟨e, e'⟩
    · have h4 := h u v x a (by omega)
      omega
    · have h4 := h u v x a e'
      omega
end
