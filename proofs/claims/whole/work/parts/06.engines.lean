/-! engines 1, 2 and 4 as steps of pure tables -/
def gr_ps (Z : Nat → Nat → Int) (m : Nat) (y : Int) (s t : Nat) : Int := if gr_j (gr_j (Z s m) y) (Z m t) < Z s t then gr_j (gr_j (Z s m) y) (Z m t) else Z s t
section
variable {A : Nat → Nat → Int → Prop} {Z Z' : Nat → Nat → Int}
theorem gr_psr {m s t : Nat} {y : Int} (hr : ∀ s t, s < 7 → t < 7 → gr_rg (Z s t)) (hm : m < 7) (hs : s < 7) (ht : t < 7) (hy : y = -1000000 ∨ (y = 0 ∧ Z m m = 0)) : gr_j (gr_j (Z s m) y) (gr_ps Z m y m t) = gr_j (gr_j (Z s m) y) (Z m t) := by
  have h1 := hr s m hs hm
  have h2 := hr m t hm ht
  have h3 := hr m m hm hm
  have j1 := @gr_jc (Z m m) y
  have j2 := @gr_jc (gr_j (Z m m) y) (Z m t)
  have j3 := @gr_jc (Z s m) y
  have j4 := @gr_jc (gr_j (Z s m) y) (Z m t)
  have j5 := @gr_jc (gr_j (Z s m) y) (gr_j (gr_j (Z m m) y) (Z m t))
  unfold gr_rg at h1 h2 h3
  unfold gr_ps
  by_cases c : gr_j (gr_j (Z m m) y) (Z m t) < Z m t
  · rw [if_pos c]
    omega
  · rw [if_neg c]
theorem gr_psle {m s t : Nat} {y : Int} : gr_ps Z m y s t ≤ Z s t ∧ gr_ps Z m y s t ≤ gr_j (gr_j (Z s m) y) (Z m t) ∧ (gr_ps Z m y s t = Z s t ∨ gr_ps Z m y s t = gr_j (gr_j (Z s m) y) (Z m t)) := by
  unfold gr_ps
  by_cases c : gr_j (gr_j (Z s m) y) (Z m t) < Z s t
  · rw [if_pos c]
    omega
  · rw [if_neg c]
    omega
/-- engine 1: what stands behind m middle points -/
def gr_E1 (A : Nat → Nat → Int → Prop) (m b : Nat) (Z : Nat → Nat → Int) : Prop := (∀ s t, s < 7 → t < 7 → gr_C A b s t (Z s t)) ∧ (∀ p, p < 7 → Z p p ≤ 0) ∧ ∀ s t n c, s < 7 → t < 7 → gr_F A m n s t c → Z s t = -1000000 ∨ (Z s t ≤ c ∧ Z s t ≠ 1000000)
theorem gr_CLn {b p : Nat} {z : Int} (h : gr_C A b p p z) (hz : z < 0) : gr_L A p p := by
  rcases h with e | ⟨_, h⟩ | ⟨n, hn, h⟩
  · omega
  · exact h
  · exact gr_Lneg h hz
theorem gr_E1s (ok : gr_ok A) {m b : Nat} (hm : m < 7) (hb : b + b ≤ 10000) (h : gr_E1 A m b Z) (y : Int) (hy : y = if Z m m < 0 then -1000000 else 0) (hZ : ∀ s t, s < 7 → t < 7 → Z' s t = gr_ps Z m y s t) : gr_E1 A (m + 1) (b + b) Z' := by
  obtain ⟨h1, h2, h3⟩ := h
  have hrg : ∀ s t, s < 7 → t < 7 → gr_rg (Z s t) ∧ (Z s t ≠ 1000000 → Z s t ≠ -1000000 → -300000 ≤ Z s t ∧ Z s t ≤ 300000) := fun s t hs ht => gr_Crg ok (by omega) (h1 s t hs ht)
  have hy' : (y = -1000000 ∧ gr_L A m m) ∨ (y = 0 ∧ Z m m = 0) := by
    by_cases c : Z m m < 0
    · rw [if_pos c] at hy
      exact Or.inl ⟨hy, gr_CLn (h1 m m hm hm) c⟩
    · rw [if_neg c] at hy
      have := h2 m hm
      exact Or.inr ⟨hy, by omega⟩
  refine ⟨fun s t hs ht => ?_, fun p hp => ?_, fun s t n c hs ht g => ?_⟩
  · rw [hZ s t hs ht]
    rcases (@gr_psle Z m s t y).2.2 with e | e
    · rw [e]
      exact gr_Cm (by omega) (h1 s t hs ht)
    · rw [e]
      rcases hy' with ⟨e, hl⟩ | ⟨e, _⟩
      · by_cases c1 : Z s m = 1000000
        · rw [c1, gr_j_F, gr_j_F]
          exact Or.inl rfl
        · rw [e, gr_j_D' c1]
          by_cases c2 : Z m t = 1000000
          · rw [c2, gr_j_F']
            exact Or.inl rfl
          · rw [gr_j_D c2]
            exact gr_CL (gr_LR (gr_RL (gr_CR (h1 s m hs hm) c1) hl) (gr_CR (h1 m t hm ht) c2))
      · have e2 : gr_j (Z s m) y = Z s m := by
          have := @gr_jc (Z s m) y
          omega
        rw [e2]
        exact gr_jj ok (by omega) (h1 s m hs hm) (h1 m t hm ht)
  · rw [hZ p p hp hp]
    have := (@gr_psle Z m p p y).1
    have := h2 p hp
    omega
  · rw [hZ s t hs ht]
    have k1 := @gr_psle Z m s t y
    have r1 := (hrg s t hs ht).1
    have r2 := (hrg s m hs hm)
    have r3 := (hrg m t hm ht)
    have j1 := @gr_jc (Z s m) y
    have j2 := @gr_jc (gr_j (Z s m) y) (Z m t)
    unfold gr_rg at r1
    have hz : ¬ (Z m m < 0) → ∀ n c, gr_F A m n m m c → 0 ≤ c := by
      intro hn n c g
      have := h3 m m n c hm hm g
      omega
    rcases gr_Fs hz g with g | ⟨n1, c1, n2, c2, g1, g2, g3⟩
    · have := h3 s t n c hs ht g
      omega
    · have k2 := h3 s m n1 c1 hs hm g1
      have k3 := h3 m t n2 c2 hm ht g2
      have r2' := r2.1
      have r3' := r3.1
      unfold gr_rg at r2' r3'
      by_cases c : Z m m < 0
      · rw [if_pos c] at hy
        omega
      · rw [if_neg c] at hy
        omega
theorem gr_E1f (ok : gr_ok A) {b : Nat} (hb : b ≤ 10000) (h : gr_E1 A 7 b Z) : ∀ s t, s < 7 → t < 7 → gr_Ans A s t (gr_cv (Z s t)) := by
  intro s t hs ht
  refine gr_finD ok hs hb (h.1 s t hs ht) ?_
  by_cases c : Z s t = -1000000
  · exact Or.inl c
  · refine Or.inr fun n c' g => ?_
    have := h.2.2 s t n c' hs ht (gr_F7 (gr_oki ok) g)
    omega
theorem gr_E10 (h : ∀ s t, s < 7 → t < 7 → gr_C A 1 s t (Z s t)) (h0 : ∀ p, p < 7 → Z p p ≤ 0) (ha : ∀ u v x, A u v x → Z u v ≤ x) (ok : gr_ok A) : gr_E1 A 0 1 Z := by
  refine ⟨h, h0, fun s t n c hs ht g => ?_⟩
  cases n with
  | zero =>
    obtain ⟨rfl, rfl⟩ := g
    have := h0 s hs
    omega
  | succ n =>
    obtain ⟨u, c', x, g, a, rfl, hn⟩ := g
    have n0 : n = 0 := by omega
    subst n0
    obtain ⟨rfl, rfl⟩ := g
    have h1 := ha _ _ _ a
    have h2 := ok _ _ _ a
    omega
/-- engine 2 -/
def gr_E2 (A : Nat → Nat → Int → Prop) (i b : Nat) (Z : Nat → Nat → Int) : Prop := (∀ s t, s < 7 → t < 7 → gr_C A b s t (Z s t)) ∧ ∀ s t n c, s < 7 → n ≤ i → gr_W A n s t c → Z s t ≤ c
theorem gr_E2s (ok : gr_ok A) {i b : Nat} (hi : i ≤ 64) (hb : b + b ≤ 10000) (h : gr_E2 A i b Z) (hZ : ∀ s t, s < 7 → t < 7 → (∀ m, m < 7 → Z' s t ≤ gr_j (Z s m) (Z m t)) ∧ (Z' s t = 1000000 ∨ (s = t ∧ Z' s t = -1000000 ∧ ∃ m, m < 7 ∧ gr_j (Z s m) (Z m t) < 0) ∨ ∃ m, m < 7 ∧ Z' s t = gr_j (Z s m) (Z m t))) : gr_E2 A (i + i) (b + b) Z' := by
  obtain ⟨h1, h2⟩ := h
  refine ⟨fun s t hs ht => ?_, fun s t n c hs hn g => ?_⟩
  · rcases (hZ s t hs ht).2 with e | ⟨rfl, e, m, hm, hl⟩ | ⟨m, hm, e⟩
    · exact Or.inl e
    · rw [e]
      exact gr_CL (gr_CLn (gr_jj ok (by omega) (h1 s m hs hm) (h1 m s hm hs)) hl)
    · rw [e]
      exact gr_jj ok (by omega) (h1 s m hs hm) (h1 m t hm ht)
  · have ht := gr_Wv (gr_oki ok) hs g
    obtain ⟨n1, n2, e, e1, e2⟩ : ∃ n1 n2, n = n1 + n2 ∧ n1 ≤ i ∧ n2 ≤ i := ⟨n - n / 2, n / 2, by omega, by omega, by omega⟩
    subst e
    obtain ⟨m, c1, c2, g1, g2, rfl⟩ := gr_cut g
    have hm := gr_Wv (gr_oki ok) hs g1
    have k1 := h2 s m n1 c1 hs e1 g1
    have k2 := h2 m t n2 c2 hm e2 g2
    have k3 := (hZ s t hs ht).1 m hm
    have b1 := gr_Wb ok g1
    have b2 := gr_Wb ok g2
    have j := @gr_jc (Z s m) (Z m t)
    omega
/-- two more times carry a bottom to those before and behind -/
theorem gr_E2f (ok : gr_ok A) {Z3 Z4 Z5 : Nat → Nat → Int} (h3 : gr_E2 A 8 8 Z3) (d3 : ∀ p, p < 7 → Z3 p p < 0 → Z3 p p = -1000000) (h4 : gr_E2 A 16 16 Z4) (h5 : gr_E2 A 32 32 Z5) (h34 : ∀ s t, s < 7 → t < 7 → ∀ m, m < 7 → Z4 s t ≤ gr_j (Z3 s m) (Z3 m t)) (h45 : ∀ s t, s < 7 → t < 7 → ∀ m, m < 7 → Z5 s t ≤ gr_j (Z4 s m) (Z4 m t)) : ∀ s t, s < 7 → t < 7 → gr_Ans A s t (gr_cv (Z5 s t)) := by
  intro s t hs ht
  refine gr_fin ok hs (by omega : 32 ≤ 10000) (h5.1 s t hs ht) (fun hl => ?_) (fun n c hn g => h5.2 s t n c hs (by omega) g)
  obtain ⟨p, r1, r2, n, u, m, c, x, g, a, hx⟩ := gr_Lring ok hs hl
  have hp := (ok _ _ _ a).2.1
  have g1 := gr_Ws (gr_SW g) a
  have n6 := gr_Sn6 (gr_oki ok) hp g
  have k1 := h3.2 p p (n + 1) (c + x) hp (by omega) g1
  have k2 := d3 p hp (by omega)
  obtain ⟨n1, c1, hn1, w1⟩ := gr_R6 (gr_oki ok) hs r1
  obtain ⟨n2, c2, hn2, w2⟩ := gr_R6 (gr_oki ok) hp r2
  have k3 := h3.2 p t n2 c2 hp (by omega) w2
  have k4 := h34 p t hp ht p hp
  have k5 := h4.2 s p n1 c1 hs (by omega) w1
  have k6 := h45 s t hs ht p hp
  have b1 := gr_Wb ok w1
  have b2 := gr_Wb ok w2
  have r4 := (gr_Crg ok (by omega) (h4.1 p t hp ht)).1
  have r5 := (gr_Crg ok (by omega) (h5.1 s t hs ht)).1
  unfold gr_rg at r4 r5
  rw [k2, gr_j_D (by omega)] at k4
  have k7 : Z4 p t = -1000000 := by omega
  rw [k7, gr_j_D' (by omega)] at k6
  omega
/-- engine 4: the table of sets from s, before set M is grown -/
def gr_E4 (A : Nat → Nat → Int → Prop) (s M : Nat) (z : Nat → Nat → Int) : Prop := (∀ m v, m < 128 → v < 7 → z m v = 1000000 ∨ ∃ n, gr_S A gr_T s n v m (z m v)) ∧ z (2 ^ s) s ≤ 0 ∧ ∀ n u m c v x, gr_S A gr_T s n u m c → A u v x → m.testBit v = false → m < M → z (m ||| 2 ^ v) v ≤ c + x
theorem gr_E4le {s M : Nat} {z : Nat → Nat → Int} (h : gr_E4 A s M z) {n v m : Nat} {c : Int} (g : gr_S A gr_T s n v m c) (hm : m ≤ M) : z m v ≤ c := by
  cases n with
  | zero =>
    obtain ⟨rfl, rfl, rfl, _⟩ := g
    exact h.2.1
  | succ n =>
    obtain ⟨u, m', c', x, g, a, rfl, b, rfl, _⟩ := g
    refine h.2.2 n u m' c' v x g a b ?_
    refine Nat.lt_of_lt_of_le (Nat.lt_of_le_of_ne Nat.left_le_or fun e => ?_) hm
    have e2 : (m' ||| 2 ^ v).testBit v = true := by rw [Nat.testBit_or, Nat.testBit_two_pow_self, Bool.or_true]
    rw [← e, b] at e2
    exact absurd e2 (by decide)
theorem gr_A0_S {s : Nat} : ∀ {n v m : Nat} {c : Int}, gr_S (gr_A0 A) gr_T s n v m c → ∃ d, gr_S A gr_T s n v m d := by
  intro n
  induction n with
  | zero =>
    intro v m c h
    exact ⟨0, h.1, h.2.1, rfl, trivial⟩
  | succ n ih =>
    intro v m c h
    obtain ⟨u, m', c', x, h, ⟨_, y, a⟩, _, b, e, _⟩ := h
    obtain ⟨d, g⟩ := ih h
    exact ⟨d + y, u, m', d, y, g, a, rfl, b, e, trivial⟩
theorem gr_RS {s v : Nat} (h : gr_R A s v) : ∃ n m c, gr_S A gr_T s n v m c := by
  obtain ⟨n, c, h⟩ := h
  rcases gr_simple (gr_W_A0 h) with ⟨p, h1, h2, n', u, m, c', x, h3, ⟨h4, _⟩, h5⟩ | ⟨n', m, c', h1, h2⟩
  · have := (gr_A0_W (gr_SW h3)).1
    omega
  · obtain ⟨d, g⟩ := gr_A0_S h1
    exact ⟨n', m, d, g⟩
/-- engine 4: a table of least simple walks, then bottoms through the points on a ring below 0 -/
theorem gr_E4f (ok : gr_ok A) {Z' : Nat → Nat → Int} (h1 : ∀ s t, s < 7 → t < 7 → gr_C A 6 s t (Z' s t)) (h2 : ∀ s t n m c, s < 7 → t < 7 → gr_S A gr_T s n t m c → Z' s t ≤ c) (h3 : ∀ s t p, s < 7 → t < 7 → p < 7 → gr_NR A p → gr_R A s p → gr_R A p t → Z' s t = -1000000) : ∀ s t, s < 7 → t < 7 → gr_Ans A s t (gr_cv (Z' s t)) := by
  intro s t hs ht
  have hL : gr_L A s t → Z' s t = -1000000 := by
    intro hl
    obtain ⟨p, r1, r2, hp⟩ := gr_Lring ok hs hl
    obtain ⟨n1, c1, w1⟩ := r1
    exact h3 s t p hs ht (gr_Wv (gr_oki ok) hs w1) hp ⟨n1, c1, w1⟩ r2
  refine gr_fin ok hs (by omega : 6 ≤ 10000) (h1 s t hs ht) hL (fun n c hn g => ?_)
  rcases gr_simple g with ⟨p, r1, r2, r3⟩ | ⟨n', m, c', g1, g2⟩
  · have := hL (gr_LR (gr_RL r1 (gr_NRL r3)) r2)
    have := gr_Wb ok g
    omega
  · have := h2 s t n' m c' hs ht g1
    omega
end
