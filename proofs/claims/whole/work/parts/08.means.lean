/-! fractions compared crosswise; the component's two ways to the least mean -/
theorem gr_m3 (a b c : Int) : a * b * c = a * c * b := by
  rw [Int.mul_assoc, Int.mul_comm b c, ← Int.mul_assoc]
theorem gr_crl {t1 b1 t2 b2 t3 b3 : Int} (h1 : 0 < b1) (h2 : 0 < b2) (h3 : 0 < b3) (h : t1 * b2 ≤ t2 * b1) (g : t2 * b3 ≤ t3 * b2) : t1 * b3 ≤ t3 * b1 := by
  have k1 := Int.mul_le_mul_of_nonneg_right h (Int.le_of_lt h3)
  have k2 := Int.mul_le_mul_of_nonneg_right g (Int.le_of_lt h1)
  rw [gr_m3 t2 b1 b3] at k1
  have k3 := Int.le_trans k1 k2
  rw [gr_m3 t1 b2 b3, gr_m3 t3 b2 b1] at k3
  exact Int.le_of_mul_le_mul_right k3 h2
theorem gr_crs {t1 b1 t2 b2 t3 b3 : Int} (h1 : 0 < b1) (h2 : 0 < b2) (h3 : 0 < b3) (h : t1 * b2 < t2 * b1) (g : t2 * b3 ≤ t3 * b2) : t1 * b3 < t3 * b1 := by
  have k1 := Int.mul_lt_mul_of_pos_right h h3
  have k2 := Int.mul_le_mul_of_nonneg_right g (Int.le_of_lt h1)
  rw [gr_m3 t2 b1 b3] at k1
  have k3 := Int.lt_of_lt_of_le k1 k2
  rw [gr_m3 t1 b2 b3, gr_m3 t3 b2 b1] at k3
  exact Int.lt_of_mul_lt_mul_right k3 (Int.le_of_lt h2)
/-- the best of what was offered -/
def gr_bst (Of : Int → Int → Prop) (t b : Int) : Prop := (b = 0 ∧ t = 0 ∧ ∀ t' b', ¬ Of t' b') ∨ (1 ≤ b ∧ Of t b ∧ ∀ t' b', Of t' b' → t * b' ≤ t' * b)
theorem gr_bstC {Of Of' : Int → Int → Prop} {t b : Int} (e : ∀ t b, Of' t b ↔ Of t b) (h : gr_bst Of t b) : gr_bst Of' t b := by
  rcases h with ⟨h1, h2, h3⟩ | ⟨h1, h2, h3⟩
  · exact Or.inl ⟨h1, h2, fun t' b' h => h3 t' b' ((e _ _).mp h)⟩
  · exact Or.inr ⟨h1, (e _ _).mpr h2, fun t' b' h => h3 t' b' ((e _ _).mp h)⟩
theorem gr_bstT {Of Of' : Int → Int → Prop} {t b t1 b1 : Int} (hp : ∀ t b, Of t b → 1 ≤ b) (e : ∀ t b, Of' t b ↔ Of t b ∨ (t = t1 ∧ b = b1)) (h : gr_bst Of t b) (hb : 1 ≤ b1) (hc : b = 0 ∨ t1 * b < t * b1) : gr_bst Of' t1 b1 := by
  refine Or.inr ⟨hb, (e _ _).mpr (Or.inr ⟨rfl, rfl⟩), fun t' b' h' => ?_⟩
  rcases (e _ _).mp h' with h' | ⟨rfl, rfl⟩
  · rcases h with ⟨_, _, h3⟩ | ⟨h1, h2, h3⟩
    · exact absurd h' (h3 t' b')
    · have k := hp _ _ h'
      have hc' : t1 * b < t * b1 := hc.resolve_left (by omega)
      exact Int.le_of_lt (gr_crs (by omega) (by omega) (by omega) hc' (h3 t' b' h'))
  · exact Int.le_refl _
theorem gr_bstK {Of Of' : Int → Int → Prop} {t b t1 b1 : Int} (e : ∀ t b, Of' t b ↔ Of t b ∨ (t = t1 ∧ b = b1)) (h : gr_bst Of t b) (hc : ¬ (b = 0 ∨ t1 * b < t * b1)) : gr_bst Of' t b := by
  rcases h with ⟨h1, h2, h3⟩ | ⟨h1, h2, h3⟩
  · exact absurd (Or.inl h1) hc
  · refine Or.inr ⟨h1, (e _ _).mpr (Or.inl h2), fun t' b' h' => ?_⟩
    rcases (e _ _).mp h' with h' | ⟨rfl, rfl⟩
    · exact h3 t' b' h'
    · exact Int.not_lt.mp fun z => hc (Or.inr z)
section
variable {A : Nat → Nat → Int → Prop}
/-- what mean engine 1 offers -/
def gr_O1 (A : Nat → Nat → Int → Prop) (t b : Int) : Prop := ∃ v n : Nat, v < 7 ∧ 1 ≤ n ∧ n ≤ 7 ∧ b = n ∧ gr_W A n v v t ∧ ∀ c, gr_W A n v v c → t ≤ c
theorem gr_O1b {t b : Int} (h : gr_O1 A t b) : 1 ≤ b := by
  obtain ⟨v, n, h1, h2, h3, h4, _⟩ := h
  omega
theorem gr_O1m (ok : gr_ok A) {Of : Int → Int → Prop} {p q t b : Int} (h : gr_Mean A p q) (hb : gr_bst Of t b) (sub : ∀ t b, Of t b → gr_O1 A t b) (ex : ∀ v n c, v < 7 → 1 ≤ n → n ≤ 7 → gr_W A n v v c → ∃ d, Of d (n : Int) ∧ d ≤ c) : 1 ≤ b ∧ b ≤ 7 ∧ t * q = p * b := by
  obtain ⟨s, m, n, c, hr, hc⟩ := h.2.1
  have hs : s < 7 := by
    obtain ⟨n', u, c', x, g, a, _⟩ := hr
    exact (ok _ _ _ a).2.1
  have hn := gr_Rgn (gr_oki ok) hs hr
  obtain ⟨d, o, hd⟩ := ex s n c hs hn.1 hn.2.1 (gr_RgW hr)
  rcases hb with ⟨_, _, h3⟩ | ⟨h1, h2, h3⟩
  · exact absurd o (h3 _ _)
  · obtain ⟨v, n', hv, g1, g2, g3, g4, g5⟩ := sub _ _ h2
    have k1 := gr_M1 h g4
    have k2 := h3 _ _ o
    have k3 : d * q ≤ c * q := Int.mul_le_mul_of_nonneg_right hd (by have := h.1; omega)
    have k4 : d * q ≤ p * n := by
      rw [Int.mul_comm c q, hc] at k3
      exact k3
    have q0 := h.1
    have k5 : t * q ≤ p * b := gr_crl (b2 := (n : Int)) (by omega) (by omega) (by omega) k2 k4
    have k6 : p * b ≤ t * q := by
      rw [g3, Int.mul_comm t q]
      exact k1
    exact ⟨h1, by omega, by omega⟩
/-- what mean engine 0 offers, over levels D -/
def gr_O0 (D : Nat → Nat → Int) (t b : Int) : Prop := ∃ v : Nat, v < 7 ∧ D 7 v ≠ 1000000 ∧ (∃ k : Nat, k ≤ 6 ∧ t = D 7 v - D k v ∧ b = 7 - k) ∧ ∀ k : Nat, k ≤ 6 → (D 7 v - D k v) * b ≤ t * (7 - k)
theorem gr_O0b {D : Nat → Nat → Int} {t b : Int} (h : gr_O0 D t b) : 1 ≤ b := by
  obtain ⟨v, h1, h2, ⟨k, h3, h4, h5⟩, _⟩ := h
  omega
theorem gr_O0m (ok : gr_ok A) {Of : Int → Int → Prop} {p q t b : Int} (h : gr_Mean A p q) {D : Nat → Nat → Int} (hD : ∀ n v, n < 8 → v < 7 → gr_mn 1000000 (gr_V A (fun s => s < 7) n v) (D n v)) (hb : gr_bst Of t b) (sub : ∀ t b, Of t b → gr_O0 D t b) (ex : ∀ v, v < 7 → D 7 v ≠ 1000000 → ∃ t b, Of t b ∧ ∃ k : Nat, k ≤ 6 ∧ t = D 7 v - D k v ∧ b = 7 - k) : 1 ≤ b ∧ b ≤ 7 ∧ t * q = p * b := by
  have q0 := h.1
  have lower : ∀ t b, gr_O0 D t b → p * b ≤ t * q := by
    rintro t b ⟨v, hv, hf, ⟨k0, g1, g2, g3⟩, hm⟩
    rcases hD 7 v (by omega) hv with ⟨e, _⟩ | ⟨_, ⟨s, hs, gw⟩, _⟩
    · exact absurd e hf
    · obtain ⟨k, d, hk, w, hp⟩ := gr_K1 (gr_oki ok) h hs gw
      have hdk : D k v ≤ d := by
        rcases hD k v (by omega) hv with ⟨_, e⟩ | ⟨_, _, e⟩
        · exact absurd ⟨s, hs, w⟩ (e d)
        · exact e d ⟨s, hs, w⟩
      have k1 : p * (7 - k) ≤ (D 7 v - D k v) * q := by
        refine Int.le_trans hp ?_
        rw [Int.mul_comm (D 7 v - D k v) q]
        exact Int.mul_le_mul_of_nonneg_left (by omega) (by omega)
      exact gr_crl (b2 := (7 - k : Int)) (by omega) (by omega) (by omega) k1 (hm k hk)
  obtain ⟨s, v, c, hs, hv, g, hK⟩ := gr_K2 ok h
  have h7 : D 7 v ≠ 1000000 ∧ D 7 v ≤ c := by
    rcases hD 7 v (by omega) hv with ⟨_, e⟩ | ⟨e0, _, e⟩
    · exact absurd ⟨s, hs, g⟩ (e c)
    · exact ⟨e0, e c ⟨s, hs, g⟩⟩
  obtain ⟨t1, b1, o, k, hk, e1, e2⟩ := ex v hv h7.1
  have up : t1 * q ≤ p * b1 := by
    rcases hD k v (by omega) hv with ⟨e3, e⟩ | ⟨e0, ⟨s', hs', w⟩, e⟩
    · exfalso
      have w2 : (7 - k) + k = 7 := by omega
      rw [← w2] at g
      obtain ⟨y, c1, c2, g1, g2, _⟩ := gr_cut g
      have hy := gr_Wv (gr_oki ok) hs g1
      exact e c2 ⟨y, hy, g2⟩
    · have k1 := hK k s' (D k v) w
      rw [e1, e2]
      refine Int.le_trans ?_ k1
      rw [Int.mul_comm]
      exact Int.mul_le_mul_of_nonneg_left (by omega) (by omega)
  rcases hb with ⟨_, _, h3⟩ | ⟨h1, h2, h3⟩
  · exact absurd o (h3 _ _)
  · have k1 := lower t b (sub _ _ h2)
    have k2 := h3 _ _ o
    have k3 : t * q ≤ p * b := gr_crl (b2 := b1) (by omega) (by have := gr_O0b (sub _ _ o); omega) (by omega) k2 up
    obtain ⟨v', _, _, ⟨k', _, _, g3⟩, _⟩ := sub _ _ h2
    exact ⟨h1, by omega, by omega⟩
theorem gr_no7 (ok : gr_ok A) (hn : ∀ s m n c, ¬ gr_Rg A s m n c) {s v : Nat} {c : Int} (hs : s < 7) : ¬ gr_W A 7 s v c := by
  intro g
  obtain ⟨m, h⟩ := gr_noring hn g
  have := gr_Sn6 (gr_oki ok) hs h
  omega
theorem gr_noc (hn : ∀ s m n c, ¬ gr_Rg A s m n c) {v n : Nat} {c : Int} (h0 : 1 ≤ n) : ¬ gr_W A n v v c := by
  intro g
  obtain ⟨m, h⟩ := gr_noring hn g
  cases n with
  | zero => omega
  | succ n =>
    obtain ⟨u, m', c', x, h, a, e, b, _⟩ := h
    have := gr_Ss h
    rw [b] at this
    exact absurd this (by decide)
/-- the points on a ring of least mean -/
theorem gr_onr {p q t b : Int} (h : gr_Mean A p q) (hb : 1 ≤ b) (ht : t * q = p * b) {v : Nat} : (∃ n c, 1 ≤ n ∧ n ≤ 7 ∧ gr_W A n v v c ∧ (∀ d, gr_W A n v v d → c ≤ d) ∧ c * b = t * (n : Int)) → ∃ m n c, gr_Rg A v m n c ∧ q * c = p * n := by
  rintro ⟨n, c, h1, h2, h3, h4, h5⟩
  obtain ⟨k, rfl⟩ : ∃ k, n = k + 1 := ⟨n - 1, by omega⟩
  have q0 := h.1
  have k1 : q * c = p * ((k + 1 : Nat) : Int) := by
    have k2 : c * q ≤ p * ((k + 1 : Nat) : Int) := gr_crl (b2 := b) (by omega) (by omega) (by omega) (Int.le_of_eq h5) (Int.le_of_eq ht)
    have k3 := gr_M1 h h3
    rw [Int.mul_comm c q] at k2
    omega
  obtain ⟨m, n', c', g1, g2, _⟩ := gr_M4 h h3 k1
  exact ⟨m, n', c', g1, g2⟩
theorem gr_onr' (ok : gr_ok A) {p q t b : Int} (h : gr_Mean A p q) (hb : 1 ≤ b) (ht : t * q = p * b) {v m n : Nat} {c : Int} (hv : v < 7) (hr : gr_Rg A v m n c) (hc : q * c = p * n) : 1 ≤ n ∧ n ≤ 7 ∧ gr_W A n v v c ∧ (∀ d, gr_W A n v v d → c ≤ d) ∧ c * b = t * (n : Int) := by
  have hn := gr_Rgn (gr_oki ok) hv hr
  have q0 := h.1
  refine ⟨hn.1, hn.2.1, gr_RgW hr, fun d g => ?_, ?_⟩
  · have k := gr_M1 h g
    rw [← hc] at k
    exact Int.le_of_mul_le_mul_left k q0
  · have k1 : c * q = p * n := by rw [Int.mul_comm, hc]
    have k2 : c * b ≤ t * n := gr_crl (b2 := q) (by omega) (by omega) (by omega) (Int.le_of_eq k1) (Int.le_of_eq ht.symm)
    have k3 : t * n ≤ c * b := gr_crl (b2 := q) (by omega) (by omega) (by omega) (Int.le_of_eq ht) (Int.le_of_eq k1.symm)
    omega
end
