/-! the reference's best ring so far -/
section
variable {A : Nat → Nat → Int → Prop}
theorem gr_RCr (ok : gr_ok A) {m v : Nat} {c : Int} (h : gr_RC A m v c) : v < 7 ∧ m < 128 ∧ 1 ≤ gr_pc m ∧ gr_pc m ≤ 7 ∧ -140 ≤ c ∧ c ≤ 140 := by
  obtain ⟨s, hs, g⟩ := gr_RCRg (gr_oki ok) h
  have h1 := gr_Rgn (gr_oki ok) hs g
  have h2 := gr_Wb ok (gr_RgW g)
  obtain ⟨s', _, d, x, _, a, _⟩ := h
  have h3 := ok _ _ _ a
  omega
def gr_rb (A : Nat → Nat → Int → Prop) (i : Nat) (t b : Int) (P : Nat) : Prop := (t = -3000 ∧ b = 1 ∧ P = 0 ∧ ∀ m v c, v < 7 → 7 * m + v < i → ¬ gr_RC A m v c) ∨ (t ≠ -3000 ∧ -140 ≤ t ∧ t ≤ 140 ∧ 1 ≤ b ∧ b ≤ 7 ∧ (∃ m v, v < 7 ∧ 7 * m + v < i ∧ gr_RC A m v t ∧ b = gr_pc m) ∧ (∀ m v c, v < 7 → 7 * m + v < i → gr_RC A m v c → t * gr_pc m ≤ c * b) ∧ P < 128 ∧ ∀ p, P.testBit p = true ↔ ∃ m v c, v < 7 ∧ 7 * m + v < i ∧ gr_RC A m v c ∧ c * b = t * gr_pc m ∧ m.testBit p = true)
theorem gr_ixs {m v m' v' : Nat} (hv : v < 7) (hv' : v' < 7) : 7 * m' + v' < 7 * m + v + 1 ↔ 7 * m' + v' < 7 * m + v ∨ (m' = m ∧ v' = v) := by omega
theorem gr_rbN {t b : Int} {P m v : Nat} (hv : v < 7) (h : gr_rb A (7 * m + v) t b P) (hn : ∀ c, ¬ gr_RC A m v c) : gr_rb A (7 * m + v + 1) t b P := by
  have key : ∀ m' v' c, v' < 7 → 7 * m' + v' < 7 * m + v + 1 → gr_RC A m' v' c → 7 * m' + v' < 7 * m + v := by
    intro m' v' c hv' hi g
    rcases (gr_ixs hv hv').mp hi with h | ⟨rfl, rfl⟩
    · exact h
    · exact absurd g (hn c)
  rcases h with ⟨h1, h2, h3, h4⟩ | ⟨h1, h2, h3, h4, h5, ⟨m1, v1, k1, k2, k3, k4⟩, h7, h8, h9⟩
  · exact Or.inl ⟨h1, h2, h3, fun m' v' c hv' hi g => h4 m' v' c hv' (key _ _ _ hv' hi g) g⟩
  · refine Or.inr ⟨h1, h2, h3, h4, h5, ⟨m1, v1, k1, by omega, k3, k4⟩, fun m' v' c hv' hi g => h7 m' v' c hv' (key _ _ _ hv' hi g) g, h8, fun p => ?_⟩
    rw [h9 p]
    constructor
    · rintro ⟨m', v', c, g1, g2, g3⟩
      exact ⟨m', v', c, g1, by omega, g3⟩
    · rintro ⟨m', v', c, g1, g2, g3, g4⟩
      exact ⟨m', v', c, g1, key _ _ _ g1 g2 g3, g3, g4⟩
theorem gr_rbB (ok : gr_ok A) {t b w : Int} {P m v : Nat} (hv : v < 7) (h : gr_rb A (7 * m + v) t b P) (hw : gr_RC A m v w) (hm : ∀ c, gr_RC A m v c → w ≤ c) (hc : t = -3000 ∨ w * b < t * gr_pc m) : gr_rb A (7 * m + v + 1) w (gr_pc m) m := by
  have r := gr_RCr ok hw
  have old : ∀ m' v' c, v' < 7 → 7 * m' + v' < 7 * m + v → gr_RC A m' v' c → w * gr_pc m' < c * gr_pc m := by
    intro m' v' c hv' hi g
    rcases h with ⟨h1, h2, h3, h4⟩ | ⟨h1, h2, h3, h4, h5, h6, h7, h8, h9⟩
    · exact absurd g (h4 _ _ _ hv' hi)
    · have hc' := hc.resolve_left h1
      have r' := gr_RCr ok g
      exact gr_crs (b2 := b) (by omega) (by omega) (by omega) hc' (h7 _ _ _ hv' hi g)
  have here : ∀ c, gr_RC A m v c → w * gr_pc m ≤ c * gr_pc m := by
    intro c g
    exact Int.mul_le_mul_of_nonneg_right (hm c g) (by omega)
  refine Or.inr ⟨by omega, by omega, by omega, by omega, by omega, ⟨m, v, hv, by omega, hw, rfl⟩, fun m' v' c hv' hi g => ?_, by omega, fun p => ?_⟩
  · rcases (gr_ixs hv hv').mp hi with h' | ⟨rfl, rfl⟩
    · exact Int.le_of_lt (old _ _ _ hv' h' g)
    · exact here c g
  · constructor
    · intro hp
      exact ⟨m, v, w, hv, by omega, hw, rfl, hp⟩
    · rintro ⟨m', v', c, g1, g2, g3, g4, g5⟩
      rcases (gr_ixs hv g1).mp g2 with h' | ⟨rfl, rfl⟩
      · have := old _ _ _ g1 h' g3
        omega
      · exact g5
theorem gr_rbK (ok : gr_ok A) {t b w : Int} {P P' m v : Nat} (hv : v < 7) (h : gr_rb A (7 * m + v) t b P) (hw : gr_RC A m v w) (hm : ∀ c, gr_RC A m v c → w ≤ c) (ht : t ≠ -3000) (hc : ¬ w * b < t * gr_pc m) (hP : (w * b = t * gr_pc m ∧ P' = P ||| m) ∨ (w * b ≠ t * gr_pc m ∧ P' = P)) : gr_rb A (7 * m + v + 1) t b P' := by
  have r := gr_RCr ok hw
  rcases h with ⟨h1, h2, h3, h4⟩ | ⟨h1, h2, h3, h4, h5, ⟨m1, v1, k1, k2, k3, k4⟩, h7, h8, h9⟩
  · exact absurd h1 ht
  · have here : ∀ c, gr_RC A m v c → w * b ≤ c * b := by
      intro c g
      exact Int.mul_le_mul_of_nonneg_right (hm c g) (by omega)
    refine Or.inr ⟨h1, h2, h3, h4, h5, ⟨m1, v1, k1, by omega, k3, k4⟩, fun m' v' c hv' hi g => ?_, ?_, fun p => ?_⟩
    · rcases (gr_ixs hv hv').mp hi with h' | ⟨rfl, rfl⟩
      · exact h7 _ _ _ hv' h' g
      · have := here c g
        omega
    · rcases hP with ⟨_, e⟩ | ⟨_, e⟩
      · rw [e]
        exact Nat.or_lt_two_pow (n := 7) h8 r.2.1
      · rw [e]
        exact h8
    · have e1 : P'.testBit p = true ↔ P.testBit p = true ∨ (w * b = t * gr_pc m ∧ m.testBit p = true) := by
        rcases hP with ⟨e0, e⟩ | ⟨e0, e⟩
        · rw [e, Nat.testBit_or, Bool.or_eq_true]
          exact ⟨fun h => h.imp id fun h => ⟨e0, h⟩, fun h => h.imp id fun h => h.2⟩
        · rw [e]
          exact ⟨Or.inl, fun h => h.elim id fun h => absurd h.1 e0⟩
      rw [e1, h9 p]
      constructor
      · rintro (⟨m', v', c, g1, g2, g3⟩ | ⟨g1, g2⟩)
        · exact ⟨m', v', c, g1, by omega, g3⟩
        · exact ⟨m, v, w, hv, by omega, hw, g1, g2⟩
      · rintro ⟨m', v', c, g1, g2, g3, g4, g5⟩
        rcases (gr_ixs hv g1).mp g2 with h' | ⟨rfl, rfl⟩
        · exact Or.inl ⟨m', v', c, g1, h', g3, g4, g5⟩
        · have := here c g3
          exact Or.inr ⟨by omega, g5⟩
/-- when all sets are through -/
theorem gr_rbF (ok : gr_ok A) {t b : Int} {P : Nat} (h : gr_rb A (7 * 128) t b P) : (t = -3000 ∧ b = 1 ∧ P = 0 ∧ ∀ s m n c, ¬ gr_Rg A s m n c) ∨ (t ≠ -3000 ∧ -140 ≤ t ∧ t ≤ 140 ∧ 1 ≤ b ∧ b ≤ 7 ∧ gr_Mean A t b ∧ P < 128 ∧ ∀ p, P.testBit p = true ↔ ∃ m n c, gr_Rg A p m n c ∧ b * c = t * n) := by
  have key : ∀ s m n c, gr_Rg A s m n c → ∃ v, v < 7 ∧ 7 * m + v < 7 * 128 ∧ gr_RC A m v c ∧ gr_pc m = n := by
    intro s m n c g
    obtain ⟨v, h1, x, y, a⟩ := gr_RgRC g
    have r := gr_RCr ok h1
    have hs : s < 7 := by
      obtain ⟨n', u, c', x, g, a, _⟩ := g
      exact (ok _ _ _ a).2.1
    have r2 := gr_Rgn (gr_oki ok) hs g
    exact ⟨v, r.1, by omega, h1, r2.2.2.2⟩
  rcases h with ⟨h1, h2, h3, h4⟩ | ⟨h1, h2, h3, h4, h5, ⟨m1, v1, k1, k2, k3, k4⟩, h7, h8, h9⟩
  · refine Or.inl ⟨h1, h2, h3, fun s m n c g => ?_⟩
    obtain ⟨v, g1, g2, g3, _⟩ := key s m n c g
    exact h4 _ _ _ g1 g2 g3
  · refine Or.inr ⟨h1, h2, h3, h4, h5, ⟨by omega, ?_, fun s m n c g => ?_⟩, h8, fun p => ?_⟩
    · obtain ⟨s, _, g⟩ := gr_RCRg (gr_oki ok) k3
      exact ⟨s, m1, gr_pc m1, t, g, by rw [← k4, Int.mul_comm]⟩
    · obtain ⟨v, g1, g2, g3, g4⟩ := key s m n c g
      have := h7 _ _ _ g1 g2 g3
      rw [g4, Int.mul_comm c b] at this
      exact this
    · rw [h9 p]
      constructor
      · rintro ⟨m, v, c, g1, g2, g3, g4, g5⟩
        obtain ⟨s, _, g⟩ := gr_RCRg (gr_oki ok) g3
        exact ⟨m, gr_pc m, c, gr_rot g g5, by rw [Int.mul_comm, g4]⟩
      · rintro ⟨m, n, c, g, e⟩
        obtain ⟨v, g1, g2, g3, g4⟩ := key p m n c g
        have hp : m.testBit p = true := by
          obtain ⟨n', u, c', x, g, _⟩ := g
          exact gr_Ss g
        exact ⟨m, v, c, g1, g2, g3, by rw [Int.mul_comm, e, g4], hp⟩
end
