/-! the arcs as the arrays hold them; sets as they are answered -/
def hx_K (th fr to wt : Nat → Int32) (j u v : Nat) (x : Int) : Prop := ¬ th j = 0 ∧ fr j = nI u ∧ to j = nI v ∧ u < 7 ∧ v < 7 ∧ (wt j).toInt = x
def hx_A (th fr to wt : Nat → Int32) : Nat → Nat → Int → Prop := gr_AK (hx_K th fr to wt)
def hx_ok (th fr to wt : Nat → Int32) : Prop := ∀ j, j < 20 → (th j = 0 ∨ th j = 1) ∧ (∃ u, u < 7 ∧ fr j = nI u) ∧ (∃ v, v < 7 ∧ to j = nI v) ∧ -20 ≤ (wt j).toInt ∧ (wt j).toInt ≤ 20
section
variable {th fr to wt : Nat → Int32}
theorem hx_grok (h : hx_ok th fr to wt) : gr_ok (hx_A th fr to wt) := by
  rintro u v x ⟨j, hj, h1, h2, h3, h4, h5, h6⟩
  have := (h j hj).2.2.2
  omega
theorem hx_arc (h : hx_ok th fr to wt) {j : Nat} (hj : j < 20) : ∃ u v x, u < 7 ∧ v < 7 ∧ fr j = nI u ∧ to j = nI v ∧ (wt j).toInt = x ∧ -20 ≤ x ∧ x ≤ 20 ∧ (th j = 0 → ∀ u' v' x', ¬ hx_K th fr to wt j u' v' x') ∧ (¬ th j = 0 → (∀ u' v' x', hx_K th fr to wt j u' v' x' ↔ u' = u ∧ v' = v ∧ x' = x) ∧ hx_A th fr to wt u v x) := by
  obtain ⟨_, ⟨u, hu, eu⟩, ⟨v, hv, ev⟩, hw1, hw2⟩ := h j hj
  have key : ¬ th j = 0 → ∀ u' v' x', hx_K th fr to wt j u' v' x' ↔ u' = u ∧ v' = v ∧ x' = (wt j).toInt := by
    intro ht u' v' x'
    constructor
    · rintro ⟨_, h2, h3, h4, h5, h6⟩
      rw [eu] at h2
      rw [ev] at h3
      exact ⟨((nI_eq (by omega) (by omega)).mp h2).symm, ((nI_eq (by omega) (by omega)).mp h3).symm, h6.symm⟩
    · rintro ⟨rfl, rfl, rfl⟩
      exact ⟨ht, eu, ev, hu, hv, rfl⟩
  refine ⟨u, v, (wt j).toInt, hu, hv, eu, ev, rfl, hw1, hw2, fun h0 u' v' x' hk => hk.1 h0, fun h0 => ⟨key h0, j, hj, (key h0 u v _).mpr ⟨rfl, rfl, rfl⟩⟩⟩
end
def hx_set (P : Nat → Prop) (n : Nat) (r : Int32) : Prop := ∃ m, r = nI m ∧ m < 2 ^ n ∧ ∀ i, m.testBit i = true ↔ i < n ∧ P i
theorem hx_set0 (P : Nat → Prop) : hx_set P 0 0 := ⟨0, rfl, by decide, fun i => by simp⟩
theorem hx_setT {P : Nat → Prop} {n : Nat} {r : Int32} (h : hx_set P n r) (hn : n < 31) (hp : P n) : hx_set P (n + 1) (r ||| ((1 : Int32) <<< (nI n &&& 31))) := by
  obtain ⟨m, rfl, h1, h2⟩ := h
  refine ⟨m ||| 2 ^ n, ?_, ?_, fun i => ?_⟩
  · rw [hp_shl n hn, hp_or]
  · refine Nat.or_lt_two_pow (Nat.lt_trans h1 (Nat.pow_lt_pow_right (by decide) (by omega))) (Nat.pow_lt_pow_right (by decide) (by omega))
  · rw [Nat.testBit_or, Bool.or_eq_true, h2 i, Nat.testBit_two_pow, decide_eq_true_eq]
    constructor
    · rintro (⟨g1, g2⟩ | rfl)
      · exact ⟨by omega, g2⟩
      · exact ⟨by omega, hp⟩
    · rintro ⟨g1, g2⟩
      by_cases e : n = i
      · exact Or.inr e
      · exact Or.inl ⟨by omega, g2⟩
theorem hx_setF {P : Nat → Prop} {n : Nat} {r : Int32} (h : hx_set P n r) (hp : ¬ P n) : hx_set P (n + 1) r := by
  obtain ⟨m, rfl, h1, h2⟩ := h
  refine ⟨m, rfl, Nat.lt_trans h1 (Nat.pow_lt_pow_right (by decide) (by omega)), fun i => ?_⟩
  rw [h2 i]
  constructor
  · rintro ⟨g1, g2⟩
    exact ⟨by omega, g2⟩
  · rintro ⟨g1, g2⟩
    by_cases e : i = n
    · subst e
      exact absurd g2 hp
    · exact ⟨by omega, g2⟩
theorem hx_setU {P P' : Nat → Prop} {n : Nat} {r r' : Int32} (h : hx_set P n r) (h' : hx_set P' n r') (e : ∀ i, i < n → (P i ↔ P' i)) : r = r' := by
  obtain ⟨m, rfl, h1, h2⟩ := h
  obtain ⟨m', rfl, h1', h2'⟩ := h'
  refine congrArg nI (Nat.eq_of_testBit_eq fun i => ?_)
  have k : m.testBit i = true ↔ m'.testBit i = true := by
    rw [h2 i, h2' i]
    exact ⟨fun g => ⟨g.1, (e i g.1).mp g.2⟩, fun g => ⟨g.1, (e i g.1).mpr g.2⟩⟩
  cases z : m.testBit i <;> cases z' : m'.testBit i <;> simp [z, z'] at k ⊢
