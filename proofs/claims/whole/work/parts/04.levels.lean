/-- z is the least of P, or N when there is none -/
def gr_mn (N : Int) (P : Int → Prop) (z : Int) : Prop := (z = N ∧ ∀ c, ¬ P c) ∨ (z ≠ N ∧ P z ∧ ∀ c, P c → z ≤ c)
theorem gr_mnC {N z : Int} {P P' : Int → Prop} (e : ∀ c, P' c ↔ P c) (h : gr_mn N P z) : gr_mn N P' z := by
  rcases h with ⟨h1, h2⟩ | ⟨h1, h2, h3⟩
  · exact Or.inl ⟨h1, fun c hc => h2 c ((e c).mp hc)⟩
  · exact Or.inr ⟨h1, (e z).mpr h2, fun c hc => h3 c ((e c).mp hc)⟩
theorem gr_mnU {N N' z z' : Int} {P : Int → Prop} (h : gr_mn N P z) (h' : gr_mn N' P z') : (z = N ∧ z' = N') ∨ (z ≠ N ∧ z' ≠ N' ∧ z = z') := by
  rcases h with ⟨h1, h2⟩ | ⟨h1, h2, h3⟩ <;> rcases h' with ⟨g1, g2⟩ | ⟨g1, g2, g3⟩
  · exact Or.inl ⟨h1, g1⟩
  · exact absurd g2 (h2 _)
  · exact absurd h2 (g2 _)
  · have := h3 _ g2
    have := g3 _ h2
    exact Or.inr ⟨h1, g1, by omega⟩
theorem gr_mnF {N : Int} {P : Int → Prop} (h : ∀ c, ¬ P c) : gr_mn N P N := Or.inl ⟨rfl, h⟩
/-- one candidate set more: taken or left -/
theorem gr_mnT {N z y : Int} {P P2 P' : Int → Prop} (e : ∀ c, P' c ↔ P c ∨ P2 c) (h : gr_mn N P z) (g : gr_mn N P2 y) (hy : y ≠ N) (hl : z = N ∨ y ≤ z) : gr_mn N P' y := by
  rcases g with ⟨g1, _⟩ | ⟨g1, g2, g3⟩
  · exact absurd g1 hy
  · refine Or.inr ⟨hy, (e y).mpr (Or.inr g2), fun c hc => ?_⟩
    rcases (e c).mp hc with hc | hc
    · rcases h with ⟨h1, h2⟩ | ⟨h1, h2, h3⟩
      · exact absurd hc (h2 c)
      · have := h3 c hc
        omega
    · exact g3 c hc
theorem gr_mnK {N z y : Int} {P P2 P' : Int → Prop} (e : ∀ c, P' c ↔ P c ∨ P2 c) (h : gr_mn N P z) (g : gr_mn N P2 y) (hl : y = N ∨ (z ≠ N ∧ z ≤ y)) : gr_mn N P' z := by
  rcases h with ⟨h1, h2⟩ | ⟨h1, h2, h3⟩
  · rcases hl with hl | hl
    · rcases g with ⟨g1, g2⟩ | ⟨g1, g2, g3⟩
      · refine Or.inl ⟨h1, fun c hc => ?_⟩
        rcases (e c).mp hc with hc | hc
        · exact h2 c hc
        · exact g2 c hc
      · exact absurd hl g1
    · exact absurd h1 hl.1
  · refine Or.inr ⟨h1, (e z).mpr (Or.inl h2), fun c hc => ?_⟩
    rcases (e c).mp hc with hc | hc
    · exact h3 c hc
    · rcases g with ⟨g1, g2⟩ | ⟨g1, g2, g3⟩
      · exact absurd hc (g2 c)
      · have := g3 c hc
        omega
theorem gr_mnS {N z x : Int} {P : Int → Prop} (h : gr_mn N P z) (hz : z ≠ N) (hx : z + x ≠ N) : gr_mn N (fun c => ∃ d, P d ∧ c = d + x) (z + x) := by
  rcases h with ⟨h1, h2⟩ | ⟨h1, h2, h3⟩
  · exact absurd h1 hz
  · refine Or.inr ⟨hx, ⟨z, h2, rfl⟩, ?_⟩
    rintro c ⟨d, hd, rfl⟩
    have := h3 d hd
    omega
theorem gr_mnN {N : Int} {P P2 P' : Int → Prop} {z : Int} (e : ∀ c, P' c ↔ P c ∨ P2 c) (h : gr_mn N P z) (g : ∀ c, ¬ P2 c) : gr_mn N P' z := by
  refine gr_mnC (fun c => ?_) h
  rw [e c]
  exact ⟨fun h => h.elim id (fun h => absurd h (g c)), Or.inl⟩
section
variable {A : Nat → Nat → Int → Prop} {K : Nat → Nat → Nat → Int → Prop} {S : Nat → Prop}
def gr_V (A : Nat → Nat → Int → Prop) (S : Nat → Prop) (n v : Nat) (c : Int) : Prop := ∃ s, S s ∧ gr_W A n s v c
/-- the arc relation of twenty numbered arcs -/
def gr_AK (K : Nat → Nat → Nat → Int → Prop) (u v : Nat) (x : Int) : Prop := ∃ j, j < 20 ∧ K j u v x
theorem gr_Vs {n v : Nat} {c : Int} : gr_V A S (n + 1) v c ↔ ∃ u c' x, gr_V A S n u c' ∧ A u v x ∧ c = c' + x := by
  constructor
  · rintro ⟨s, hs, u, c', x, h, a, e⟩
    exact ⟨u, c', x, ⟨s, hs, h⟩, a, e⟩
  · rintro ⟨u, c', x, ⟨s, hs, h⟩, a, e⟩
    exact ⟨s, hs, u, c', x, h, a, e⟩
theorem gr_V1 {s n v : Nat} {c : Int} : gr_V A (fun s' => s' = s) n v c ↔ gr_W A n s v c := by
  constructor
  · rintro ⟨s', rfl, h⟩
    exact h
  · intro h
    exact ⟨s, rfl, h⟩
/-- level l at v when c arc uses have been made, twenty a level -/
def gr_PL (K : Nat → Nat → Nat → Int → Prop) (S : Nat → Prop) (c : Nat) : Nat → Nat → Int → Prop
  | 0, v, cc => S v ∧ cc = 0
  | l + 1, v, cc => ∃ j u x, j < 20 ∧ 20 * l + j < c ∧ K j u v x ∧ ∃ d, gr_V (gr_AK K) S l u d ∧ cc = d + x
theorem gr_PLf {c l v : Nat} {cc : Int} (h : 20 * l ≤ c) : gr_PL K S c l v cc ↔ gr_V (gr_AK K) S l v cc := by
  cases l with
  | zero =>
    constructor
    · rintro ⟨h1, h2⟩
      exact ⟨v, h1, rfl, h2⟩
    · rintro ⟨s, hs, rfl, h2⟩
      exact ⟨hs, h2⟩
  | succ l =>
    rw [gr_Vs]
    constructor
    · rintro ⟨j, u, x, h1, h2, h3, d, h4, h5⟩
      exact ⟨u, d, x, h4, ⟨j, h1, h3⟩, h5⟩
    · rintro ⟨u, d, x, h4, ⟨j, h1, h3⟩, h5⟩
      exact ⟨j, u, x, h1, by omega, h3, d, h4, h5⟩
theorem gr_PL0 {c l v : Nat} {cc : Int} (h : c ≤ 20 * l) : ¬ gr_PL K S c (l + 1) v cc := by
  rintro ⟨j, u, x, h1, h2, _⟩
  omega
theorem gr_PLs {i j l v : Nat} {cc : Int} (hj : j < 20) : gr_PL K S (20 * i + j + 1) l v cc ↔ gr_PL K S (20 * i + j) l v cc ∨ (l = i + 1 ∧ ∃ u x, K j u v x ∧ ∃ d, gr_V (gr_AK K) S i u d ∧ cc = d + x) := by
  cases l with
  | zero =>
    constructor
    · intro h
      exact Or.inl h
    · rintro (h | ⟨h, _⟩)
      · exact h
      · omega
  | succ l =>
    constructor
    · rintro ⟨j', u, x, h1, h2, h3, h4⟩
      by_cases e : 20 * l + j' < 20 * i + j
      · exact Or.inl ⟨j', u, x, h1, e, h3, h4⟩
      · have e1 : l = i := by omega
        have e2 : j' = j := by omega
        subst e1 e2
        exact Or.inr ⟨rfl, u, x, h3, h4⟩
    · rintro (⟨j', u, x, h1, h2, h3, h4⟩ | ⟨h, u, x, h3, h4⟩)
      · exact ⟨j', u, x, h1, by omega, h3, h4⟩
      · have e : l = i := by omega
        subst e
        exact ⟨j, u, x, hj, by omega, h3, h4⟩
/-- a step of the levels at an arc that isn't there -/
theorem gr_lev0 {N : Int} {i j : Nat} (hj : j < 20) (hK : ∀ u v x, ¬ K j u v x) {z : Nat → Nat → Int} (h : ∀ l v, l < 8 → v < 7 → gr_mn N (gr_PL K S (20 * i + j) l v) (z l v)) : ∀ l v, l < 8 → v < 7 → gr_mn N (gr_PL K S (20 * i + j + 1) l v) (z l v) := by
  intro l v hl hv
  refine gr_mnN (fun c => gr_PLs hj) (h l v hl hv) ?_
  rintro c ⟨_, u, x, hk, _⟩
  exact hK u v x hk
/-- and at one that is there -/
theorem gr_lev1 {N : Int} {i j u v : Nat} {x : Int} (hj : j < 20) (hi : i < 7) (hK : ∀ u' v' x', K j u' v' x' ↔ u' = u ∧ v' = v ∧ x' = x) (hu : u < 7) (hv : v < 7) {z z' : Nat → Nat → Int} (h : ∀ l v, l < 8 → v < 7 → gr_mn N (gr_PL K S (20 * i + j) l v) (z l v)) (ho : ∀ l v', l < 8 → v' < 7 → (l ≠ i + 1 ∨ v' ≠ v) → z' l v' = z l v') (hN : z i u ≠ N → z i u + x ≠ N) (hz : (z i u ≠ N ∧ (z (i + 1) v = N ∨ z i u + x < z (i + 1) v) ∧ z' (i + 1) v = z i u + x) ∨ ((z i u = N ∨ (z (i + 1) v ≠ N ∧ z (i + 1) v ≤ z i u + x)) ∧ z' (i + 1) v = z (i + 1) v)) : ∀ l v, l < 8 → v < 7 → gr_mn N (gr_PL K S (20 * i + j + 1) l v) (z' l v) := by
  intro l y hl hy
  have hV : gr_mn N (gr_V (gr_AK K) S i u) (z i u) := gr_mnC (fun c => (gr_PLf (by omega)).symm) (h i u (by omega) hu)
  by_cases e : l = i + 1 ∧ y = v
  · obtain ⟨rfl, rfl⟩ := e
    have he : ∀ c, gr_PL K S (20 * i + j + 1) (i + 1) y c ↔ gr_PL K S (20 * i + j) (i + 1) y c ∨ (∃ d, gr_V (gr_AK K) S i u d ∧ c = d + x) := by
      intro c
      rw [gr_PLs hj]
      constructor
      · rintro (h1 | ⟨_, u', x', hk, h2⟩)
        · exact Or.inl h1
        · obtain ⟨rfl, _, rfl⟩ := (hK _ _ _).mp hk
          exact Or.inr h2
      · rintro (h1 | h2)
        · exact Or.inl h1
        · exact Or.inr ⟨rfl, u, x, (hK _ _ _).mpr ⟨rfl, rfl, rfl⟩, h2⟩
    have h0 := h (i + 1) y hl hy
    rcases hz with ⟨h1, h2, h3⟩ | ⟨h1, h3⟩
    · rw [h3]
      exact gr_mnT he h0 (gr_mnS hV h1 (hN h1)) (hN h1) (h2.imp id (fun h => by omega))
    · rw [h3]
      by_cases hn : z i u = N
      · refine gr_mnN he h0 ?_
        rintro c ⟨d, hd, _⟩
        rcases hV with ⟨_, g⟩ | ⟨g, _⟩
        · exact g d hd
        · exact g hn
      · refine gr_mnK he h0 (gr_mnS hV hn (hN hn)) (Or.inr ?_)
        rcases h1 with h1 | h1
        · exact absurd h1 hn
        · exact h1
  · have hne : l ≠ i + 1 ∨ y ≠ v := by omega
    rw [ho l y hl hy hne]
    refine gr_mnN (fun c => gr_PLs hj) (h l y hl hy) ?_
    rintro c ⟨hl', u', x', hk, _⟩
    have := (hK _ _ _).mp hk
    omega
/-- values of a level -/
theorem gr_Vb (ok : gr_ok A) {n v : Nat} {c : Int} (h : gr_V A S n v c) : -20 * (n : Int) ≤ c ∧ c ≤ 20 * (n : Int) := by
  obtain ⟨s, _, h⟩ := h
  exact gr_Wb ok h
theorem gr_lvr {N : Int} (ok : gr_ok (gr_AK K)) {c l v : Nat} {z : Int} (hl : l < 8) (h : gr_mn N (gr_PL K S c l v) z) : z = N ∨ (z ≠ N ∧ -140 ≤ z ∧ z ≤ 140) := by
  rcases h with ⟨h1, _⟩ | ⟨h1, h2, _⟩
  · exact Or.inl h1
  · refine Or.inr ⟨h1, ?_⟩
    have h3 : gr_V (gr_AK K) S l v z := by
      cases l with
      | zero => exact (gr_PLf (by omega)).mp h2
      | succ l =>
        obtain ⟨j, u, x, g1, g2, g3, d, g4, g5⟩ := h2
        exact gr_Vs.mpr ⟨u, d, x, g4, ⟨j, g1, g3⟩, g5⟩
    have := gr_Vb ok h3
    omega
end
