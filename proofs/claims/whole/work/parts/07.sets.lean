/-! the reference's rings by sets, and fractions -/
def gr_lo (m s : Nat) : Prop := m.testBit s = true ∧ ∀ i, i < s → m.testBit i = false
theorem gr_loU {m s s' : Nat} (h : gr_lo m s) (h' : gr_lo m s') : s = s' := by
  refine Classical.byContradiction fun hn => ?_
  rcases Nat.lt_or_gt_of_ne hn with l | l
  · have := h'.2 s l
    rw [h.1] at this
    exact absurd this (by decide)
  · have := h.2 s' l
    rw [h'.1] at this
    exact absurd this (by decide)
theorem gr_mn2 {N z y : Int} {P P2 : Int → Prop} (h : gr_mn N P z) (g : gr_mn N P2 y) (hz : z ≠ N) (hy : y ≠ N) (hn : z + y ≠ N) : gr_mn N (fun c => ∃ d x, P d ∧ P2 x ∧ c = d + x) (z + y) := by
  rcases h with ⟨h1, _⟩ | ⟨_, h2, h3⟩
  · exact absurd h1 hz
  · rcases g with ⟨g1, _⟩ | ⟨_, g2, g3⟩
    · exact absurd g1 hy
    · refine Or.inr ⟨hn, ⟨z, y, h2, g2, rfl⟩, ?_⟩
      rintro c ⟨d, x, hd, hx, rfl⟩
      have := h3 d hd
      have := g3 x hx
      omega
section
variable {A : Nat → Nat → Int → Prop} {w : Nat → Nat → Int}
/-- set m without v -/
def gr_wo (m v : Nat) : Nat := if m.testBit v = true then m ^^^ 2 ^ v else m
theorem gr_wob (m v i : Nat) : (gr_wo m v).testBit i = (m.testBit i && !decide (v = i)) := by
  unfold gr_wo
  by_cases h : m.testBit v = true
  · rw [if_pos h, Nat.testBit_xor, Nat.testBit_two_pow]
    by_cases e : v = i
    · subst e
      simp [h]
    · simp [e]
  · rw [if_neg h]
    by_cases e : v = i
    · subst e
      simp at h
      simp [h]
    · simp [e]
theorem gr_wol {m v : Nat} (h : m.testBit v = true) : gr_wo m v < m := by
  refine Nat.lt_of_le_of_ne (Nat.le_of_testBit fun i hi => ?_) fun e => ?_
  · rw [gr_wob] at hi
    simp at hi
    exact hi.1
  · have := gr_wob m v v
    rw [e, h] at this
    simp at this
theorem gr_wor {m v : Nat} (h : m.testBit v = true) : gr_wo m v ||| 2 ^ v = m := by
  apply Nat.eq_of_testBit_eq
  intro i
  rw [Nat.testBit_or, gr_wob, Nat.testBit_two_pow]
  by_cases e : v = i
  · subst e
    simp [h]
  · simp [e]
theorem gr_wou {m m' v : Nat} (b : m'.testBit v = false) (e : m = m' ||| 2 ^ v) : m' = gr_wo m v := by
  apply Nat.eq_of_testBit_eq
  intro i
  rw [gr_wob, e, Nat.testBit_or, Nat.testBit_two_pow]
  by_cases e : v = i
  · subst e
    simp [b]
  · simp [e]
/-- the table of ways: sets below M are done -/
def gr_E5 (A : Nat → Nat → Int → Prop) (M : Nat) (w : Nat → Nat → Int) : Prop := ∀ m v, m < 128 → v < 7 → (m < M → ∀ s, gr_lo m s → gr_mn (-3000) (fun c => ∃ n, gr_S A gr_T s n v m c) (w m v)) ∧ (M ≤ m → w m v = if m = 2 ^ v then 0 else -3000)
/-- set M at v when c pairs have been looked at -/
def gr_PT (A : Nat → Nat → Int → Prop) (M s c v : Nat) (cc : Int) : Prop := (M = 2 ^ v ∧ cc = 0) ∨ ∃ u, 7 * v + u < c ∧ u < 7 ∧ v ≠ s ∧ v ≠ u ∧ M.testBit v = true ∧ (gr_wo M v).testBit u = true ∧ ∃ d x, (∃ n, gr_S A gr_T s n u (gr_wo M v) d) ∧ A u v x ∧ cc = d + x
theorem gr_PTf (ok : gr_in A) {M s v : Nat} {cc : Int} (hl : gr_lo M s) (hv : v < 7) : (∃ n, gr_S A gr_T s n v M cc) ↔ gr_PT A M s 49 v cc := by
  constructor
  · rintro ⟨n, g⟩
    cases n with
    | zero =>
      obtain ⟨rfl, h2, h3, _⟩ := g
      exact Or.inl ⟨h2, h3⟩
    | succ n =>
      have hM := gr_Sv g
      obtain ⟨u, m', c', x, g, a, e, b, e', _⟩ := g
      have e2 := gr_wou b e'
      subst e2
      refine Or.inr ⟨u, ?_, (ok _ _ _ a).1, ?_, ?_, hM, gr_Sv g, c', x, ⟨n, g⟩, a, e⟩
      · have := (ok _ _ _ a).1
        omega
      · intro e3
        subst e3
        have := gr_Ss g
        rw [b] at this
        exact absurd this (by decide)
      · intro e3
        subst e3
        have := gr_Sv g
        rw [b] at this
        exact absurd this (by decide)
  · rintro (⟨h1, h2⟩ | ⟨u, _, hu, h1, h2, h3, h4, d, x, ⟨n, g⟩, a, e⟩)
    · have e : v = s := by
        have := hl.1
        rw [h1, Nat.testBit_two_pow] at this
        exact of_decide_eq_true this
      subst e
      exact ⟨0, rfl, h1, h2, trivial⟩
    · refine ⟨n + 1, u, gr_wo M v, d, x, g, a, e, ?_, (gr_wor h3).symm, trivial⟩
      rw [gr_wob]
      simp
theorem gr_PT0 {M s v : Nat} {cc : Int} : gr_PT A M s 0 v cc ↔ (M = 2 ^ v ∧ cc = 0) := by
  constructor
  · rintro (h | ⟨u, h, _⟩)
    · exact h
    · omega
  · intro h
    exact Or.inl h
theorem gr_PTs {M s v v' u : Nat} {cc : Int} (hu : u < 7) : gr_PT A M s (7 * v + u + 1) v' cc ↔ gr_PT A M s (7 * v + u) v' cc ∨ (v' = v ∧ v ≠ s ∧ v ≠ u ∧ M.testBit v = true ∧ (gr_wo M v).testBit u = true ∧ ∃ d x, (∃ n, gr_S A gr_T s n u (gr_wo M v) d) ∧ A u v x ∧ cc = d + x) := by
  constructor
  · rintro (h | ⟨u', h1, h2, h3⟩)
    · exact Or.inl (Or.inl h)
    · by_cases c : 7 * v' + u' < 7 * v + u
      · exact Or.inl (Or.inr ⟨u', c, h2, h3⟩)
      · have e1 : v' = v := by omega
        have e2 : u' = u := by omega
        subst e1 e2
        exact Or.inr ⟨rfl, h3⟩
  · rintro ((h | ⟨u', h1, h2, h3⟩) | ⟨rfl, h3⟩)
    · exact Or.inl h
    · exact Or.inr ⟨u', by omega, h2, h3⟩
    · exact Or.inr ⟨u, by omega, hu, h3⟩
/-- a ring over the set m with its lowest point, closed from v -/
def gr_RC (A : Nat → Nat → Int → Prop) (m v : Nat) (c : Int) : Prop := ∃ s, gr_lo m s ∧ ∃ d x, (∃ n, gr_S A gr_T s n v m d) ∧ A v s x ∧ c = d + x
theorem gr_loE {m : Nat} : ∀ {p : Nat}, m.testBit p = true → ∃ s, s ≤ p ∧ gr_lo m s := by
  intro p
  induction p using Nat.strongRecOn with
  | ind p ih =>
    intro h
    by_cases c : ∃ i, i < p ∧ m.testBit i = true
    · obtain ⟨i, hi, hb⟩ := c
      obtain ⟨s, hs, hl⟩ := ih i hi hb
      exact ⟨s, by omega, hl⟩
    · refine ⟨p, Nat.le_refl p, h, fun i hi => ?_⟩
      cases z : m.testBit i with
      | false => rfl
      | true => exact absurd ⟨i, hi, z⟩ c
theorem gr_RgRC {s m n : Nat} {c : Int} (h : gr_Rg A s m n c) : ∃ v, gr_RC A m v c ∧ ∃ x y, A v x y := by
  have hs : m.testBit s = true := by
    obtain ⟨n', u, c', x, h, _⟩ := h
    exact gr_Ss h
  obtain ⟨p, _, hp⟩ := gr_loE hs
  obtain ⟨n', u, c', x, h, a, _, e⟩ := gr_rot h hp.1
  exact ⟨u, ⟨p, hp, c', x, ⟨n', h⟩, a, e⟩, p, x, a⟩
theorem gr_RCRg (ok : gr_in A) {m v : Nat} {c : Int} (h : gr_RC A m v c) : ∃ s, s < 7 ∧ gr_Rg A s m (gr_pc m) c := by
  obtain ⟨s, hl, d, x, ⟨n, g⟩, a, e⟩ := h
  have hs := (ok _ _ _ a).2
  have := gr_Spc ok hs g
  exact ⟨s, hs, n, v, d, x, g, a, this.2, e⟩
end
/-- fractions: no common divisor from d on -/
def gr_nc (d : Int) (t b : Int) : Prop := ∀ e : Int, d ≤ e → e ≤ 7 → e ∣ t → e ∣ b → False
theorem gr_nc1 {d t b : Int} (hd : 2 ≤ d) (hb : 1 ≤ b) (hb7 : b ≤ 7) (h : gr_nc (d + 1) t b) {t1 b1 : Int} (et : t = d * t1) (eb : b = d * b1) : gr_nc d t1 b1 := by
  intro e h1 h2 h3 h4
  obtain ⟨t2, rfl⟩ := h3
  obtain ⟨b2, rfl⟩ := h4
  have p1 : 1 ≤ b2 := by
    refine Classical.byContradiction fun hn => ?_
    have : e * b2 ≤ 0 := Int.mul_nonpos_of_nonneg_of_nonpos (by omega) (by omega)
    have : d * (e * b2) ≤ 0 := Int.mul_nonpos_of_nonneg_of_nonpos (by omega) this
    omega
  have p2 : d * e ≤ 7 := by
    have h5 : d * e * 1 ≤ d * e * b2 := Int.mul_le_mul_of_nonneg_left p1 (Int.mul_nonneg (by omega) (by omega))
    rw [Int.mul_assoc d e b2] at h5
    omega
  have p3 : d * 2 ≤ d * e := Int.mul_le_mul_of_nonneg_left (by omega) (by omega)
  refine h (d * e) (by omega) p2 ⟨t2, ?_⟩ ⟨b2, ?_⟩
  · rw [et, Int.mul_assoc]
  · rw [eb, Int.mul_assoc]
theorem gr_nc2 {d t b : Int} (h : gr_nc (d + 1) t b) (hn : ¬ (d ∣ t ∧ d ∣ b)) : gr_nc d t b := by
  intro e h1 h2 h3 h4
  by_cases c : e = d
  · subst c
    exact hn ⟨h3, h4⟩
  · exact h e (by omega) h2 h3 h4
theorem gr_ncU {t b t' b' : Int} (hb : 1 ≤ b) (hb7 : b ≤ 7) (hb' : 1 ≤ b') (hb7' : b' ≤ 7) (h : gr_nc 2 t b) (h' : gr_nc 2 t' b') (e : t * b' = t' * b) : t = t' ∧ b = b' := by
  have key : ∀ t b t' b' : Int, 1 ≤ b → b ≤ 7 → 1 ≤ b' → gr_nc 2 t b → t * b' = t' * b → b ≤ b' := by
    intro t b t' b' hb hb7 hb' h e
    have hg : Int.gcd b t = 1 := by
      refine Classical.byContradiction fun hn => ?_
      have d1 : (Int.gcd b t : Int) ∣ b := Int.gcd_dvd_left ..
      have d2 : (Int.gcd b t : Int) ∣ t := Int.gcd_dvd_right ..
      have l1 := Int.le_of_dvd (by omega) d1
      have p0 : Int.gcd b t ≠ 0 := by
        intro z
        rw [z] at d1
        have : b = 0 := Int.zero_dvd.mp d1
        omega
      exact h (Int.gcd b t) (by omega) (by omega) d2 d1
    have d3 : b ∣ t * b' := ⟨t', by rw [e, Int.mul_comm]⟩
    have d4 := Int.natAbs_dvd_natAbs.mpr d3
    rw [Int.natAbs_mul] at d4
    have hg' : Nat.Coprime b.natAbs t.natAbs := hg
    have d5 := Nat.le_of_dvd (by omega) (hg'.dvd_of_dvd_mul_left d4)
    omega
  have k1 := key t b t' b' hb hb7 hb' h e
  have k2 := key t' b' t b hb' hb7' hb h' e.symm
  have e2 : b = b' := by omega
  subst e2
  exact ⟨Int.eq_of_mul_eq_mul_right (by omega) e, rfl⟩
